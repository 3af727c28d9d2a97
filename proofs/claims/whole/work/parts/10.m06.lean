section GEN06
variable {l : Launch} {D : va_G} {cy : Nat → ClassId} {ad : Nat → Nat}
def f_X12_number_50 (K : Int32 → Mm → Prop) (v3 : Int32) (s0 : Int32) (s1 : Nat) (M : Mm) : Prop := (f_X12_due (s0) (1) M (fun M1 => K (v3) M1))
def f_X12_number_36 (K : Int32 → Mm → Prop) (v3 : Int32) (M : Mm) : Prop := ((((M 0 9 : Int32) = 2 : Prop) → f_X12_number_50 K (v3) (1) (0) M) ∧ (¬ ((M 0 9 : Int32) = 2 : Prop) → f_X12_number_50 K (v3) (0) (0) M))
def f_X12_number (v1 : Int32) (v2 : Int32) (M : Mm) (K : Int32 → Mm → Prop) : Prop := ((((M 0 11 : Int32) = 0 : Prop) → ((((M 0 9 : Int32) = 2 : Prop) → (f_X12_in (M 0 10) (v1) (v2) M (fun r6 M5 => ((((r6 : Int32) = 0 : Prop) → (∀ M8 : Mm, M8 = gU M5 0 11 (2) → K (v1) M8)) ∧ (¬ ((r6 : Int32) = 0 : Prop) → f_X12_number_36 K (M 0 10) M5))))) ∧ (¬ ((M 0 9 : Int32) = 2 : Prop) → f_X12_number_36 K (M 0 10) M))) ∧ (¬ ((M 0 11 : Int32) = 0 : Prop) → f_X12_number_36 K (M 0 10) M))
set_option maxHeartbeats 4000000 in
set_option maxRecDepth 100000 in
theorem m_X12_number (hI : gI 17 ad) {v1 : Int32} {v2 : Int32} {M : Mm} {K : Int32 → Mm → Prop} (h : f_X12_number v1 v2 M K) : gM l D cy 17 ad (shR ad cy) yX12_number cX12_number 4 (some .int) 3 66 [.ref (ad 0), .int (v1), .int (v2)] M (gQi D 17 ad (shR ad cy) K) := by
  refine gM.of (own := RX12) (lv := [(0, .ref (ad 0)), (1, .int (v1)), (2, .int (v2))]) (by decide) rfl hI (Nat.le_of_ble_eq_true rfl) rfl ?_
  intro p e s m below meth c ls H locs X G hl
  have hx := X.1
  have hb := X.2.1
  have hJ50 : ∀ (v3 : Int32) (s0 : Int32) (s1 : Nat) (M : Mm) (H : Heap) (locs : List Loc) (ls : Array Slot), gS D s 17 ad (shR ad cy) H locs M → lv_has ls 4 [(3, .int (v3))] → f_X12_number_50 K v3 s0 s1 M → gWk p l e 3 66 s m ([.ref (ad 0), .int (v1), .int (v2)] : List Value).toArray below meth c H locs (gQi D 17 ad (shR ad cy) K) 17 ad 50 ls [.int (s0), .ref (ad 0)] := by
    intro v3 s0 s1 M H locs ls G hl h
    unfold f_X12_number_50 at h
    refine lv_iconst (v := (1)) hx hb dX12_number_50 (by decide) ?_
    refine gq_callv G (gc_V (C := RX12) (rest := []) X hl.1 G (m_X12_due hI  h) cw_X12_due qw_15_5 qw_15_6 qw_15_7 ob_Model rfl rfl rfl rfl (Nat.le_of_ble_eq_true rfl) ⟨Nat.le_of_ble_eq_true rfl, Nat.le_of_ble_eq_true rfl⟩ ⟨Nat.le_refl _, Nat.le_refl _⟩ dX12_number_51) (fun M1 H locs G h => ?_)
    refine lv_iload_n hx hb dX12_number_54 rfl (lv_at hl 0 rfl) ?_
    exact gq_iret X G h dX12_number_55
  have hJ36 : ∀ (v3 : Int32) (M : Mm) (H : Heap) (locs : List Loc) (ls : Array Slot), gS D s 17 ad (shR ad cy) H locs M → lv_has ls 4 [(0, .ref (ad 0)), (3, .int (v3))] → f_X12_number_36 K v3 M → gWk p l e 3 66 s m ([.ref (ad 0), .int (v1), .int (v2)] : List Value).toArray below meth c H locs (gQi D 17 ad (shR ad cy) K) 17 ad 36 ls [] := by
    intro v3 M H locs ls G hl h
    unfold f_X12_number_36 at h
    refine lv_aload_n hx hb dX12_number_36 rfl (lv_at hl 0 rfl) ?_
    refine lv_aload_n hx hb dX12_number_37 rfl (lv_at hl 0 rfl) ?_
    refine gf_Model_sort X G qw_14_15 dX12_number_38 ?_
    refine lv_iconst (v := (2)) hx hb dX12_number_41 (by decide) ?_
    refine lv_icmp_ne (tgt := 49) hx hb dX12_number_42 (by decide) (fun c2 => ?_) (fun c2 => ?_)
    · have h := h.2 c2
      refine lv_iconst (v := (0)) hx hb dX12_number_49 (by decide) ?_
      exact hJ50 (v3) (0) (0) M H locs ls G  (lv_sub hl [1] rfl) h
    have h := h.1 c2
    refine lv_iconst (v := (1)) hx hb dX12_number_45 (by decide) ?_
    refine lv_goto (tgt := 50) hx hb dX12_number_46 (by decide) ?_
    exact hJ50 (v3) (1) (0) M H locs ls G  (lv_sub hl [1] rfl) h
  unfold f_X12_number at h
  refine lv_aload_n hx hb dX12_number_0 rfl (lv_at hl 0 rfl) ?_
  refine gf_Model_value X G qw_14_16 dX12_number_1 ?_
  refine lv_istore_n (lv' := [(3, .int (M 0 10)), (0, .ref (ad 0)), (1, .int (v1)), (2, .int (v2))]) hx hb dX12_number_4 rfl hl (by decide) rfl (fun ls hl => ?_)
  refine lv_aload_n hx hb dX12_number_5 rfl (lv_at hl 1 rfl) ?_
  refine gf_Model_wrong X G qw_14_4 dX12_number_6 ?_
  refine lv_if_ne (tgt := 36) hx hb dX12_number_9 (by decide) (fun c3 => ?_) (fun c3 => ?_)
  · have h := h.2 c3
    exact hJ36 (M 0 10)  M H locs ls G  (lv_sub hl [1, 0] rfl) h
  have h := h.1 c3
  refine lv_aload_n hx hb dX12_number_12 rfl (lv_at hl 1 rfl) ?_
  refine gf_Model_sort X G qw_14_15 dX12_number_13 ?_
  refine lv_iconst (v := (2)) hx hb dX12_number_16 (by decide) ?_
  refine lv_icmp_ne (tgt := 36) hx hb dX12_number_17 (by decide) (fun c4 => ?_) (fun c4 => ?_)
  · have h := h.2 c4
    exact hJ36 (M 0 10)  M H locs ls G  (lv_sub hl [1, 0] rfl) h
  have h := h.1 c4
  refine lv_iload_n hx hb dX12_number_20 rfl (lv_at hl 0 rfl) ?_
  refine lv_iload_n hx hb dX12_number_21 rfl (lv_at hl 2 rfl) ?_
  refine lv_iload_n hx hb dX12_number_22 rfl (lv_at hl 3 rfl) ?_
  refine gq_calli G (gc_S (rest := []) X hl.1 G (m_X12_in hI  h) cw_X12_in qw_7_12 qw_7_13 rfl rfl (Nat.le_of_ble_eq_true rfl) ⟨Nat.le_of_ble_eq_true rfl, Nat.le_of_ble_eq_true rfl⟩ ⟨Nat.le_refl _, Nat.le_refl _⟩ dX12_number_23) (fun r6 M5 H locs G h => ?_)
  refine lv_if_ne (tgt := 36) hx hb dX12_number_26 (by decide) (fun c7 => ?_) (fun c7 => ?_)
  · have h := h.2 c7
    exact hJ36 (M 0 10)  M5 H locs ls G  (lv_sub hl [1, 0] rfl) h
  have h := h.1 c7
  refine lv_aload_n hx hb dX12_number_29 rfl (lv_at hl 1 rfl) ?_
  refine lv_iconst (v := (2)) hx hb dX12_number_30 (by decide) ?_
  refine gp_Model_wrong X G qw_14_4 dX12_number_31 (fun M8 H locs e9 G => ?_)
  have h := h M8 e9
  refine lv_iload_n hx hb dX12_number_34 rfl (lv_at hl 2 rfl) ?_
  exact gq_iret X G h dX12_number_35
def f_X12_kindBy (v0 : Int32) (M : Mm) (K : Int32 → Mm → Prop) : Prop := (((v0 : Int32) = 98 → K (5) M) ∧ (¬ (v0 : Int32) = 98 → (((v0 : Int32) = 100 → K (2) M) ∧ (¬ (v0 : Int32) = 100 → (((v0 : Int32) = 108 → K (1) M) ∧ (¬ (v0 : Int32) = 108 → (((v0 : Int32) = 111 → K (4) M) ∧ (¬ (v0 : Int32) = 111 → (((v0 : Int32) = 115 → K (3) M) ∧ (¬ (v0 : Int32) = 115 → K (0) M))))))))))
set_option maxHeartbeats 4000000 in
set_option maxRecDepth 100000 in
theorem m_X12_kindBy (hI : gI 17 ad) {v0 : Int32} {M : Mm} {K : Int32 → Mm → Prop} (h : f_X12_kindBy v0 M K) : gM l D cy 17 ad (shR ad cy) yX12_kindBy cX12_kindBy 1 (some .int) 0 0 [.int (v0)] M (gQi D 17 ad (shR ad cy) K) := by
  refine gM.of (own := RX12) (lv := [(0, .int (v0))]) (by decide) rfl hI (Nat.le_of_ble_eq_true rfl) rfl ?_
  intro p e s m below meth c ls H locs X G hl
  have hx := X.1
  have hb := X.2.1
  unfold f_X12_kindBy at h
  refine lv_iload_n hx hb dX12_kindBy_0 rfl (lv_at hl 0 rfl) ?_
  by_cases c1 : (v0 : Int32) = 98
  · refine gq_lookIn (v := 98) (tgt := 60) hx hb dX12_kindBy_1 (by decide) c1 rfl (by decide) ?_
    have h := h.1 c1
    refine lv_iconst (v := (5)) hx hb dX12_kindBy_60 (by decide) ?_
    exact gq_iret X G h dX12_kindBy_61
  have h := h.2 c1
  by_cases c2 : (v0 : Int32) = 100
  · refine gq_lookIn (v := 100) (tgt := 54) hx hb dX12_kindBy_1 (by decide) c2 rfl (by decide) ?_
    have h := h.1 c2
    refine lv_iconst (v := (2)) hx hb dX12_kindBy_54 (by decide) ?_
    exact gq_iret X G h dX12_kindBy_55
  have h := h.2 c2
  by_cases c3 : (v0 : Int32) = 108
  · refine gq_lookIn (v := 108) (tgt := 52) hx hb dX12_kindBy_1 (by decide) c3 rfl (by decide) ?_
    have h := h.1 c3
    refine lv_iconst (v := (1)) hx hb dX12_kindBy_52 (by decide) ?_
    exact gq_iret X G h dX12_kindBy_53
  have h := h.2 c3
  by_cases c4 : (v0 : Int32) = 111
  · refine gq_lookIn (v := 111) (tgt := 58) hx hb dX12_kindBy_1 (by decide) c4 rfl (by decide) ?_
    have h := h.1 c4
    refine lv_iconst (v := (4)) hx hb dX12_kindBy_58 (by decide) ?_
    exact gq_iret X G h dX12_kindBy_59
  have h := h.2 c4
  by_cases c5 : (v0 : Int32) = 115
  · refine gq_lookIn (v := 115) (tgt := 56) hx hb dX12_kindBy_1 (by decide) c5 rfl (by decide) ?_
    have h := h.1 c5
    refine lv_iconst (v := (3)) hx hb dX12_kindBy_56 (by decide) ?_
    exact gq_iret X G h dX12_kindBy_57
  have h := h.2 c5
  refine lv_lookup (off := 61) (tgt := 62) hx hb dX12_kindBy_1 (by decide) ((lv_osw c1 rfl).trans ((lv_osw c2 rfl).trans ((lv_osw c3 rfl).trans ((lv_osw c4 rfl).trans ((lv_osw c5 rfl).trans (rfl)))))) (by decide) ?_
  refine lv_iconst (v := (0)) hx hb dX12_kindBy_62 (by decide) ?_
  exact gq_iret X G h dX12_kindBy_63
def f_X12_one_118 (K : Mm → Prop) (s0 : Int32) (s1 : Nat) (M : Mm) : Prop := (f_X12_due (s0) (1) M (fun M1 => (∀ M2 : Mm, M2 = gU M1 6 (3 : Int32).toNatClampNeg ((M1 6 (3 : Int32).toNatClampNeg) + 1) → K M2)))
def f_X12_one_80 (K : Mm → Prop) (s0 : Int32) (s1 : Nat) (M : Mm) : Prop := (f_X12_due (s0) (1) M (fun M4 => (f_X12_number (0) (1) M4 (fun r6 M5 => (vp_in (12 + (M4 6 (3 : Int32).toNatClampNeg)) 22 ∧ (∀ M8 : Mm, M8 = gU M5 8 (12 + (M4 6 (3 : Int32).toNatClampNeg) : Int32).toNatClampNeg (r6) → ((((M8 0 9 : Int32) = 4 : Prop) → f_X12_one_118 K (1) (0) M8) ∧ (¬ ((M8 0 9 : Int32) = 4 : Prop) → f_X12_one_118 K (0) (0) M8))))))))
def f_X12_one  (M : Mm) (K : Mm → Prop) : Prop := ((((M 6 (3 : Int32).toNatClampNeg : Int32) = 5 : Prop) → (∀ M24 : Mm, M24 = gU M 0 11 (3) → K M24)) ∧ (¬ ((M 6 (3 : Int32).toNatClampNeg : Int32) = 5 : Prop) → (f_X12_kindBy (M 0 10) M (fun r13 M12 => (vp_in (28 + (M 6 (3 : Int32).toNatClampNeg)) 33 ∧ (∀ M15 : Mm, M15 = gU M12 6 (28 + (M 6 (3 : Int32).toNatClampNeg) : Int32).toNatClampNeg (r13) → (f_X12_step  M15 (fun M17 => (f_X12_number (0) (M17 6 (2 : Int32).toNatClampNeg) M17 (fun r19 M18 => (vp_in (7 + (M17 6 (3 : Int32).toNatClampNeg)) 22 ∧ (∀ M21 : Mm, M21 = gU M18 8 (7 + (M17 6 (3 : Int32).toNatClampNeg) : Int32).toNatClampNeg (r19) → ((((M21 0 9 : Int32) = 3 : Prop) → f_X12_one_80 K (1) (0) M21) ∧ (¬ ((M21 0 9 : Int32) = 3 : Prop) → f_X12_one_80 K (0) (0) M21))))))))))))))
set_option maxHeartbeats 4000000 in
set_option maxRecDepth 100000 in
theorem m_X12_one (hI : gI 17 ad)  {M : Mm} {K : Mm → Prop} (h : f_X12_one  M K) : gM l D cy 17 ad (shR ad cy) yX12_one cX12_one 1 none 4 89 [.ref (ad 0)] M (gQv D 17 ad (shR ad cy) K) := by
  refine gM.of (own := RX12) (lv := [(0, .ref (ad 0))]) (by decide) rfl hI (Nat.le_of_ble_eq_true rfl) rfl ?_
  intro p e s m below meth c ls H locs X G hl
  have hx := X.1
  have hb := X.2.1
  have hJ118 : ∀ (s0 : Int32) (s1 : Nat) (M : Mm) (H : Heap) (locs : List Loc) (ls : Array Slot), gS D s 17 ad (shR ad cy) H locs M → lv_has ls 1 [(0, .ref (ad 0))] → f_X12_one_118 K s0 s1 M → gWk p l e 4 89 s m ([.ref (ad 0)] : List Value).toArray below meth c H locs (gQv D 17 ad (shR ad cy) K) 17 ad 118 ls [.int (s0), .ref (ad 0)] := by
    intro s0 s1 M H locs ls G hl h
    unfold f_X12_one_118 at h
    refine lv_iconst (v := (1)) hx hb dX12_one_118 (by decide) ?_
    refine gq_callv G (gc_V (C := RX12) (rest := []) X hl.1 G (m_X12_due hI  h) cw_X12_due qw_15_5 qw_15_6 qw_15_7 ob_Model rfl rfl rfl rfl (Nat.le_of_ble_eq_true rfl) ⟨Nat.le_of_ble_eq_true rfl, Nat.le_of_ble_eq_true rfl⟩ ⟨Nat.le_refl _, Nat.le_refl _⟩ dX12_one_119) (fun M1 H locs G h => ?_)
    refine lv_aload_n hx hb dX12_one_122 rfl (lv_at hl 0 rfl) ?_
    refine gf_Model_draft X G qw_5_12 dX12_one_123 ?_
    refine lv_iconst (v := (3)) hx hb dX12_one_126 (by decide) ?_
    refine lv_dup2_11 hx hb dX12_one_127 rfl rfl ?_
    refine gq_iald X G rr_6 (by unfold vp_in; decide) dX12_one_128 ?_
    refine lv_iconst (v := (1)) hx hb dX12_one_129 (by decide) ?_
    refine lv_iadd hx hb dX12_one_130 ?_
    refine gq_iast X G rr_6 (by unfold vp_in; decide) dX12_one_131 (fun M2 H locs e3 G => ?_)
    have h := h M2 e3
    exact gq_vret X G h dX12_one_132
  have hJ80 : ∀ (s0 : Int32) (s1 : Nat) (M : Mm) (H : Heap) (locs : List Loc) (ls : Array Slot), gS D s 17 ad (shR ad cy) H locs M → lv_has ls 1 [(0, .ref (ad 0))] → f_X12_one_80 K s0 s1 M → gWk p l e 4 89 s m ([.ref (ad 0)] : List Value).toArray below meth c H locs (gQv D 17 ad (shR ad cy) K) 17 ad 80 ls [.int (s0), .ref (ad 0)] := by
    intro s0 s1 M H locs ls G hl h
    unfold f_X12_one_80 at h
    refine lv_iconst (v := (1)) hx hb dX12_one_80 (by decide) ?_
    refine gq_callv G (gc_V (C := RX12) (rest := []) X hl.1 G (m_X12_due hI  h) cw_X12_due qw_15_5 qw_15_6 qw_15_7 ob_Model rfl rfl rfl rfl (Nat.le_of_ble_eq_true rfl) ⟨Nat.le_of_ble_eq_true rfl, Nat.le_of_ble_eq_true rfl⟩ ⟨Nat.le_refl _, Nat.le_refl _⟩ dX12_one_81) (fun M4 H locs G h => ?_)
    refine lv_aload_n hx hb dX12_one_84 rfl (lv_at hl 0 rfl) ?_
    refine gf_Model_begun X G qw_5_14 dX12_one_85 ?_
    refine lv_bipush (v := (12)) hx hb dX12_one_88 (by decide) ?_
    refine lv_aload_n hx hb dX12_one_90 rfl (lv_at hl 0 rfl) ?_
    refine gf_Model_draft X G qw_5_12 dX12_one_91 ?_
    refine lv_iconst (v := (3)) hx hb dX12_one_94 (by decide) ?_
    refine gq_iald X G rr_6 (by unfold vp_in; decide) dX12_one_95 ?_
    refine lv_iadd hx hb dX12_one_96 ?_
    refine lv_aload_n hx hb dX12_one_97 rfl (lv_at hl 0 rfl) ?_
    refine lv_iconst (v := (0)) hx hb dX12_one_98 (by decide) ?_
    refine lv_iconst (v := (1)) hx hb dX12_one_99 (by decide) ?_
    refine gq_calli G (gc_V (C := RX12) (rest := [.int (12 + (M4 6 (3 : Int32).toNatClampNeg)), .ref (ad 8)]) X hl.1 G (m_X12_number hI  h) cw_X12_number qw_15_9 qw_15_10 qw_15_11 ob_Model rfl rfl rfl rfl (Nat.le_of_ble_eq_true rfl) ⟨Nat.le_of_ble_eq_true rfl, Nat.le_of_ble_eq_true rfl⟩ ⟨Nat.le_refl _, Nat.le_refl _⟩ dX12_one_100) (fun r6 M5 H locs G h => ?_)
    obtain ⟨q7, h⟩ := h
    refine gq_iast X G rr_8 q7 dX12_one_103 (fun M8 H locs e9 G => ?_)
    have h := h M8 e9
    refine lv_aload_n hx hb dX12_one_104 rfl (lv_at hl 0 rfl) ?_
    refine lv_aload_n hx hb dX12_one_105 rfl (lv_at hl 0 rfl) ?_
    refine gf_Model_sort X G qw_14_15 dX12_one_106 ?_
    refine lv_iconst (v := (4)) hx hb dX12_one_109 (by decide) ?_
    refine lv_icmp_ne (tgt := 117) hx hb dX12_one_110 (by decide) (fun c10 => ?_) (fun c10 => ?_)
    · have h := h.2 c10
      refine lv_iconst (v := (0)) hx hb dX12_one_117 (by decide) ?_
      exact hJ118  (0) (0) M8 H locs ls G  (lv_sub hl [0] rfl) h
    have h := h.1 c10
    refine lv_iconst (v := (1)) hx hb dX12_one_113 (by decide) ?_
    refine lv_goto (tgt := 118) hx hb dX12_one_114 (by decide) ?_
    exact hJ118  (1) (0) M8 H locs ls G  (lv_sub hl [0] rfl) h
  unfold f_X12_one at h
  refine lv_aload_n hx hb dX12_one_0 rfl (lv_at hl 0 rfl) ?_
  refine gf_Model_draft X G qw_5_12 dX12_one_1 ?_
  refine lv_iconst (v := (3)) hx hb dX12_one_4 (by decide) ?_
  refine gq_iald X G rr_6 (by unfold vp_in; decide) dX12_one_5 ?_
  refine lv_iconst (v := (5)) hx hb dX12_one_6 (by decide) ?_
  refine lv_icmp_ne (tgt := 16) hx hb dX12_one_7 (by decide) (fun c11 => ?_) (fun c11 => ?_)
  · have h := h.2 c11
    refine lv_aload_n hx hb dX12_one_16 rfl (lv_at hl 0 rfl) ?_
    refine gf_Model_draft X G qw_5_12 dX12_one_17 ?_
    refine lv_bipush (v := (28)) hx hb dX12_one_20 (by decide) ?_
    refine lv_aload_n hx hb dX12_one_22 rfl (lv_at hl 0 rfl) ?_
    refine gf_Model_draft X G qw_5_12 dX12_one_23 ?_
    refine lv_iconst (v := (3)) hx hb dX12_one_26 (by decide) ?_
    refine gq_iald X G rr_6 (by unfold vp_in; decide) dX12_one_27 ?_
    refine lv_iadd hx hb dX12_one_28 ?_
    refine lv_aload_n hx hb dX12_one_29 rfl (lv_at hl 0 rfl) ?_
    refine gf_Model_value X G qw_14_16 dX12_one_30 ?_
    refine gq_calli G (gc_S (rest := [.int (28 + (M 6 (3 : Int32).toNatClampNeg)), .ref (ad 6)]) X hl.1 G (m_X12_kindBy hI  h) cw_X12_kindBy qw_15_21 qw_15_22 rfl rfl (Nat.le_of_ble_eq_true rfl) ⟨Nat.le_of_ble_eq_true rfl, Nat.le_of_ble_eq_true rfl⟩ ⟨Nat.le_refl _, Nat.le_refl _⟩ dX12_one_33) (fun r13 M12 H locs G h => ?_)
    obtain ⟨q14, h⟩ := h
    refine gq_iast X G rr_6 q14 dX12_one_36 (fun M15 H locs e16 G => ?_)
    have h := h M15 e16
    refine lv_aload_n hx hb dX12_one_37 rfl (lv_at hl 0 rfl) ?_
    refine gq_callv G (gc_V (C := RX12) (rest := []) X hl.1 G (m_X12_step hI  h) cw_X12_step qw_14_17 qw_14_18 qw_14_19 ob_Model rfl rfl rfl rfl (Nat.le_of_ble_eq_true rfl) ⟨Nat.le_of_ble_eq_true rfl, Nat.le_of_ble_eq_true rfl⟩ ⟨Nat.le_refl _, Nat.le_refl _⟩ dX12_one_38) (fun M17 H locs G h => ?_)
    refine lv_aload_n hx hb dX12_one_41 rfl (lv_at hl 0 rfl) ?_
    refine gf_Model_begun X G qw_5_14 dX12_one_42 ?_
    refine lv_bipush (v := (7)) hx hb dX12_one_45 (by decide) ?_
    refine lv_aload_n hx hb dX12_one_47 rfl (lv_at hl 0 rfl) ?_
    refine gf_Model_draft X G qw_5_12 dX12_one_48 ?_
    refine lv_iconst (v := (3)) hx hb dX12_one_51 (by decide) ?_
    refine gq_iald X G rr_6 (by unfold vp_in; decide) dX12_one_52 ?_
    refine lv_iadd hx hb dX12_one_53 ?_
    refine lv_aload_n hx hb dX12_one_54 rfl (lv_at hl 0 rfl) ?_
    refine lv_iconst (v := (0)) hx hb dX12_one_55 (by decide) ?_
    refine lv_aload_n hx hb dX12_one_56 rfl (lv_at hl 0 rfl) ?_
    refine gf_Model_draft X G qw_5_12 dX12_one_57 ?_
    refine lv_iconst (v := (2)) hx hb dX12_one_60 (by decide) ?_
    refine gq_iald X G rr_6 (by unfold vp_in; decide) dX12_one_61 ?_
    refine gq_calli G (gc_V (C := RX12) (rest := [.int (7 + (M17 6 (3 : Int32).toNatClampNeg)), .ref (ad 8)]) X hl.1 G (m_X12_number hI  h) cw_X12_number qw_15_9 qw_15_10 qw_15_11 ob_Model rfl rfl rfl rfl (Nat.le_of_ble_eq_true rfl) ⟨Nat.le_of_ble_eq_true rfl, Nat.le_of_ble_eq_true rfl⟩ ⟨Nat.le_refl _, Nat.le_refl _⟩ dX12_one_62) (fun r19 M18 H locs G h => ?_)
    obtain ⟨q20, h⟩ := h
    refine gq_iast X G rr_8 q20 dX12_one_65 (fun M21 H locs e22 G => ?_)
    have h := h M21 e22
    refine lv_aload_n hx hb dX12_one_66 rfl (lv_at hl 0 rfl) ?_
    refine lv_aload_n hx hb dX12_one_67 rfl (lv_at hl 0 rfl) ?_
    refine gf_Model_sort X G qw_14_15 dX12_one_68 ?_
    refine lv_iconst (v := (3)) hx hb dX12_one_71 (by decide) ?_
    refine lv_icmp_ne (tgt := 79) hx hb dX12_one_72 (by decide) (fun c23 => ?_) (fun c23 => ?_)
    · have h := h.2 c23
      refine lv_iconst (v := (0)) hx hb dX12_one_79 (by decide) ?_
      exact hJ80  (0) (0) M21 H locs ls G  (lv_sub hl [0] rfl) h
    have h := h.1 c23
    refine lv_iconst (v := (1)) hx hb dX12_one_75 (by decide) ?_
    refine lv_goto (tgt := 80) hx hb dX12_one_76 (by decide) ?_
    exact hJ80  (1) (0) M21 H locs ls G  (lv_sub hl [0] rfl) h
  have h := h.1 c11
  refine lv_aload_n hx hb dX12_one_10 rfl (lv_at hl 0 rfl) ?_
  refine lv_iconst (v := (3)) hx hb dX12_one_11 (by decide) ?_
  refine gp_Model_wrong X G qw_14_4 dX12_one_12 (fun M24 H locs e25 G => ?_)
  have h := h M24 e25
  exact gq_vret X G h dX12_one_15
def f_X12_wall_91 (K : Mm → Prop) (s0 : Int32) (s1 : Nat) (M : Mm) : Prop := (f_X12_due (s0) (1) M (fun M1 => (∀ M2 : Mm, M2 = gU M1 6 (2 : Int32).toNatClampNeg ((M1 6 (2 : Int32).toNatClampNeg) + 1) → K M2)))
def f_X12_wall_50 (K : Mm → Prop) (s0 : Int32) (M : Mm) : Prop := (f_X12_number (s0) ((M 6 (0 : Int32).toNatClampNeg) - 1) M (fun r5 M4 => (vp_in (1 + (M 6 (2 : Int32).toNatClampNeg)) 22 ∧ (∀ M7 : Mm, M7 = gU M4 8 (1 + (M 6 (2 : Int32).toNatClampNeg) : Int32).toNatClampNeg (r5) → ((((M7 0 9 : Int32) = 4 : Prop) → f_X12_wall_91 K (1) (0) M7) ∧ (¬ ((M7 0 9 : Int32) = 4 : Prop) → f_X12_wall_91 K (0) (0) M7))))))
def f_X12_wall  (M : Mm) (K : Mm → Prop) : Prop := ((((M 6 (2 : Int32).toNatClampNeg : Int32) = 5 : Prop) → (∀ M14 : Mm, M14 = gU M 0 11 (3) → K M14)) ∧ (¬ ((M 6 (2 : Int32).toNatClampNeg : Int32) = 5 : Prop) → (f_X12_step  M (fun M11 => ((((M11 6 (2 : Int32).toNatClampNeg : Int32) = 0 : Prop) → f_X12_wall_50 K (1) M11) ∧ (¬ ((M11 6 (2 : Int32).toNatClampNeg : Int32) = 0 : Prop) → (vp_in ((1 + (M11 6 (2 : Int32).toNatClampNeg)) - 1) 22 ∧ f_X12_wall_50 K ((M11 8 ((1 + (M11 6 (2 : Int32).toNatClampNeg)) - 1 : Int32).toNatClampNeg) + 1) M11)))))))
set_option maxHeartbeats 4000000 in
set_option maxRecDepth 100000 in
theorem m_X12_wall (hI : gI 17 ad)  {M : Mm} {K : Mm → Prop} (h : f_X12_wall  M K) : gM l D cy 17 ad (shR ad cy) yX12_wall cX12_wall 2 none 4 89 [.ref (ad 0)] M (gQv D 17 ad (shR ad cy) K) := by
  refine gM.of (own := RX12) (lv := [(0, .ref (ad 0))]) (by decide) rfl hI (Nat.le_of_ble_eq_true rfl) rfl ?_
  intro p e s m below meth c ls H locs X G hl
  have hx := X.1
  have hb := X.2.1
  have hJ91 : ∀ (s0 : Int32) (s1 : Nat) (M : Mm) (H : Heap) (locs : List Loc) (ls : Array Slot), gS D s 17 ad (shR ad cy) H locs M → lv_has ls 2 [(0, .ref (ad 0))] → f_X12_wall_91 K s0 s1 M → gWk p l e 4 89 s m ([.ref (ad 0)] : List Value).toArray below meth c H locs (gQv D 17 ad (shR ad cy) K) 17 ad 91 ls [.int (s0), .ref (ad 0)] := by
    intro s0 s1 M H locs ls G hl h
    unfold f_X12_wall_91 at h
    refine lv_iconst (v := (1)) hx hb dX12_wall_91 (by decide) ?_
    refine gq_callv G (gc_V (C := RX12) (rest := []) X hl.1 G (m_X12_due hI  h) cw_X12_due qw_15_5 qw_15_6 qw_15_7 ob_Model rfl rfl rfl rfl (Nat.le_of_ble_eq_true rfl) ⟨Nat.le_of_ble_eq_true rfl, Nat.le_of_ble_eq_true rfl⟩ ⟨Nat.le_refl _, Nat.le_refl _⟩ dX12_wall_92) (fun M1 H locs G h => ?_)
    refine lv_aload_n hx hb dX12_wall_95 rfl (lv_at hl 0 rfl) ?_
    refine gf_Model_draft X G qw_5_12 dX12_wall_96 ?_
    refine lv_iconst (v := (2)) hx hb dX12_wall_99 (by decide) ?_
    refine lv_dup2_11 hx hb dX12_wall_100 rfl rfl ?_
    refine gq_iald X G rr_6 (by unfold vp_in; decide) dX12_wall_101 ?_
    refine lv_iconst (v := (1)) hx hb dX12_wall_102 (by decide) ?_
    refine lv_iadd hx hb dX12_wall_103 ?_
    refine gq_iast X G rr_6 (by unfold vp_in; decide) dX12_wall_104 (fun M2 H locs e3 G => ?_)
    have h := h M2 e3
    exact gq_vret X G h dX12_wall_105
  have hJ50 : ∀ (s0 : Int32) (M : Mm) (H : Heap) (locs : List Loc) (ls : Array Slot), gS D s 17 ad (shR ad cy) H locs M → lv_has ls 2 [(0, .ref (ad 0))] → f_X12_wall_50 K s0 M → gWk p l e 4 89 s m ([.ref (ad 0)] : List Value).toArray below meth c H locs (gQv D 17 ad (shR ad cy) K) 17 ad 50 ls [.int (s0)] := by
    intro s0 M H locs ls G hl h
    unfold f_X12_wall_50 at h
    refine lv_istore_n (lv' := [(1, .int (s0)), (0, .ref (ad 0))]) hx hb dX12_wall_50 rfl hl (by decide) rfl (fun ls hl => ?_)
    refine lv_aload_n hx hb dX12_wall_51 rfl (lv_at hl 1 rfl) ?_
    refine gf_Model_begun X G qw_5_14 dX12_wall_52 ?_
    refine lv_iconst (v := (1)) hx hb dX12_wall_55 (by decide) ?_
    refine lv_aload_n hx hb dX12_wall_56 rfl (lv_at hl 1 rfl) ?_
    refine gf_Model_draft X G qw_5_12 dX12_wall_57 ?_
    refine lv_iconst (v := (2)) hx hb dX12_wall_60 (by decide) ?_
    refine gq_iald X G rr_6 (by unfold vp_in; decide) dX12_wall_61 ?_
    refine lv_iadd hx hb dX12_wall_62 ?_
    refine lv_aload_n hx hb dX12_wall_63 rfl (lv_at hl 1 rfl) ?_
    refine lv_iload_n hx hb dX12_wall_64 rfl (lv_at hl 0 rfl) ?_
    refine lv_aload_n hx hb dX12_wall_65 rfl (lv_at hl 1 rfl) ?_
    refine gf_Model_draft X G qw_5_12 dX12_wall_66 ?_
    refine lv_iconst (v := (0)) hx hb dX12_wall_69 (by decide) ?_
    refine gq_iald X G rr_6 (by unfold vp_in; decide) dX12_wall_70 ?_
    refine lv_iconst (v := (1)) hx hb dX12_wall_71 (by decide) ?_
    refine lv_isub hx hb dX12_wall_72 ?_
    refine gq_calli G (gc_V (C := RX12) (rest := [.int (1 + (M 6 (2 : Int32).toNatClampNeg)), .ref (ad 8)]) X hl.1 G (m_X12_number hI  h) cw_X12_number qw_15_9 qw_15_10 qw_15_11 ob_Model rfl rfl rfl rfl (Nat.le_of_ble_eq_true rfl) ⟨Nat.le_of_ble_eq_true rfl, Nat.le_of_ble_eq_true rfl⟩ ⟨Nat.le_refl _, Nat.le_refl _⟩ dX12_wall_73) (fun r5 M4 H locs G h => ?_)
    obtain ⟨q6, h⟩ := h
    refine gq_iast X G rr_8 q6 dX12_wall_76 (fun M7 H locs e8 G => ?_)
    have h := h M7 e8
    refine lv_aload_n hx hb dX12_wall_77 rfl (lv_at hl 1 rfl) ?_
    refine lv_aload_n hx hb dX12_wall_78 rfl (lv_at hl 1 rfl) ?_
    refine gf_Model_sort X G qw_14_15 dX12_wall_79 ?_
    refine lv_iconst (v := (4)) hx hb dX12_wall_82 (by decide) ?_
    refine lv_icmp_ne (tgt := 90) hx hb dX12_wall_83 (by decide) (fun c9 => ?_) (fun c9 => ?_)
    · have h := h.2 c9
      refine lv_iconst (v := (0)) hx hb dX12_wall_90 (by decide) ?_
      exact hJ91  (0) (0) M7 H locs ls G  (lv_sub hl [1] rfl) h
    have h := h.1 c9
    refine lv_iconst (v := (1)) hx hb dX12_wall_86 (by decide) ?_
    refine lv_goto (tgt := 91) hx hb dX12_wall_87 (by decide) ?_
    exact hJ91  (1) (0) M7 H locs ls G  (lv_sub hl [1] rfl) h
  unfold f_X12_wall at h
  refine lv_aload_n hx hb dX12_wall_0 rfl (lv_at hl 0 rfl) ?_
  refine gf_Model_draft X G qw_5_12 dX12_wall_1 ?_
  refine lv_iconst (v := (2)) hx hb dX12_wall_4 (by decide) ?_
  refine gq_iald X G rr_6 (by unfold vp_in; decide) dX12_wall_5 ?_
  refine lv_iconst (v := (5)) hx hb dX12_wall_6 (by decide) ?_
  refine lv_icmp_ne (tgt := 16) hx hb dX12_wall_7 (by decide) (fun c10 => ?_) (fun c10 => ?_)
  · have h := h.2 c10
    refine lv_aload_n hx hb dX12_wall_16 rfl (lv_at hl 0 rfl) ?_
    refine gq_callv G (gc_V (C := RX12) (rest := []) X hl.1 G (m_X12_step hI  h) cw_X12_step qw_14_17 qw_14_18 qw_14_19 ob_Model rfl rfl rfl rfl (Nat.le_of_ble_eq_true rfl) ⟨Nat.le_of_ble_eq_true rfl, Nat.le_of_ble_eq_true rfl⟩ ⟨Nat.le_refl _, Nat.le_refl _⟩ dX12_wall_17) (fun M11 H locs G h => ?_)
    refine lv_aload_n hx hb dX12_wall_20 rfl (lv_at hl 0 rfl) ?_
    refine gf_Model_draft X G qw_5_12 dX12_wall_21 ?_
    refine lv_iconst (v := (2)) hx hb dX12_wall_24 (by decide) ?_
    refine gq_iald X G rr_6 (by unfold vp_in; decide) dX12_wall_25 ?_
    refine lv_if_ne (tgt := 33) hx hb dX12_wall_26 (by decide) (fun c12 => ?_) (fun c12 => ?_)
    · have h := h.2 c12
      refine lv_aload_n hx hb dX12_wall_33 rfl (lv_at hl 0 rfl) ?_
      refine gf_Model_begun X G qw_5_14 dX12_wall_34 ?_
      refine lv_iconst (v := (1)) hx hb dX12_wall_37 (by decide) ?_
      refine lv_aload_n hx hb dX12_wall_38 rfl (lv_at hl 0 rfl) ?_
      refine gf_Model_draft X G qw_5_12 dX12_wall_39 ?_
      refine lv_iconst (v := (2)) hx hb dX12_wall_42 (by decide) ?_
      refine gq_iald X G rr_6 (by unfold vp_in; decide) dX12_wall_43 ?_
      refine lv_iadd hx hb dX12_wall_44 ?_
      refine lv_iconst (v := (1)) hx hb dX12_wall_45 (by decide) ?_
      refine lv_isub hx hb dX12_wall_46 ?_
      obtain ⟨q13, h⟩ := h
      refine gq_iald X G rr_8 q13 dX12_wall_47 ?_
      refine lv_iconst (v := (1)) hx hb dX12_wall_48 (by decide) ?_
      refine lv_iadd hx hb dX12_wall_49 ?_
      exact hJ50  ((M11 8 ((1 + (M11 6 (2 : Int32).toNatClampNeg)) - 1 : Int32).toNatClampNeg) + 1) M11 H locs ls G  (lv_sub hl [0] rfl) h
    have h := h.1 c12
    refine lv_iconst (v := (1)) hx hb dX12_wall_29 (by decide) ?_
    refine lv_goto (tgt := 50) hx hb dX12_wall_30 (by decide) ?_
    exact hJ50  (1) M11 H locs ls G  (lv_sub hl [0] rfl) h
  have h := h.1 c10
  refine lv_aload_n hx hb dX12_wall_10 rfl (lv_at hl 0 rfl) ?_
  refine lv_iconst (v := (3)) hx hb dX12_wall_11 (by decide) ?_
  refine gp_Model_wrong X G qw_14_4 dX12_wall_12 (fun M14 H locs e15 G => ?_)
  have h := h M14 e15
  exact gq_vret X G h dX12_wall_15
def f_X12_picture_119 (K : Mm → Prop) (s0 : Int32) (s1 : Nat) (M : Mm) : Prop := (f_X12_due (s0) (1) M (fun M1 => K M1))
def f_X12_picture_118 (K : Mm → Prop) (s0 : Nat) (M : Mm) : Prop := f_X12_picture_119 K (0) (0) M
def f_X12_picture_94 (K : Mm → Prop) (M : Mm) : Prop := ((((M 0 9 : Int32) = 4 : Prop) → ((((M 6 (0 : Int32).toNatClampNeg : Int32) < 6 : Prop) → f_X12_picture_118 K (0) M) ∧ (¬ ((M 6 (0 : Int32).toNatClampNeg : Int32) < 6 : Prop) → f_X12_picture_119 K (1) (0) M))) ∧ (¬ ((M 0 9 : Int32) = 4 : Prop) → f_X12_picture_118 K (0) M))
def l_X12_picture_11 (K : Mm → Prop) : Nat → Mm → Prop
  | 0, _ => False
  | n + 1, M => ((((M 0 11 : Int32) = 0 : Prop) → ((((M 0 9 : Int32) = 1 : Prop) → (f_X12_in (M 0 10) (97) (106) M (fun r7 M6 => ((((r7 : Int32) = 0 : Prop) → f_X12_picture_94 K M6) ∧ (¬ ((r7 : Int32) = 0 : Prop) → ((((M6 6 (0 : Int32).toNatClampNeg : Int32) = 24 : Prop) → (∀ M16 : Mm, M16 = gU M6 0 11 (3) → K M16)) ∧ (¬ ((M6 6 (0 : Int32).toNatClampNeg : Int32) = 24 : Prop) → (vp_in (4 + (M6 6 (0 : Int32).toNatClampNeg)) 33 ∧ (∀ M11 : Mm, M11 = gU M6 6 (4 + (M6 6 (0 : Int32).toNatClampNeg) : Int32).toNatClampNeg ((M6 0 10) - 97) → (∀ M13 : Mm, M13 = gU M11 6 (0 : Int32).toNatClampNeg ((M11 6 (0 : Int32).toNatClampNeg) + 1) → (f_X12_step  M13 (fun M15 => (l_X12_picture_11 K n) M15)))))))))))) ∧ (¬ ((M 0 9 : Int32) = 1 : Prop) → f_X12_picture_94 K M))) ∧ (¬ ((M 0 11 : Int32) = 0 : Prop) → f_X12_picture_94 K M))
def f_X12_picture  (M : Mm) (K : Mm → Prop) : Prop := (f_X12_isLetter (112) M (fun r19 M18 => (f_X12_due (r19) (1) M18 (fun M20 => ∃ z, l_X12_picture_11 K z M20))))
set_option maxHeartbeats 4000000 in
set_option maxRecDepth 100000 in
theorem m_X12_picture (hI : gI 17 ad)  {M : Mm} {K : Mm → Prop} (h : f_X12_picture  M K) : gM l D cy 17 ad (shR ad cy) yX12_picture cX12_picture 1 none 3 66 [.ref (ad 0)] M (gQv D 17 ad (shR ad cy) K) := by
  refine gM.of (own := RX12) (lv := [(0, .ref (ad 0))]) (by decide) rfl hI (Nat.le_of_ble_eq_true rfl) rfl ?_
  intro p e s m below meth c ls H locs X G hl
  have hx := X.1
  have hb := X.2.1
  have hJ119 : ∀ (s0 : Int32) (s1 : Nat) (M : Mm) (H : Heap) (locs : List Loc) (ls : Array Slot), gS D s 17 ad (shR ad cy) H locs M → lv_has ls 1 [] → f_X12_picture_119 K s0 s1 M → gWk p l e 3 66 s m ([.ref (ad 0)] : List Value).toArray below meth c H locs (gQv D 17 ad (shR ad cy) K) 17 ad 119 ls [.int (s0), .ref (ad 0)] := by
    intro s0 s1 M H locs ls G hl h
    unfold f_X12_picture_119 at h
    refine lv_iconst (v := (1)) hx hb dX12_picture_119 (by decide) ?_
    refine gq_callv G (gc_V (C := RX12) (rest := []) X hl.1 G (m_X12_due hI  h) cw_X12_due qw_15_5 qw_15_6 qw_15_7 ob_Model rfl rfl rfl rfl (Nat.le_of_ble_eq_true rfl) ⟨Nat.le_of_ble_eq_true rfl, Nat.le_of_ble_eq_true rfl⟩ ⟨Nat.le_refl _, Nat.le_refl _⟩ dX12_picture_120) (fun M1 H locs G h => ?_)
    exact gq_vret X G h dX12_picture_123
  have hJ118 : ∀ (s0 : Nat) (M : Mm) (H : Heap) (locs : List Loc) (ls : Array Slot), gS D s 17 ad (shR ad cy) H locs M → lv_has ls 1 [] → f_X12_picture_118 K s0 M → gWk p l e 3 66 s m ([.ref (ad 0)] : List Value).toArray below meth c H locs (gQv D 17 ad (shR ad cy) K) 17 ad 118 ls [.ref (ad 0)] := by
    intro s0 M H locs ls G hl h
    unfold f_X12_picture_118 at h
    refine lv_iconst (v := (0)) hx hb dX12_picture_118 (by decide) ?_
    exact hJ119  (0) (0) M H locs ls G  (lv_sub hl [] rfl) h
  have hJ94 : ∀ (M : Mm) (H : Heap) (locs : List Loc) (ls : Array Slot), gS D s 17 ad (shR ad cy) H locs M → lv_has ls 1 [(0, .ref (ad 0))] → f_X12_picture_94 K M → gWk p l e 3 66 s m ([.ref (ad 0)] : List Value).toArray below meth c H locs (gQv D 17 ad (shR ad cy) K) 17 ad 94 ls [] := by
    intro M H locs ls G hl h
    unfold f_X12_picture_94 at h
    refine lv_aload_n hx hb dX12_picture_94 rfl (lv_at hl 0 rfl) ?_
    refine lv_aload_n hx hb dX12_picture_95 rfl (lv_at hl 0 rfl) ?_
    refine gf_Model_sort X G qw_14_15 dX12_picture_96 ?_
    refine lv_iconst (v := (4)) hx hb dX12_picture_99 (by decide) ?_
    refine lv_icmp_ne (tgt := 118) hx hb dX12_picture_100 (by decide) (fun c2 => ?_) (fun c2 => ?_)
    · have h := h.2 c2
      exact hJ118  (0) M H locs ls G  (lv_sub hl [] rfl) h
    have h := h.1 c2
    refine lv_aload_n hx hb dX12_picture_103 rfl (lv_at hl 0 rfl) ?_
    refine gf_Model_draft X G qw_5_12 dX12_picture_104 ?_
    refine lv_iconst (v := (0)) hx hb dX12_picture_107 (by decide) ?_
    refine gq_iald X G rr_6 (by unfold vp_in; decide) dX12_picture_108 ?_
    refine lv_bipush (v := (6)) hx hb dX12_picture_109 (by decide) ?_
    refine lv_icmp_lt (tgt := 118) hx hb dX12_picture_111 (by decide) (fun c3 => ?_) (fun c3 => ?_)
    · have h := h.1 c3
      exact hJ118  (0) M H locs ls G  (lv_sub hl [] rfl) h
    have h := h.2 c3
    refine lv_iconst (v := (1)) hx hb dX12_picture_114 (by decide) ?_
    refine lv_goto (tgt := 119) hx hb dX12_picture_115 (by decide) ?_
    exact hJ119  (1) (0) M H locs ls G  (lv_sub hl [] rfl) h
  have hL11 : ∀ (n : Nat) (M : Mm) (H : Heap) (locs : List Loc) (ls : Array Slot), gS D s 17 ad (shR ad cy) H locs M → lv_has ls 1 [(0, .ref (ad 0))] → l_X12_picture_11 K n M → gWk p l e 3 66 s m ([.ref (ad 0)] : List Value).toArray below meth c H locs (gQv D 17 ad (shR ad cy) K) 17 ad 11 ls [] := by
    intro n11
    induction n11 with
    | zero =>
      intro M H locs ls G hl h
      exact False.elim h
    | succ n11 ih11 =>
      intro M H locs ls G hl h
      rw [l_X12_picture_11] at h
      refine lv_aload_n hx hb dX12_picture_11 rfl (lv_at hl 0 rfl) ?_
      refine gf_Model_wrong X G qw_14_4 dX12_picture_12 ?_
      refine lv_if_ne (tgt := 94) hx hb dX12_picture_15 (by decide) (fun c4 => ?_) (fun c4 => ?_)
      · have h := h.2 c4
        exact hJ94   M H locs ls G  (lv_sub hl [0] rfl) h
      have h := h.1 c4
      refine lv_aload_n hx hb dX12_picture_18 rfl (lv_at hl 0 rfl) ?_
      refine gf_Model_sort X G qw_14_15 dX12_picture_19 ?_
      refine lv_iconst (v := (1)) hx hb dX12_picture_22 (by decide) ?_
      refine lv_icmp_ne (tgt := 94) hx hb dX12_picture_23 (by decide) (fun c5 => ?_) (fun c5 => ?_)
      · have h := h.2 c5
        exact hJ94   M H locs ls G  (lv_sub hl [0] rfl) h
      have h := h.1 c5
      refine lv_aload_n hx hb dX12_picture_26 rfl (lv_at hl 0 rfl) ?_
      refine gf_Model_value X G qw_14_16 dX12_picture_27 ?_
      refine lv_bipush (v := (97)) hx hb dX12_picture_30 (by decide) ?_
      refine lv_bipush (v := (106)) hx hb dX12_picture_32 (by decide) ?_
      refine gq_calli G (gc_S (rest := []) X hl.1 G (m_X12_in hI  h) cw_X12_in qw_7_12 qw_7_13 rfl rfl (Nat.le_of_ble_eq_true rfl) ⟨Nat.le_of_ble_eq_true rfl, Nat.le_of_ble_eq_true rfl⟩ ⟨Nat.le_refl _, Nat.le_refl _⟩ dX12_picture_34) (fun r7 M6 H locs G h => ?_)
      refine lv_if_eq (tgt := 94) hx hb dX12_picture_37 (by decide) (fun c8 => ?_) (fun c8 => ?_)
      · have h := h.1 c8
        exact hJ94   M6 H locs ls G  (lv_sub hl [0] rfl) h
      have h := h.2 c8
      refine lv_aload_n hx hb dX12_picture_40 rfl (lv_at hl 0 rfl) ?_
      refine gf_Model_draft X G qw_5_12 dX12_picture_41 ?_
      refine lv_iconst (v := (0)) hx hb dX12_picture_44 (by decide) ?_
      refine gq_iald X G rr_6 (by unfold vp_in; decide) dX12_picture_45 ?_
      refine lv_bipush (v := (24)) hx hb dX12_picture_46 (by decide) ?_
      refine lv_icmp_ne (tgt := 57) hx hb dX12_picture_48 (by decide) (fun c9 => ?_) (fun c9 => ?_)
      · have h := h.2 c9
        refine lv_aload_n hx hb dX12_picture_57 rfl (lv_at hl 0 rfl) ?_
        refine gf_Model_draft X G qw_5_12 dX12_picture_58 ?_
        refine lv_iconst (v := (4)) hx hb dX12_picture_61 (by decide) ?_
        refine lv_aload_n hx hb dX12_picture_62 rfl (lv_at hl 0 rfl) ?_
        refine gf_Model_draft X G qw_5_12 dX12_picture_63 ?_
        refine lv_iconst (v := (0)) hx hb dX12_picture_66 (by decide) ?_
        refine gq_iald X G rr_6 (by unfold vp_in; decide) dX12_picture_67 ?_
        refine lv_iadd hx hb dX12_picture_68 ?_
        refine lv_aload_n hx hb dX12_picture_69 rfl (lv_at hl 0 rfl) ?_
        refine gf_Model_value X G qw_14_16 dX12_picture_70 ?_
        refine lv_bipush (v := (97)) hx hb dX12_picture_73 (by decide) ?_
        refine lv_isub hx hb dX12_picture_75 ?_
        obtain ⟨q10, h⟩ := h
        refine gq_iast X G rr_6 q10 dX12_picture_76 (fun M11 H locs e12 G => ?_)
        have h := h M11 e12
        refine lv_aload_n hx hb dX12_picture_77 rfl (lv_at hl 0 rfl) ?_
        refine gf_Model_draft X G qw_5_12 dX12_picture_78 ?_
        refine lv_iconst (v := (0)) hx hb dX12_picture_81 (by decide) ?_
        refine lv_dup2_11 hx hb dX12_picture_82 rfl rfl ?_
        refine gq_iald X G rr_6 (by unfold vp_in; decide) dX12_picture_83 ?_
        refine lv_iconst (v := (1)) hx hb dX12_picture_84 (by decide) ?_
        refine lv_iadd hx hb dX12_picture_85 ?_
        refine gq_iast X G rr_6 (by unfold vp_in; decide) dX12_picture_86 (fun M13 H locs e14 G => ?_)
        have h := h M13 e14
        refine lv_aload_n hx hb dX12_picture_87 rfl (lv_at hl 0 rfl) ?_
        refine gq_callv G (gc_V (C := RX12) (rest := []) X hl.1 G (m_X12_step hI  h) cw_X12_step qw_14_17 qw_14_18 qw_14_19 ob_Model rfl rfl rfl rfl (Nat.le_of_ble_eq_true rfl) ⟨Nat.le_of_ble_eq_true rfl, Nat.le_of_ble_eq_true rfl⟩ ⟨Nat.le_refl _, Nat.le_refl _⟩ dX12_picture_88) (fun M15 H locs G h => ?_)
        refine lv_goto (tgt := 11) hx hb dX12_picture_91 (by decide) ?_
        exact ih11  M15 H locs ls G  (lv_sub hl [0] rfl) h
      have h := h.1 c9
      refine lv_aload_n hx hb dX12_picture_51 rfl (lv_at hl 0 rfl) ?_
      refine lv_iconst (v := (3)) hx hb dX12_picture_52 (by decide) ?_
      refine gp_Model_wrong X G qw_14_4 dX12_picture_53 (fun M16 H locs e17 G => ?_)
      have h := h M16 e17
      exact gq_vret X G h dX12_picture_56
  unfold f_X12_picture at h
  refine lv_aload_n hx hb dX12_picture_0 rfl (lv_at hl 0 rfl) ?_
  refine lv_aload_n hx hb dX12_picture_1 rfl (lv_at hl 0 rfl) ?_
  refine lv_bipush (v := (112)) hx hb dX12_picture_2 (by decide) ?_
  refine gq_calli G (gc_V (C := RX12) (rest := [.ref (ad 0)]) X hl.1 G (m_X12_isLetter hI  h) cw_X12_isLetter qw_15_1 qw_15_2 qw_15_3 ob_Model rfl rfl rfl rfl (Nat.le_of_ble_eq_true rfl) ⟨Nat.le_of_ble_eq_true rfl, Nat.le_of_ble_eq_true rfl⟩ ⟨Nat.le_refl _, Nat.le_refl _⟩ dX12_picture_4) (fun r19 M18 H locs G h => ?_)
  refine lv_iconst (v := (1)) hx hb dX12_picture_7 (by decide) ?_
  refine gq_callv G (gc_V (C := RX12) (rest := []) X hl.1 G (m_X12_due hI  h) cw_X12_due qw_15_5 qw_15_6 qw_15_7 ob_Model rfl rfl rfl rfl (Nat.le_of_ble_eq_true rfl) ⟨Nat.le_of_ble_eq_true rfl, Nat.le_of_ble_eq_true rfl⟩ ⟨Nat.le_refl _, Nat.le_refl _⟩ dX12_picture_8) (fun M20 H locs G h => ?_)
  obtain ⟨n21, h⟩ := h
  exact hL11   n21  M20 H locs ls G  (lv_sub hl [0] rfl) h
def f_X12_read_164 (K : Mm → Prop) (M : Mm) : Prop := ((((M 0 11 : Int32) = 0 : Prop) → ((((M 0 9 : Int32) = 5 : Prop) → K M) ∧ (¬ ((M 0 9 : Int32) = 5 : Prop) → (∀ M3 : Mm, M3 = gU M 0 11 (1) → K M3)))) ∧ (¬ ((M 0 11 : Int32) = 0 : Prop) → K M))
def l_X12_read_132 (K : Mm → Prop) : Nat → Mm → Prop
  | 0, _ => False
  | n + 1, M => ((((M 0 11 : Int32) = 0 : Prop) → ((((M 0 9 : Int32) = 1 : Prop) → (f_X12_kindBy (M 0 10) M (fun r8 M7 => ((((r8 : Int32) = 0 : Prop) → f_X12_read_164 K M7) ∧ (¬ ((r8 : Int32) = 0 : Prop) → (f_X12_one  M7 (fun M10 => (l_X12_read_132 K n) M10))))))) ∧ (¬ ((M 0 9 : Int32) = 1 : Prop) → f_X12_read_164 K M))) ∧ (¬ ((M 0 11 : Int32) = 0 : Prop) → f_X12_read_164 K M))
def l_X12_read_109 (K : Mm → Prop) : Nat → Mm → Prop
  | 0, _ => False
  | n + 1, M => ((((M 0 11 : Int32) = 0 : Prop) → (f_X12_isLetter (120) M (fun r14 M13 => ((((r14 : Int32) = 0 : Prop) → ∃ z, l_X12_read_132 K z M13) ∧ (¬ ((r14 : Int32) = 0 : Prop) → (f_X12_wall  M13 (fun M17 => (l_X12_read_109 K n) M17))))))) ∧ (¬ ((M 0 11 : Int32) = 0 : Prop) → ∃ z, l_X12_read_132 K z M))
def f_X12_read_94 (K : Mm → Prop) (s0 : Int32) (s1 : Nat) (M : Mm) : Prop := (f_X12_due (s0) (1) M (fun M18 => ((((M18 0 11 : Int32) = 0 : Prop) → (f_X12_picture  M18 (fun M21 => ∃ z, l_X12_read_109 K z M21))) ∧ (¬ ((M18 0 11 : Int32) = 0 : Prop) → ∃ z, l_X12_read_109 K z M18))))
def l_X12_read_33 (K : Mm → Prop) : Nat → Int32 → Mm → Prop
  | 0, _, _ => False
  | n + 1, v1, M => ((((22 : Int32) ≤ v1 : Prop) → (f_X12_step  M (fun M24 => (f_X12_isLetter (113) M24 (fun r26 M25 => (f_X12_due (r26) (1) M25 (fun M27 => (f_X12_number (0) (24) M27 (fun r29 M28 => (∀ M30 : Mm, M30 = gU M28 6 (1 : Int32).toNatClampNeg (r29) → ((((M30 0 9 : Int32) = 4 : Prop) → f_X12_read_94 K (1) (0) M30) ∧ (¬ ((M30 0 9 : Int32) = 4 : Prop) → f_X12_read_94 K (0) (0) M30)))))))))))) ∧ (¬ ((22 : Int32) ≤ v1 : Prop) → (vp_in (v1) 22 ∧ (∀ M34 : Mm, M34 = gU M 8 (v1 : Int32).toNatClampNeg (0) → (l_X12_read_33 K n) (v1 + 1) M34))))
def l_X12_read_12 (K : Mm → Prop) : Nat → Int32 → Mm → Prop
  | 0, _, _ => False
  | n + 1, v1, M => ((((33 : Int32) ≤ v1 : Prop) → ∃ z, l_X12_read_33 K z (0) M) ∧ (¬ ((33 : Int32) ≤ v1 : Prop) → (vp_in (v1) 33 ∧ (∀ M39 : Mm, M39 = gU M 6 (v1 : Int32).toNatClampNeg (0) → (l_X12_read_12 K n) (v1 + 1) M39))))
def f_X12_read  (M : Mm) (K : Mm → Prop) : Prop := (∀ M41 : Mm, M41 = gU M 0 7 (0) → (∀ M43 : Mm, M43 = gU M41 0 11 (0) → ∃ z, l_X12_read_12 K z (0) M43))
set_option maxHeartbeats 4000000 in
set_option maxRecDepth 100000 in
theorem m_X12_read (hI : gI 17 ad)  {M : Mm} {K : Mm → Prop} (h : f_X12_read  M K) : gM l D cy 17 ad (shR ad cy) yX12_read cX12_read 2 none 5 110 [.ref (ad 0)] M (gQv D 17 ad (shR ad cy) K) := by
  refine gM.of (own := RX12) (lv := [(0, .ref (ad 0))]) (by decide) rfl hI (Nat.le_of_ble_eq_true rfl) rfl ?_
  intro p e s m below meth c ls H locs X G hl
  have hx := X.1
  have hb := X.2.1
  have hJ164 : ∀ (M : Mm) (H : Heap) (locs : List Loc) (ls : Array Slot), gS D s 17 ad (shR ad cy) H locs M → lv_has ls 2 [(0, .ref (ad 0))] → f_X12_read_164 K M → gWk p l e 5 110 s m ([.ref (ad 0)] : List Value).toArray below meth c H locs (gQv D 17 ad (shR ad cy) K) 17 ad 164 ls [] := by
    intro M H locs ls G hl h
    unfold f_X12_read_164 at h
    refine lv_aload_n hx hb dX12_read_164 rfl (lv_at hl 0 rfl) ?_
    refine gf_Model_wrong X G qw_14_4 dX12_read_165 ?_
    refine lv_if_ne (tgt := 184) hx hb dX12_read_168 (by decide) (fun c1 => ?_) (fun c1 => ?_)
    · have h := h.2 c1
      exact gq_vret X G h dX12_read_184
    have h := h.1 c1
    refine lv_aload_n hx hb dX12_read_171 rfl (lv_at hl 0 rfl) ?_
    refine gf_Model_sort X G qw_14_15 dX12_read_172 ?_
    refine lv_iconst (v := (5)) hx hb dX12_read_175 (by decide) ?_
    refine lv_icmp_eq (tgt := 184) hx hb dX12_read_176 (by decide) (fun c2 => ?_) (fun c2 => ?_)
    · have h := h.1 c2
      exact gq_vret X G h dX12_read_184
    have h := h.2 c2
    refine lv_aload_n hx hb dX12_read_179 rfl (lv_at hl 0 rfl) ?_
    refine lv_iconst (v := (1)) hx hb dX12_read_180 (by decide) ?_
    refine gp_Model_wrong X G qw_14_4 dX12_read_181 (fun M3 H locs e4 G => ?_)
    have h := h M3 e4
    exact gq_vret X G h dX12_read_184
  have hL132 : ∀ (n : Nat) (M : Mm) (H : Heap) (locs : List Loc) (ls : Array Slot), gS D s 17 ad (shR ad cy) H locs M → lv_has ls 2 [(0, .ref (ad 0))] → l_X12_read_132 K n M → gWk p l e 5 110 s m ([.ref (ad 0)] : List Value).toArray below meth c H locs (gQv D 17 ad (shR ad cy) K) 17 ad 132 ls [] := by
    intro n132
    induction n132 with
    | zero =>
      intro M H locs ls G hl h
      exact False.elim h
    | succ n132 ih132 =>
      intro M H locs ls G hl h
      rw [l_X12_read_132] at h
      refine lv_aload_n hx hb dX12_read_132 rfl (lv_at hl 0 rfl) ?_
      refine gf_Model_wrong X G qw_14_4 dX12_read_133 ?_
      refine lv_if_ne (tgt := 164) hx hb dX12_read_136 (by decide) (fun c5 => ?_) (fun c5 => ?_)
      · have h := h.2 c5
        exact hJ164   M H locs ls G  (lv_sub hl [0] rfl) h
      have h := h.1 c5
      refine lv_aload_n hx hb dX12_read_139 rfl (lv_at hl 0 rfl) ?_
      refine gf_Model_sort X G qw_14_15 dX12_read_140 ?_
      refine lv_iconst (v := (1)) hx hb dX12_read_143 (by decide) ?_
      refine lv_icmp_ne (tgt := 164) hx hb dX12_read_144 (by decide) (fun c6 => ?_) (fun c6 => ?_)
      · have h := h.2 c6
        exact hJ164   M H locs ls G  (lv_sub hl [0] rfl) h
      have h := h.1 c6
      refine lv_aload_n hx hb dX12_read_147 rfl (lv_at hl 0 rfl) ?_
      refine gf_Model_value X G qw_14_16 dX12_read_148 ?_
      refine gq_calli G (gc_S (rest := []) X hl.1 G (m_X12_kindBy hI  h) cw_X12_kindBy qw_15_21 qw_15_22 rfl rfl (Nat.le_of_ble_eq_true rfl) ⟨Nat.le_of_ble_eq_true rfl, Nat.le_of_ble_eq_true rfl⟩ ⟨Nat.le_refl _, Nat.le_refl _⟩ dX12_read_151) (fun r8 M7 H locs G h => ?_)
      refine lv_if_eq (tgt := 164) hx hb dX12_read_154 (by decide) (fun c9 => ?_) (fun c9 => ?_)
      · have h := h.1 c9
        exact hJ164   M7 H locs ls G  (lv_sub hl [0] rfl) h
      have h := h.2 c9
      refine lv_aload_n hx hb dX12_read_157 rfl (lv_at hl 0 rfl) ?_
      refine gq_callv G (gc_V (C := RX12) (rest := []) X hl.1 G (m_X12_one hI  h) cw_X12_one qw_16_0 qw_16_1 qw_16_2 ob_Model rfl rfl rfl rfl (Nat.le_of_ble_eq_true rfl) ⟨Nat.le_of_ble_eq_true rfl, Nat.le_of_ble_eq_true rfl⟩ ⟨Nat.le_refl _, Nat.le_refl _⟩ dX12_read_158) (fun M10 H locs G h => ?_)
      refine lv_goto (tgt := 132) hx hb dX12_read_161 (by decide) ?_
      exact ih132  M10 H locs ls G  (lv_sub hl [0] rfl) h
  have hL109 : ∀ (n : Nat) (M : Mm) (H : Heap) (locs : List Loc) (ls : Array Slot), gS D s 17 ad (shR ad cy) H locs M → lv_has ls 2 [(0, .ref (ad 0))] → l_X12_read_109 K n M → gWk p l e 5 110 s m ([.ref (ad 0)] : List Value).toArray below meth c H locs (gQv D 17 ad (shR ad cy) K) 17 ad 109 ls [] := by
    intro n109
    induction n109 with
    | zero =>
      intro M H locs ls G hl h
      exact False.elim h
    | succ n109 ih109 =>
      intro M H locs ls G hl h
      rw [l_X12_read_109] at h
      refine lv_aload_n hx hb dX12_read_109 rfl (lv_at hl 0 rfl) ?_
      refine gf_Model_wrong X G qw_14_4 dX12_read_110 ?_
      refine lv_if_ne (tgt := 132) hx hb dX12_read_113 (by decide) (fun c11 => ?_) (fun c11 => ?_)
      · have h := h.2 c11
        obtain ⟨n12, h⟩ := h
        exact hL132   n12  M H locs ls G  (lv_sub hl [0] rfl) h
      have h := h.1 c11
      refine lv_aload_n hx hb dX12_read_116 rfl (lv_at hl 0 rfl) ?_
      refine lv_bipush (v := (120)) hx hb dX12_read_117 (by decide) ?_
      refine gq_calli G (gc_V (C := RX12) (rest := []) X hl.1 G (m_X12_isLetter hI  h) cw_X12_isLetter qw_15_1 qw_15_2 qw_15_3 ob_Model rfl rfl rfl rfl (Nat.le_of_ble_eq_true rfl) ⟨Nat.le_of_ble_eq_true rfl, Nat.le_of_ble_eq_true rfl⟩ ⟨Nat.le_refl _, Nat.le_refl _⟩ dX12_read_119) (fun r14 M13 H locs G h => ?_)
      refine lv_if_eq (tgt := 132) hx hb dX12_read_122 (by decide) (fun c15 => ?_) (fun c15 => ?_)
      · have h := h.1 c15
        obtain ⟨n16, h⟩ := h
        exact hL132   n16  M13 H locs ls G  (lv_sub hl [0] rfl) h
      have h := h.2 c15
      refine lv_aload_n hx hb dX12_read_125 rfl (lv_at hl 0 rfl) ?_
      refine gq_callv G (gc_V (C := RX12) (rest := []) X hl.1 G (m_X12_wall hI  h) cw_X12_wall qw_15_17 qw_15_18 qw_15_19 ob_Model rfl rfl rfl rfl (Nat.le_of_ble_eq_true rfl) ⟨Nat.le_of_ble_eq_true rfl, Nat.le_of_ble_eq_true rfl⟩ ⟨Nat.le_refl _, Nat.le_refl _⟩ dX12_read_126) (fun M17 H locs G h => ?_)
      refine lv_goto (tgt := 109) hx hb dX12_read_129 (by decide) ?_
      exact ih109  M17 H locs ls G  (lv_sub hl [0] rfl) h
  have hJ94 : ∀ (s0 : Int32) (s1 : Nat) (M : Mm) (H : Heap) (locs : List Loc) (ls : Array Slot), gS D s 17 ad (shR ad cy) H locs M → lv_has ls 2 [(0, .ref (ad 0))] → f_X12_read_94 K s0 s1 M → gWk p l e 5 110 s m ([.ref (ad 0)] : List Value).toArray below meth c H locs (gQv D 17 ad (shR ad cy) K) 17 ad 94 ls [.int (s0), .ref (ad 0)] := by
    intro s0 s1 M H locs ls G hl h
    unfold f_X12_read_94 at h
    refine lv_iconst (v := (1)) hx hb dX12_read_94 (by decide) ?_
    refine gq_callv G (gc_V (C := RX12) (rest := []) X hl.1 G (m_X12_due hI  h) cw_X12_due qw_15_5 qw_15_6 qw_15_7 ob_Model rfl rfl rfl rfl (Nat.le_of_ble_eq_true rfl) ⟨Nat.le_of_ble_eq_true rfl, Nat.le_of_ble_eq_true rfl⟩ ⟨Nat.le_refl _, Nat.le_refl _⟩ dX12_read_95) (fun M18 H locs G h => ?_)
    refine lv_aload_n hx hb dX12_read_98 rfl (lv_at hl 0 rfl) ?_
    refine gf_Model_wrong X G qw_14_4 dX12_read_99 ?_
    refine lv_if_ne (tgt := 109) hx hb dX12_read_102 (by decide) (fun c19 => ?_) (fun c19 => ?_)
    · have h := h.2 c19
      obtain ⟨n20, h⟩ := h
      exact hL109   n20  M18 H locs ls G  (lv_sub hl [0] rfl) h
    have h := h.1 c19
    refine lv_aload_n hx hb dX12_read_105 rfl (lv_at hl 0 rfl) ?_
    refine gq_callv G (gc_V (C := RX12) (rest := []) X hl.1 G (m_X12_picture hI  h) cw_X12_picture qw_15_13 qw_15_14 qw_15_15 ob_Model rfl rfl rfl rfl (Nat.le_of_ble_eq_true rfl) ⟨Nat.le_of_ble_eq_true rfl, Nat.le_of_ble_eq_true rfl⟩ ⟨Nat.le_refl _, Nat.le_refl _⟩ dX12_read_106) (fun M21 H locs G h => ?_)
    obtain ⟨n22, h⟩ := h
    exact hL109   n22  M21 H locs ls G  (lv_sub hl [0] rfl) h
  have hL33 : ∀ (n : Nat) (v1 : Int32) (M : Mm) (H : Heap) (locs : List Loc) (ls : Array Slot), gS D s 17 ad (shR ad cy) H locs M → lv_has ls 2 [(0, .ref (ad 0)), (1, .int (v1))] → l_X12_read_33 K n v1 M → gWk p l e 5 110 s m ([.ref (ad 0)] : List Value).toArray below meth c H locs (gQv D 17 ad (shR ad cy) K) 17 ad 33 ls [] := by
    intro n33
    induction n33 with
    | zero =>
      intro v1 M H locs ls G hl h
      exact False.elim h
    | succ n33 ih33 =>
      intro v1 M H locs ls G hl h
      rw [l_X12_read_33] at h
      refine lv_iload_n hx hb dX12_read_33 rfl (lv_at hl 1 rfl) ?_
      refine lv_bipush (v := (22)) hx hb dX12_read_34 (by decide) ?_
      refine lv_icmp_ge (tgt := 52) hx hb dX12_read_36 (by decide) (fun c23 => ?_) (fun c23 => ?_)
      · have h := h.1 c23
        refine lv_aload_n hx hb dX12_read_52 rfl (lv_at hl 0 rfl) ?_
        refine gq_callv G (gc_V (C := RX12) (rest := []) X hl.1 G (m_X12_step hI  h) cw_X12_step qw_14_17 qw_14_18 qw_14_19 ob_Model rfl rfl rfl rfl (Nat.le_of_ble_eq_true rfl) ⟨Nat.le_of_ble_eq_true rfl, Nat.le_of_ble_eq_true rfl⟩ ⟨Nat.le_refl _, Nat.le_refl _⟩ dX12_read_53) (fun M24 H locs G h => ?_)
        refine lv_aload_n hx hb dX12_read_56 rfl (lv_at hl 0 rfl) ?_
        refine lv_aload_n hx hb dX12_read_57 rfl (lv_at hl 0 rfl) ?_
        refine lv_bipush (v := (113)) hx hb dX12_read_58 (by decide) ?_
        refine gq_calli G (gc_V (C := RX12) (rest := [.ref (ad 0)]) X hl.1 G (m_X12_isLetter hI  h) cw_X12_isLetter qw_15_1 qw_15_2 qw_15_3 ob_Model rfl rfl rfl rfl (Nat.le_of_ble_eq_true rfl) ⟨Nat.le_of_ble_eq_true rfl, Nat.le_of_ble_eq_true rfl⟩ ⟨Nat.le_refl _, Nat.le_refl _⟩ dX12_read_60) (fun r26 M25 H locs G h => ?_)
        refine lv_iconst (v := (1)) hx hb dX12_read_63 (by decide) ?_
        refine gq_callv G (gc_V (C := RX12) (rest := []) X hl.1 G (m_X12_due hI  h) cw_X12_due qw_15_5 qw_15_6 qw_15_7 ob_Model rfl rfl rfl rfl (Nat.le_of_ble_eq_true rfl) ⟨Nat.le_of_ble_eq_true rfl, Nat.le_of_ble_eq_true rfl⟩ ⟨Nat.le_refl _, Nat.le_refl _⟩ dX12_read_64) (fun M27 H locs G h => ?_)
        refine lv_aload_n hx hb dX12_read_67 rfl (lv_at hl 0 rfl) ?_
        refine gf_Model_draft X G qw_5_12 dX12_read_68 ?_
        refine lv_iconst (v := (1)) hx hb dX12_read_71 (by decide) ?_
        refine lv_aload_n hx hb dX12_read_72 rfl (lv_at hl 0 rfl) ?_
        refine lv_iconst (v := (0)) hx hb dX12_read_73 (by decide) ?_
        refine lv_bipush (v := (24)) hx hb dX12_read_74 (by decide) ?_
        refine gq_calli G (gc_V (C := RX12) (rest := [.int (1), .ref (ad 6)]) X hl.1 G (m_X12_number hI  h) cw_X12_number qw_15_9 qw_15_10 qw_15_11 ob_Model rfl rfl rfl rfl (Nat.le_of_ble_eq_true rfl) ⟨Nat.le_of_ble_eq_true rfl, Nat.le_of_ble_eq_true rfl⟩ ⟨Nat.le_refl _, Nat.le_refl _⟩ dX12_read_76) (fun r29 M28 H locs G h => ?_)
        refine gq_iast X G rr_6 (by unfold vp_in; decide) dX12_read_79 (fun M30 H locs e31 G => ?_)
        have h := h M30 e31
        refine lv_aload_n hx hb dX12_read_80 rfl (lv_at hl 0 rfl) ?_
        refine lv_aload_n hx hb dX12_read_81 rfl (lv_at hl 0 rfl) ?_
        refine gf_Model_sort X G qw_14_15 dX12_read_82 ?_
        refine lv_iconst (v := (4)) hx hb dX12_read_85 (by decide) ?_
        refine lv_icmp_ne (tgt := 93) hx hb dX12_read_86 (by decide) (fun c32 => ?_) (fun c32 => ?_)
        · have h := h.2 c32
          refine lv_iconst (v := (0)) hx hb dX12_read_93 (by decide) ?_
          exact hJ94  (0) (0) M30 H locs ls G  (lv_sub hl [0] rfl) h
        have h := h.1 c32
        refine lv_iconst (v := (1)) hx hb dX12_read_89 (by decide) ?_
        refine lv_goto (tgt := 94) hx hb dX12_read_90 (by decide) ?_
        exact hJ94  (1) (0) M30 H locs ls G  (lv_sub hl [0] rfl) h
      have h := h.2 c23
      refine lv_aload_n hx hb dX12_read_39 rfl (lv_at hl 0 rfl) ?_
      refine gf_Model_begun X G qw_5_14 dX12_read_40 ?_
      refine lv_iload_n hx hb dX12_read_43 rfl (lv_at hl 1 rfl) ?_
      refine lv_iconst (v := (0)) hx hb dX12_read_44 (by decide) ?_
      obtain ⟨q33, h⟩ := h
      refine gq_iast X G rr_8 q33 dX12_read_45 (fun M34 H locs e35 G => ?_)
      have h := h M34 e35
      refine lv_iinc (v := v1 + 1) (lv' := [(1, .int (v1 + 1)), (0, .ref (ad 0))]) hx hb dX12_read_46 hl (k := 1) rfl rfl (by decide) rfl (fun ls hl => ?_)
      refine lv_goto (tgt := 33) hx hb dX12_read_49 (by decide) ?_
      exact ih33 (v1 + 1) M34 H locs ls G  (lv_sub hl [1, 0] rfl) h
  have hL12 : ∀ (n : Nat) (v1 : Int32) (M : Mm) (H : Heap) (locs : List Loc) (ls : Array Slot), gS D s 17 ad (shR ad cy) H locs M → lv_has ls 2 [(0, .ref (ad 0)), (1, .int (v1))] → l_X12_read_12 K n v1 M → gWk p l e 5 110 s m ([.ref (ad 0)] : List Value).toArray below meth c H locs (gQv D 17 ad (shR ad cy) K) 17 ad 12 ls [] := by
    intro n12
    induction n12 with
    | zero =>
      intro v1 M H locs ls G hl h
      exact False.elim h
    | succ n12 ih12 =>
      intro v1 M H locs ls G hl h
      rw [l_X12_read_12] at h
      refine lv_iload_n hx hb dX12_read_12 rfl (lv_at hl 1 rfl) ?_
      refine lv_bipush (v := (33)) hx hb dX12_read_13 (by decide) ?_
      refine lv_icmp_ge (tgt := 31) hx hb dX12_read_15 (by decide) (fun c36 => ?_) (fun c36 => ?_)
      · have h := h.1 c36
        refine lv_iconst (v := (0)) hx hb dX12_read_31 (by decide) ?_
        refine lv_istore_n (lv' := [(1, .int (0)), (0, .ref (ad 0))]) hx hb dX12_read_32 rfl hl (by decide) rfl (fun ls hl => ?_)
        obtain ⟨n37, h⟩ := h
        exact hL33   n37 (0) M H locs ls G  (lv_sub hl [1, 0] rfl) h
      have h := h.2 c36
      refine lv_aload_n hx hb dX12_read_18 rfl (lv_at hl 0 rfl) ?_
      refine gf_Model_draft X G qw_5_12 dX12_read_19 ?_
      refine lv_iload_n hx hb dX12_read_22 rfl (lv_at hl 1 rfl) ?_
      refine lv_iconst (v := (0)) hx hb dX12_read_23 (by decide) ?_
      obtain ⟨q38, h⟩ := h
      refine gq_iast X G rr_6 q38 dX12_read_24 (fun M39 H locs e40 G => ?_)
      have h := h M39 e40
      refine lv_iinc (v := v1 + 1) (lv' := [(1, .int (v1 + 1)), (0, .ref (ad 0))]) hx hb dX12_read_25 hl (k := 1) rfl rfl (by decide) rfl (fun ls hl => ?_)
      refine lv_goto (tgt := 12) hx hb dX12_read_28 (by decide) ?_
      exact ih12 (v1 + 1) M39 H locs ls G  (lv_sub hl [1, 0] rfl) h
  unfold f_X12_read at h
  refine lv_aload_n hx hb dX12_read_0 rfl (lv_at hl 0 rfl) ?_
  refine lv_iconst (v := (0)) hx hb dX12_read_1 (by decide) ?_
  refine gp_Model_at X G qw_14_14 dX12_read_2 (fun M41 H locs e42 G => ?_)
  have h := h M41 e42
  refine lv_aload_n hx hb dX12_read_5 rfl (lv_at hl 0 rfl) ?_
  refine lv_iconst (v := (0)) hx hb dX12_read_6 (by decide) ?_
  refine gp_Model_wrong X G qw_14_4 dX12_read_7 (fun M43 H locs e44 G => ?_)
  have h := h M43 e44
  refine lv_iconst (v := (0)) hx hb dX12_read_10 (by decide) ?_
  refine lv_istore_n (lv' := [(1, .int (0)), (0, .ref (ad 0))]) hx hb dX12_read_11 rfl hl (by decide) rfl (fun ls hl => ?_)
  obtain ⟨n45, h⟩ := h
  exact hL12   n45 (0) M43 H locs ls G  (lv_sub hl [1, 0] rfl) h
def l_X12_paper_60 (K : Int32 → Mm → Prop) : Nat → Int32 → Mm → Prop
  | 0, _, _ => False
  | n + 1, v1, M => ((((22 : Int32) ≤ v1 : Prop) → (∀ M2 : Mm, M2 = gU M 0 20 (1) → (∀ M4 : Mm, M4 = gU M2 0 19 (0) → K (M4 7 (0 : Int32).toNatClampNeg) M4))) ∧ (¬ ((22 : Int32) ≤ v1 : Prop) → (vp_in (v1) 22 ∧ (∀ M7 : Mm, M7 = gU M 9 (v1 : Int32).toNatClampNeg (M 8 (v1 : Int32).toNatClampNeg) → (l_X12_paper_60 K n) (v1 + 1) M7))))
def l_X12_paper_34 (K : Int32 → Mm → Prop) : Nat → Int32 → Mm → Prop
  | 0, _, _ => False
  | n + 1, v1, M => ((((33 : Int32) ≤ v1 : Prop) → ∃ z, l_X12_paper_60 K z (0) M) ∧ (¬ ((33 : Int32) ≤ v1 : Prop) → (vp_in (v1) 33 ∧ (∀ M12 : Mm, M12 = gU M 7 (v1 : Int32).toNatClampNeg (M 6 (v1 : Int32).toNatClampNeg) → (l_X12_paper_34 K n) (v1 + 1) M12))))
def f_X12_paper  (M : Mm) (K : Int32 → Mm → Prop) : Prop := (f_X12_read  M (fun M14 => (∀ M15 : Mm, M15 = gU M14 0 6 (0) → ((((M15 0 11 : Int32) = 0 : Prop) → ∃ z, l_X12_paper_34 K z (0) M15) ∧ (¬ ((M15 0 11 : Int32) = 0 : Prop) → (∀ M19 : Mm, M19 = gU M15 0 12 (M15 0 11) → K ((-1000100) - (M19 0 8)) M19))))))
set_option maxHeartbeats 4000000 in
set_option maxRecDepth 100000 in
theorem m_X12_paper (hI : gI 17 ad)  {M : Mm} {K : Int32 → Mm → Prop} (h : f_X12_paper  M K) : gM l D cy 17 ad (shR ad cy) yX12_paper cX12_paper 2 (some .int) 6 131 [.ref (ad 0)] M (gQi D 17 ad (shR ad cy) K) := by
  refine gM.of (own := RX12) (lv := [(0, .ref (ad 0))]) (by decide) rfl hI (Nat.le_of_ble_eq_true rfl) rfl ?_
  intro p e s m below meth c ls H locs X G hl
  have hx := X.1
  have hb := X.2.1
  have hL60 : ∀ (n : Nat) (v1 : Int32) (M : Mm) (H : Heap) (locs : List Loc) (ls : Array Slot), gS D s 17 ad (shR ad cy) H locs M → lv_has ls 2 [(0, .ref (ad 0)), (1, .int (v1))] → l_X12_paper_60 K n v1 M → gWk p l e 6 131 s m ([.ref (ad 0)] : List Value).toArray below meth c H locs (gQi D 17 ad (shR ad cy) K) 17 ad 60 ls [] := by
    intro n60
    induction n60 with
    | zero =>
      intro v1 M H locs ls G hl h
      exact False.elim h
    | succ n60 ih60 =>
      intro v1 M H locs ls G hl h
      rw [l_X12_paper_60] at h
      refine lv_iload_n hx hb dX12_paper_60 rfl (lv_at hl 1 rfl) ?_
      refine lv_bipush (v := (22)) hx hb dX12_paper_61 (by decide) ?_
      refine lv_icmp_ge (tgt := 84) hx hb dX12_paper_63 (by decide) (fun c1 => ?_) (fun c1 => ?_)
      · have h := h.1 c1
        refine lv_aload_n hx hb dX12_paper_84 rfl (lv_at hl 0 rfl) ?_
        refine lv_iconst (v := (1)) hx hb dX12_paper_85 (by decide) ?_
        refine gp_Model_isRead X G qw_14_8 (Or.inr rfl) dX12_paper_86 (fun M2 H locs e3 G => ?_)
        have h := h M2 e3
        refine lv_aload_n hx hb dX12_paper_89 rfl (lv_at hl 0 rfl) ?_
        refine lv_iconst (v := (0)) hx hb dX12_paper_90 (by decide) ?_
        refine gp_Model_many X G qw_14_9 dX12_paper_91 (fun M4 H locs e5 G => ?_)
        have h := h M4 e5
        refine lv_aload_n hx hb dX12_paper_94 rfl (lv_at hl 0 rfl) ?_
        refine gf_Model_told X G qw_5_13 dX12_paper_95 ?_
        refine lv_iconst (v := (0)) hx hb dX12_paper_98 (by decide) ?_
        refine gq_iald X G rr_7 (by unfold vp_in; decide) dX12_paper_99 ?_
        exact gq_iret X G h dX12_paper_100
      have h := h.2 c1
      refine lv_aload_n hx hb dX12_paper_66 rfl (lv_at hl 0 rfl) ?_
      refine gf_Model_now X G qw_5_15 dX12_paper_67 ?_
      refine lv_iload_n hx hb dX12_paper_70 rfl (lv_at hl 1 rfl) ?_
      refine lv_aload_n hx hb dX12_paper_71 rfl (lv_at hl 0 rfl) ?_
      refine gf_Model_begun X G qw_5_14 dX12_paper_72 ?_
      refine lv_iload_n hx hb dX12_paper_75 rfl (lv_at hl 1 rfl) ?_
      obtain ⟨q6, h⟩ := h
      refine gq_iald X G rr_8 q6 dX12_paper_76 ?_
      refine gq_iast X G rr_9 q6 dX12_paper_77 (fun M7 H locs e8 G => ?_)
      have h := h M7 e8
      refine lv_iinc (v := v1 + 1) (lv' := [(1, .int (v1 + 1)), (0, .ref (ad 0))]) hx hb dX12_paper_78 hl (k := 1) rfl rfl (by decide) rfl (fun ls hl => ?_)
      refine lv_goto (tgt := 60) hx hb dX12_paper_81 (by decide) ?_
      exact ih60 (v1 + 1) M7 H locs ls G  (lv_sub hl [1, 0] rfl) h
  have hL34 : ∀ (n : Nat) (v1 : Int32) (M : Mm) (H : Heap) (locs : List Loc) (ls : Array Slot), gS D s 17 ad (shR ad cy) H locs M → lv_has ls 2 [(0, .ref (ad 0)), (1, .int (v1))] → l_X12_paper_34 K n v1 M → gWk p l e 6 131 s m ([.ref (ad 0)] : List Value).toArray below meth c H locs (gQi D 17 ad (shR ad cy) K) 17 ad 34 ls [] := by
    intro n34
    induction n34 with
    | zero =>
      intro v1 M H locs ls G hl h
      exact False.elim h
    | succ n34 ih34 =>
      intro v1 M H locs ls G hl h
      rw [l_X12_paper_34] at h
      refine lv_iload_n hx hb dX12_paper_34 rfl (lv_at hl 1 rfl) ?_
      refine lv_bipush (v := (33)) hx hb dX12_paper_35 (by decide) ?_
      refine lv_icmp_ge (tgt := 58) hx hb dX12_paper_37 (by decide) (fun c9 => ?_) (fun c9 => ?_)
      · have h := h.1 c9
        refine lv_iconst (v := (0)) hx hb dX12_paper_58 (by decide) ?_
        refine lv_istore_n (lv' := [(1, .int (0)), (0, .ref (ad 0))]) hx hb dX12_paper_59 rfl hl (by decide) rfl (fun ls hl => ?_)
        obtain ⟨n10, h⟩ := h
        exact hL60   n10 (0) M H locs ls G  (lv_sub hl [1, 0] rfl) h
      have h := h.2 c9
      refine lv_aload_n hx hb dX12_paper_40 rfl (lv_at hl 0 rfl) ?_
      refine gf_Model_told X G qw_5_13 dX12_paper_41 ?_
      refine lv_iload_n hx hb dX12_paper_44 rfl (lv_at hl 1 rfl) ?_
      refine lv_aload_n hx hb dX12_paper_45 rfl (lv_at hl 0 rfl) ?_
      refine gf_Model_draft X G qw_5_12 dX12_paper_46 ?_
      refine lv_iload_n hx hb dX12_paper_49 rfl (lv_at hl 1 rfl) ?_
      obtain ⟨q11, h⟩ := h
      refine gq_iald X G rr_6 q11 dX12_paper_50 ?_
      refine gq_iast X G rr_7 q11 dX12_paper_51 (fun M12 H locs e13 G => ?_)
      have h := h M12 e13
      refine lv_iinc (v := v1 + 1) (lv' := [(1, .int (v1 + 1)), (0, .ref (ad 0))]) hx hb dX12_paper_52 hl (k := 1) rfl rfl (by decide) rfl (fun ls hl => ?_)
      refine lv_goto (tgt := 34) hx hb dX12_paper_55 (by decide) ?_
      exact ih34 (v1 + 1) M12 H locs ls G  (lv_sub hl [1, 0] rfl) h
  unfold f_X12_paper at h
  refine lv_aload_n hx hb dX12_paper_0 rfl (lv_at hl 0 rfl) ?_
  refine gq_callv G (gc_V (C := RX12) (rest := []) X hl.1 G (m_X12_read hI  h) cw_X12_read qw_14_10 qw_14_11 qw_14_12 ob_Model rfl rfl rfl rfl (Nat.le_of_ble_eq_true rfl) ⟨Nat.le_of_ble_eq_true rfl, Nat.le_of_ble_eq_true rfl⟩ ⟨Nat.le_refl _, Nat.le_refl _⟩ dX12_paper_1) (fun M14 H locs G h => ?_)
  refine lv_aload_n hx hb dX12_paper_4 rfl (lv_at hl 0 rfl) ?_
  refine lv_iconst (v := (0)) hx hb dX12_paper_5 (by decide) ?_
  refine gp_Model_fed X G qw_10_10 dX12_paper_6 (fun M15 H locs e16 G => ?_)
  have h := h M15 e16
  refine lv_aload_n hx hb dX12_paper_9 rfl (lv_at hl 0 rfl) ?_
  refine gf_Model_wrong X G qw_14_4 dX12_paper_10 ?_
  refine lv_if_eq (tgt := 32) hx hb dX12_paper_13 (by decide) (fun c17 => ?_) (fun c17 => ?_)
  · have h := h.1 c17
    refine lv_iconst (v := (0)) hx hb dX12_paper_32 (by decide) ?_
    refine lv_istore_n (lv' := [(1, .int (0)), (0, .ref (ad 0))]) hx hb dX12_paper_33 rfl hl (by decide) rfl (fun ls hl => ?_)
    obtain ⟨n18, h⟩ := h
    exact hL34   n18 (0) M15 H locs ls G  (lv_sub hl [1, 0] rfl) h
  have h := h.2 c17
  refine lv_aload_n hx hb dX12_paper_16 rfl (lv_at hl 0 rfl) ?_
  refine lv_aload_n hx hb dX12_paper_17 rfl (lv_at hl 0 rfl) ?_
  refine gf_Model_wrong X G qw_14_4 dX12_paper_18 ?_
  refine gp_Model_fault X G qw_14_5 dX12_paper_21 (fun M19 H locs e20 G => ?_)
  have h := h M19 e20
  refine gq_ldc (v := (-1000100)) X qw_14_6 dX12_paper_24 ?_
  refine lv_aload_n hx hb dX12_paper_26 rfl (lv_at hl 0 rfl) ?_
  refine gf_Model_stands X G qw_14_7 dX12_paper_27 ?_
  refine lv_isub hx hb dX12_paper_30 ?_
  exact gq_iret X G h dX12_paper_31
def f_X12_fault  (M : Mm) (K : Int32 → Mm → Prop) : Prop := K (M 0 12) M
set_option maxHeartbeats 4000000 in
set_option maxRecDepth 100000 in
theorem m_X12_fault (hI : gI 17 ad)  {M : Mm} {K : Int32 → Mm → Prop} (h : f_X12_fault  M K) : gM l D cy 17 ad (shR ad cy) yX12_fault cX12_fault 1 (some .int) 0 0 [.ref (ad 0)] M (gQi D 17 ad (shR ad cy) K) := by
  refine gM.of (own := RX12) (lv := [(0, .ref (ad 0))]) (by decide) rfl hI (Nat.le_of_ble_eq_true rfl) rfl ?_
  intro p e s m below meth c ls H locs X G hl
  have hx := X.1
  have hb := X.2.1
  unfold f_X12_fault at h
  refine lv_aload_n hx hb dX12_fault_0 rfl (lv_at hl 0 rfl) ?_
  refine gf_Model_fault X G qw_14_5 dX12_fault_1 ?_
  exact gq_iret X G h dX12_fault_4
def l_X12_anybody_4 (K : Int32 → Mm → Prop) : Nat → Int32 → Int32 → Mm → Prop
  | 0, _, _, _ => False
  | n + 1, v1, v2, M => ((((M 7 (3 : Int32).toNatClampNeg : Int32) ≤ v2 : Prop) → K (v1) M) ∧ (¬ ((M 7 (3 : Int32).toNatClampNeg : Int32) ≤ v2 : Prop) → (vp_in (17 + v2) 22 ∧ (l_X12_anybody_4 K n) (v1 ||| (M 9 (17 + v2 : Int32).toNatClampNeg)) (v2 + 1) M)))
def f_X12_anybody  (M : Mm) (K : Int32 → Mm → Prop) : Prop := ∃ z, l_X12_anybody_4 K z (0) (0) M
set_option maxHeartbeats 4000000 in
set_option maxRecDepth 100000 in
theorem m_X12_anybody (hI : gI 17 ad)  {M : Mm} {K : Int32 → Mm → Prop} (h : f_X12_anybody  M K) : gM l D cy 17 ad (shR ad cy) yX12_anybody cX12_anybody 3 (some .int) 0 0 [.ref (ad 0)] M (gQi D 17 ad (shR ad cy) K) := by
  refine gM.of (own := RX12) (lv := [(0, .ref (ad 0))]) (by decide) rfl hI (Nat.le_of_ble_eq_true rfl) rfl ?_
  intro p e s m below meth c ls H locs X G hl
  have hx := X.1
  have hb := X.2.1
  have hL4 : ∀ (n : Nat) (v1 : Int32) (v2 : Int32) (M : Mm) (H : Heap) (locs : List Loc) (ls : Array Slot), gS D s 17 ad (shR ad cy) H locs M → lv_has ls 3 [(0, .ref (ad 0)), (1, .int (v1)), (2, .int (v2))] → l_X12_anybody_4 K n v1 v2 M → gWk p l e 0 0 s m ([.ref (ad 0)] : List Value).toArray below meth c H locs (gQi D 17 ad (shR ad cy) K) 17 ad 4 ls [] := by
    intro n4
    induction n4 with
    | zero =>
      intro v1 v2 M H locs ls G hl h
      exact False.elim h
    | succ n4 ih4 =>
      intro v1 v2 M H locs ls G hl h
      rw [l_X12_anybody_4] at h
      refine lv_iload_n hx hb dX12_anybody_4 rfl (lv_at hl 2 rfl) ?_
      refine lv_aload_n hx hb dX12_anybody_5 rfl (lv_at hl 0 rfl) ?_
      refine gf_Model_told X G qw_5_13 dX12_anybody_6 ?_
      refine lv_iconst (v := (3)) hx hb dX12_anybody_9 (by decide) ?_
      refine gq_iald X G rr_7 (by unfold vp_in; decide) dX12_anybody_10 ?_
      refine lv_icmp_ge (tgt := 32) hx hb dX12_anybody_11 (by decide) (fun c1 => ?_) (fun c1 => ?_)
      · have h := h.1 c1
        refine lv_iload_n hx hb dX12_anybody_32 rfl (lv_at hl 1 rfl) ?_
        exact gq_iret X G h dX12_anybody_33
      have h := h.2 c1
      refine lv_iload_n hx hb dX12_anybody_14 rfl (lv_at hl 1 rfl) ?_
      refine lv_aload_n hx hb dX12_anybody_15 rfl (lv_at hl 0 rfl) ?_
      refine gf_Model_now X G qw_5_15 dX12_anybody_16 ?_
      refine lv_bipush (v := (17)) hx hb dX12_anybody_19 (by decide) ?_
      refine lv_iload_n hx hb dX12_anybody_21 rfl (lv_at hl 2 rfl) ?_
      refine lv_iadd hx hb dX12_anybody_22 ?_
      obtain ⟨q2, h⟩ := h
      refine gq_iald X G rr_9 q2 dX12_anybody_23 ?_
      refine lv_ior hx hb dX12_anybody_24 ?_
      refine lv_istore_n (lv' := [(1, .int (v1 ||| (M 9 (17 + v2 : Int32).toNatClampNeg))), (0, .ref (ad 0)), (2, .int (v2))]) hx hb dX12_anybody_25 rfl hl (by decide) rfl (fun ls hl => ?_)
      refine lv_iinc (v := v2 + 1) (lv' := [(2, .int (v2 + 1)), (1, .int (v1 ||| (M 9 (17 + v2 : Int32).toNatClampNeg))), (0, .ref (ad 0))]) hx hb dX12_anybody_26 hl (k := 2) rfl rfl (by decide) rfl (fun ls hl => ?_)
      refine lv_goto (tgt := 4) hx hb dX12_anybody_29 (by decide) ?_
      exact ih4 (v1 ||| (M 9 (17 + v2 : Int32).toNatClampNeg)) (v2 + 1) M H locs ls G  (lv_sub hl [2, 1, 0] rfl) h
  unfold f_X12_anybody at h
  refine lv_iconst (v := (0)) hx hb dX12_anybody_0 (by decide) ?_
  refine lv_istore_n (lv' := [(1, .int (0)), (0, .ref (ad 0))]) hx hb dX12_anybody_1 rfl hl (by decide) rfl (fun ls hl => ?_)
  refine lv_iconst (v := (0)) hx hb dX12_anybody_2 (by decide) ?_
  refine lv_istore_n (lv' := [(2, .int (0)), (1, .int (0)), (0, .ref (ad 0))]) hx hb dX12_anybody_3 rfl hl (by decide) rfl (fun ls hl => ?_)
  obtain ⟨n3, h⟩ := h
  exact hL4   n3 (0) (0) M H locs ls G  (lv_sub hl [2, 1, 0] rfl) h
def l_X12_know_51 (K : Mm → Prop) : Nat → Int32 → Mm → Prop
  | 0, _, _ => False
  | n + 1, v1, M => ((((22 : Int32) ≤ v1 : Prop) → (∀ M2 : Mm, M2 = gU M 0 19 ((M 0 19) + 1) → K M2)) ∧ (¬ ((22 : Int32) ≤ v1 : Prop) → (vp_in (v1) 22 ∧ (vp_in ((22 * (M 0 19)) + v1) 528 ∧ (∀ M6 : Mm, M6 = gU M 11 ((22 * (M 0 19)) + v1 : Int32).toNatClampNeg (M 9 (v1 : Int32).toNatClampNeg) → (l_X12_know_51 K n) (v1 + 1) M6)))))
def f_X12_know_49 (K : Mm → Prop) (M : Mm) : Prop := ∃ z, l_X12_know_51 K z (0) M
def l_X12_know_11 (K : Mm → Prop) : Nat → Int32 → Mm → Prop
  | 0, _, _ => False
  | n + 1, v1, M => ((((506 : Int32) ≤ v1 : Prop) → (∀ M10 : Mm, M10 = gU M 0 19 ((M 0 19) - 1) → f_X12_know_49 K M10)) ∧ (¬ ((506 : Int32) ≤ v1 : Prop) → (vp_in (22 + v1) 528 ∧ (vp_in (v1) 528 ∧ (∀ M14 : Mm, M14 = gU M 11 (v1 : Int32).toNatClampNeg (M 11 (22 + v1 : Int32).toNatClampNeg) → (l_X12_know_11 K n) (v1 + 1) M14)))))
def f_X12_know  (M : Mm) (K : Mm → Prop) : Prop := ((((M 0 19 : Int32) = 24 : Prop) → ∃ z, l_X12_know_11 K z (0) M) ∧ (¬ ((M 0 19 : Int32) = 24 : Prop) → f_X12_know_49 K M))
set_option maxHeartbeats 4000000 in
set_option maxRecDepth 100000 in
theorem m_X12_know (hI : gI 17 ad)  {M : Mm} {K : Mm → Prop} (h : f_X12_know  M K) : gM l D cy 17 ad (shR ad cy) yX12_know cX12_know 2 none 0 0 [.ref (ad 0)] M (gQv D 17 ad (shR ad cy) K) := by
  refine gM.of (own := RX12) (lv := [(0, .ref (ad 0))]) (by decide) rfl hI (Nat.le_of_ble_eq_true rfl) rfl ?_
  intro p e s m below meth c ls H locs X G hl
  have hx := X.1
  have hb := X.2.1
  have hL51 : ∀ (n : Nat) (v1 : Int32) (M : Mm) (H : Heap) (locs : List Loc) (ls : Array Slot), gS D s 17 ad (shR ad cy) H locs M → lv_has ls 2 [(0, .ref (ad 0)), (1, .int (v1))] → l_X12_know_51 K n v1 M → gWk p l e 0 0 s m ([.ref (ad 0)] : List Value).toArray below meth c H locs (gQv D 17 ad (shR ad cy) K) 17 ad 51 ls [] := by
    intro n51
    induction n51 with
    | zero =>
      intro v1 M H locs ls G hl h
      exact False.elim h
    | succ n51 ih51 =>
      intro v1 M H locs ls G hl h
      rw [l_X12_know_51] at h
      refine lv_iload_n hx hb dX12_know_51 rfl (lv_at hl 1 rfl) ?_
      refine lv_bipush (v := (22)) hx hb dX12_know_52 (by decide) ?_
      refine lv_icmp_ge (tgt := 83) hx hb dX12_know_54 (by decide) (fun c1 => ?_) (fun c1 => ?_)
      · have h := h.1 c1
        refine lv_aload_n hx hb dX12_know_83 rfl (lv_at hl 0 rfl) ?_
        refine lv_dup hx hb dX12_know_84 rfl ?_
        refine gf_Model_many X G qw_14_9 dX12_know_85 ?_
        refine lv_iconst (v := (1)) hx hb dX12_know_88 (by decide) ?_
        refine lv_iadd hx hb dX12_know_89 ?_
        refine gp_Model_many X G qw_14_9 dX12_know_90 (fun M2 H locs e3 G => ?_)
        have h := h M2 e3
        exact gq_vret X G h dX12_know_93
      have h := h.2 c1
      refine lv_aload_n hx hb dX12_know_57 rfl (lv_at hl 0 rfl) ?_
      refine gf_Model_before X G qw_5_17 dX12_know_58 ?_
      refine lv_bipush (v := (22)) hx hb dX12_know_61 (by decide) ?_
      refine lv_aload_n hx hb dX12_know_63 rfl (lv_at hl 0 rfl) ?_
      refine gf_Model_many X G qw_14_9 dX12_know_64 ?_
      refine lv_imul hx hb dX12_know_67 ?_
      refine lv_iload_n hx hb dX12_know_68 rfl (lv_at hl 1 rfl) ?_
      refine lv_iadd hx hb dX12_know_69 ?_
      refine lv_aload_n hx hb dX12_know_70 rfl (lv_at hl 0 rfl) ?_
      refine gf_Model_now X G qw_5_15 dX12_know_71 ?_
      refine lv_iload_n hx hb dX12_know_74 rfl (lv_at hl 1 rfl) ?_
      obtain ⟨q4, h⟩ := h
      refine gq_iald X G rr_9 q4 dX12_know_75 ?_
      obtain ⟨q5, h⟩ := h
      refine gq_iast X G rr_11 q5 dX12_know_76 (fun M6 H locs e7 G => ?_)
      have h := h M6 e7
      refine lv_iinc (v := v1 + 1) (lv' := [(1, .int (v1 + 1)), (0, .ref (ad 0))]) hx hb dX12_know_77 hl (k := 1) rfl rfl (by decide) rfl (fun ls hl => ?_)
      refine lv_goto (tgt := 51) hx hb dX12_know_80 (by decide) ?_
      exact ih51 (v1 + 1) M6 H locs ls G  (lv_sub hl [1, 0] rfl) h
  have hJ49 : ∀ (M : Mm) (H : Heap) (locs : List Loc) (ls : Array Slot), gS D s 17 ad (shR ad cy) H locs M → lv_has ls 2 [(0, .ref (ad 0))] → f_X12_know_49 K M → gWk p l e 0 0 s m ([.ref (ad 0)] : List Value).toArray below meth c H locs (gQv D 17 ad (shR ad cy) K) 17 ad 49 ls [] := by
    intro M H locs ls G hl h
    unfold f_X12_know_49 at h
    refine lv_iconst (v := (0)) hx hb dX12_know_49 (by decide) ?_
    refine lv_istore_n (lv' := [(1, .int (0)), (0, .ref (ad 0))]) hx hb dX12_know_50 rfl hl (by decide) rfl (fun ls hl => ?_)
    obtain ⟨n8, h⟩ := h
    exact hL51   n8 (0) M H locs ls G  (lv_sub hl [1, 0] rfl) h
  have hL11 : ∀ (n : Nat) (v1 : Int32) (M : Mm) (H : Heap) (locs : List Loc) (ls : Array Slot), gS D s 17 ad (shR ad cy) H locs M → lv_has ls 2 [(0, .ref (ad 0)), (1, .int (v1))] → l_X12_know_11 K n v1 M → gWk p l e 0 0 s m ([.ref (ad 0)] : List Value).toArray below meth c H locs (gQv D 17 ad (shR ad cy) K) 17 ad 11 ls [] := by
    intro n11
    induction n11 with
    | zero =>
      intro v1 M H locs ls G hl h
      exact False.elim h
    | succ n11 ih11 =>
      intro v1 M H locs ls G hl h
      rw [l_X12_know_11] at h
      refine lv_iload_n hx hb dX12_know_11 rfl (lv_at hl 1 rfl) ?_
      refine lv_sipush (v := (506)) hx hb dX12_know_12 (by decide) ?_
      refine lv_icmp_ge (tgt := 39) hx hb dX12_know_15 (by decide) (fun c9 => ?_) (fun c9 => ?_)
      · have h := h.1 c9
        refine lv_aload_n hx hb dX12_know_39 rfl (lv_at hl 0 rfl) ?_
        refine lv_dup hx hb dX12_know_40 rfl ?_
        refine gf_Model_many X G qw_14_9 dX12_know_41 ?_
        refine lv_iconst (v := (1)) hx hb dX12_know_44 (by decide) ?_
        refine lv_isub hx hb dX12_know_45 ?_
        refine gp_Model_many X G qw_14_9 dX12_know_46 (fun M10 H locs e11 G => ?_)
        have h := h M10 e11
        exact hJ49   M10 H locs ls G  (lv_sub hl [0] rfl) h
      have h := h.2 c9
      refine lv_aload_n hx hb dX12_know_18 rfl (lv_at hl 0 rfl) ?_
      refine gf_Model_before X G qw_5_17 dX12_know_19 ?_
      refine lv_iload_n hx hb dX12_know_22 rfl (lv_at hl 1 rfl) ?_
      refine lv_aload_n hx hb dX12_know_23 rfl (lv_at hl 0 rfl) ?_
      refine gf_Model_before X G qw_5_17 dX12_know_24 ?_
      refine lv_bipush (v := (22)) hx hb dX12_know_27 (by decide) ?_
      refine lv_iload_n hx hb dX12_know_29 rfl (lv_at hl 1 rfl) ?_
      refine lv_iadd hx hb dX12_know_30 ?_
      obtain ⟨q12, h⟩ := h
      refine gq_iald X G rr_11 q12 dX12_know_31 ?_
      obtain ⟨q13, h⟩ := h
      refine gq_iast X G rr_11 q13 dX12_know_32 (fun M14 H locs e15 G => ?_)
      have h := h M14 e15
      refine lv_iinc (v := v1 + 1) (lv' := [(1, .int (v1 + 1)), (0, .ref (ad 0))]) hx hb dX12_know_33 hl (k := 1) rfl rfl (by decide) rfl (fun ls hl => ?_)
      refine lv_goto (tgt := 11) hx hb dX12_know_36 (by decide) ?_
      exact ih11 (v1 + 1) M14 H locs ls G  (lv_sub hl [1, 0] rfl) h
  unfold f_X12_know at h
  refine lv_aload_n hx hb dX12_know_0 rfl (lv_at hl 0 rfl) ?_
  refine gf_Model_many X G qw_14_9 dX12_know_1 ?_
  refine lv_bipush (v := (24)) hx hb dX12_know_4 (by decide) ?_
  refine lv_icmp_ne (tgt := 49) hx hb dX12_know_6 (by decide) (fun c16 => ?_) (fun c16 => ?_)
  · have h := h.2 c16
    exact hJ49   M H locs ls G  (lv_sub hl [0] rfl) h
  have h := h.1 c16
  refine lv_iconst (v := (0)) hx hb dX12_know_9 (by decide) ?_
  refine lv_istore_n (lv' := [(1, .int (0)), (0, .ref (ad 0))]) hx hb dX12_know_10 rfl hl (by decide) rfl (fun ls hl => ?_)
  obtain ⟨n17, h⟩ := h
  exact hL11   n17 (0) M H locs ls G  (lv_sub hl [1, 0] rfl) h
def f_X12_firstOf (v1 : Nat) (v2 : Int32) (M : Mm) (K : Int32 → Mm → Prop) : Prop := ((((v2 : Int32) = 0 : Prop) → K (0) M) ∧ (¬ ((v2 : Int32) = 0 : Prop) → (vp_in ((1 + v2) - 1) 22 ∧ K (M v1 ((1 + v2) - 1 : Int32).toNatClampNeg) M)))
set_option maxHeartbeats 4000000 in
set_option maxRecDepth 100000 in
theorem m_X12_firstOf (hI : gI 17 ad) {v1 : Nat} (hv1 : isC v1) {v2 : Int32} {M : Mm} {K : Int32 → Mm → Prop} (h : f_X12_firstOf v1 v2 M K) : gM l D cy 17 ad (shR ad cy) yX12_firstOf cX12_firstOf 3 (some .int) 0 0 [.ref (ad 0), .ref (ad v1), .int (v2)] M (gQi D 17 ad (shR ad cy) K) := by
  refine gM.of (own := RX12) (lv := [(0, .ref (ad 0)), (1, .ref (ad v1)), (2, .int (v2))]) (by decide) rfl hI (Nat.le_of_ble_eq_true rfl) rfl ?_
  intro p e s m below meth c ls H locs X G hl
  have hx := X.1
  have hb := X.2.1
  unfold f_X12_firstOf at h
  refine lv_iload_n hx hb dX12_firstOf_0 rfl (lv_at hl 2 rfl) ?_
  refine lv_if_ne (tgt := 8) hx hb dX12_firstOf_1 (by decide) (fun c1 => ?_) (fun c1 => ?_)
  · have h := h.2 c1
    refine lv_aload_n hx hb dX12_firstOf_8 rfl (lv_at hl 1 rfl) ?_
    refine lv_iconst (v := (1)) hx hb dX12_firstOf_9 (by decide) ?_
    refine lv_iload_n hx hb dX12_firstOf_10 rfl (lv_at hl 2 rfl) ?_
    refine lv_iadd hx hb dX12_firstOf_11 ?_
    refine lv_iconst (v := (1)) hx hb dX12_firstOf_12 (by decide) ?_
    refine lv_isub hx hb dX12_firstOf_13 ?_
    obtain ⟨q2, h⟩ := h
    refine gq_iald X G (rr_isC hv1) q2 dX12_firstOf_14 ?_
    exact gq_iret X G h dX12_firstOf_15
  have h := h.1 c1
  refine lv_iconst (v := (0)) hx hb dX12_firstOf_4 (by decide) ?_
  refine lv_goto (tgt := 15) hx hb dX12_firstOf_5 (by decide) ?_
  exact gq_iret X G h dX12_firstOf_15
def f_X12_endOf (v1 : Nat) (v2 : Int32) (M : Mm) (K : Int32 → Mm → Prop) : Prop := ((((v2 : Int32) = M 7 (2 : Int32).toNatClampNeg : Prop) → K (M 7 (0 : Int32).toNatClampNeg) M) ∧ (¬ ((v2 : Int32) = M 7 (2 : Int32).toNatClampNeg : Prop) → (vp_in (1 + v2) 22 ∧ K (M v1 (1 + v2 : Int32).toNatClampNeg) M)))
set_option maxHeartbeats 4000000 in
set_option maxRecDepth 100000 in
theorem m_X12_endOf (hI : gI 17 ad) {v1 : Nat} (hv1 : isC v1) {v2 : Int32} {M : Mm} {K : Int32 → Mm → Prop} (h : f_X12_endOf v1 v2 M K) : gM l D cy 17 ad (shR ad cy) yX12_endOf cX12_endOf 3 (some .int) 0 0 [.ref (ad 0), .ref (ad v1), .int (v2)] M (gQi D 17 ad (shR ad cy) K) := by
  refine gM.of (own := RX12) (lv := [(0, .ref (ad 0)), (1, .ref (ad v1)), (2, .int (v2))]) (by decide) rfl hI (Nat.le_of_ble_eq_true rfl) rfl ?_
  intro p e s m below meth c ls H locs X G hl
  have hx := X.1
  have hb := X.2.1
  unfold f_X12_endOf at h
  refine lv_iload_n hx hb dX12_endOf_0 rfl (lv_at hl 2 rfl) ?_
  refine lv_aload_n hx hb dX12_endOf_1 rfl (lv_at hl 0 rfl) ?_
  refine gf_Model_told X G qw_5_13 dX12_endOf_2 ?_
  refine lv_iconst (v := (2)) hx hb dX12_endOf_5 (by decide) ?_
  refine gq_iald X G rr_7 (by unfold vp_in; decide) dX12_endOf_6 ?_
  refine lv_icmp_ne (tgt := 19) hx hb dX12_endOf_7 (by decide) (fun c1 => ?_) (fun c1 => ?_)
  · have h := h.2 c1
    refine lv_aload_n hx hb dX12_endOf_19 rfl (lv_at hl 1 rfl) ?_
    refine lv_iconst (v := (1)) hx hb dX12_endOf_20 (by decide) ?_
    refine lv_iload_n hx hb dX12_endOf_21 rfl (lv_at hl 2 rfl) ?_
    refine lv_iadd hx hb dX12_endOf_22 ?_
    obtain ⟨q2, h⟩ := h
    refine gq_iald X G (rr_isC hv1) q2 dX12_endOf_23 ?_
    exact gq_iret X G h dX12_endOf_24
  have h := h.1 c1
  refine lv_aload_n hx hb dX12_endOf_10 rfl (lv_at hl 0 rfl) ?_
  refine gf_Model_told X G qw_5_13 dX12_endOf_11 ?_
  refine lv_iconst (v := (0)) hx hb dX12_endOf_14 (by decide) ?_
  refine gq_iald X G rr_7 (by unfold vp_in; decide) dX12_endOf_15 ?_
  refine lv_goto (tgt := 24) hx hb dX12_endOf_16 (by decide) ?_
  exact gq_iret X G h dX12_endOf_24
def f_X12_sees_179 (K : Int32 → Mm → Prop) (k105 : Int32 → Int32 → Mm → Prop) (v1 : Nat) (v3 : Int32) (v4 : Int32) (v5 : Int32) (s0 : Int32) (M : Mm) : Prop := ((((s0 : Int32) = 0 : Prop) → k105 (v4 &&& (-1)) (v5 + 1) M) ∧ (¬ ((s0 : Int32) = 0 : Prop) → k105 (v4 &&& ((1 <<< (v5 &&& 31)) ^^^ (-1))) (v5 + 1) M))
def f_X12_sees_178 (K : Int32 → Mm → Prop) (k105 : Int32 → Int32 → Mm → Prop) (v1 : Nat) (v3 : Int32) (v4 : Int32) (v5 : Int32) (M : Mm) : Prop := f_X12_sees_179 K k105 (v1) (v3) (v4) (v5) (0) M
def f_X12_sees_174 (K : Int32 → Mm → Prop) (k105 : Int32 → Int32 → Mm → Prop) (v1 : Nat) (v3 : Int32) (v4 : Int32) (v5 : Int32) (M : Mm) : Prop := f_X12_sees_179 K k105 (v1) (v3) (v4) (v5) (1) M
def f_X12_sees_134 (K : Int32 → Mm → Prop) (k105 : Int32 → Int32 → Mm → Prop) (v1 : Nat) (v3 : Int32) (v4 : Int32) (v5 : Int32) (s0 : Int32) (M : Mm) : Prop := ((((s0 : Int32) = 0 : Prop) → ((((v3 : Int32) < 4 : Prop) → f_X12_sees_178 K k105 (v1) (v3) (v4) (v5) M) ∧ (¬ ((v3 : Int32) < 4 : Prop) → ((((v5 : Int32) ≤ 0 : Prop) → f_X12_sees_178 K k105 (v1) (v3) (v4) (v5) M) ∧ (¬ ((v5 : Int32) ≤ 0 : Prop) → (vp_in (4 + v5) 33 ∧ (vp_in ((4 + v5) - 1) 33 ∧ ((((M 7 ((4 + v5) - 1 : Int32).toNatClampNeg : Int32) < M 7 (4 + v5 : Int32).toNatClampNeg : Prop) → f_X12_sees_178 K k105 (v1) (v3) (v4) (v5) M) ∧ (¬ ((M 7 ((4 + v5) - 1 : Int32).toNatClampNeg : Int32) < M 7 (4 + v5 : Int32).toNatClampNeg : Prop) → f_X12_sees_174 K k105 (v1) (v3) (v4) (v5) M))))))))) ∧ (¬ ((s0 : Int32) = 0 : Prop) → f_X12_sees_174 K k105 (v1) (v3) (v4) (v5) M))
def f_X12_sees_133 (K : Int32 → Mm → Prop) (k105 : Int32 → Int32 → Mm → Prop) (v1 : Nat) (v3 : Int32) (v4 : Int32) (v5 : Int32) (M : Mm) : Prop := f_X12_sees_134 K k105 (v1) (v3) (v4) (v5) (0) M
def l_X12_sees_105 (K : Int32 → Mm → Prop) (v1 : Nat) (v3 : Int32) : Nat → Int32 → Int32 → Mm → Prop
  | 0, _, _, _ => False
  | n + 1, v4, v5, M => ((((M 7 (0 : Int32).toNatClampNeg : Int32) ≤ v5 : Prop) → ((((v3 : Int32) = 5 : Prop) → K (v4) M) ∧ (¬ ((v3 : Int32) = 5 : Prop) → K (v4 &&& ((M v1 (6 : Int32).toNatClampNeg) ^^^ (-1))) M))) ∧ (¬ ((M 7 (0 : Int32).toNatClampNeg : Int32) ≤ v5 : Prop) → ((((v3 : Int32) = 3 : Prop) → ((((v5 - v5 / 2 * 2 : Int32) = 1 : Prop) → f_X12_sees_134 K (fun a0 a1 a => (l_X12_sees_105 K v1 v3 n) a0 a1 a) (v1) (v3) (v4) (v5) (1) M) ∧ (¬ ((v5 - v5 / 2 * 2 : Int32) = 1 : Prop) → f_X12_sees_133 K (fun a0 a1 a => (l_X12_sees_105 K v1 v3 n) a0 a1 a) (v1) (v3) (v4) (v5) M))) ∧ (¬ ((v3 : Int32) = 3 : Prop) → f_X12_sees_133 K (fun a0 a1 a => (l_X12_sees_105 K v1 v3 n) a0 a1 a) (v1) (v3) (v4) (v5) M))))
def f_X12_sees_102 (K : Int32 → Mm → Prop) (v1 : Nat) (v3 : Int32) (v4 : Int32) (M : Mm) : Prop := ∃ z, l_X12_sees_105 K (v1) (v3) z (v4) (0) M
def f_X12_sees_99 (K : Int32 → Mm → Prop) (v1 : Nat) (v3 : Int32) (s0 : Int32) (s1 : Int32) (M : Mm) : Prop := f_X12_sees_102 K (v1) (v3) (s1 ||| s0) M
def f_X12_sees_67 (K : Int32 → Mm → Prop) (v1 : Nat) (v2 : Int32) (v3 : Int32) (s0 : Int32) (s1 : Int32) (M : Mm) : Prop := (f_X12_endOf v1 (v2) M (fun r14 M13 => ((((M13 7 (0 : Int32).toNatClampNeg : Int32) ≤ r14 : Prop) → f_X12_sees_99 K (v1) (v3) (0) (s1 ||| s0) M13) ∧ (¬ ((M13 7 (0 : Int32).toNatClampNeg : Int32) ≤ r14 : Prop) → (f_X12_endOf v1 (v2) M13 (fun r17 M16 => f_X12_sees_99 K (v1) (v3) (1 <<< (r17 &&& 31)) (s1 ||| s0) M16))))))
def l_X12_sees_11 (K : Int32 → Mm → Prop) (v1 : Nat) (v2 : Int32) (v3 : Int32) : Nat → Int32 → Int32 → Mm → Prop
  | 0, _, _, _ => False
  | n + 1, v4, v5, M => (f_X12_endOf v1 (v2) M (fun r19 M18 => ((((r19 : Int32) ≤ v5 : Prop) → ((((v3 : Int32) = 2 : Prop) → (f_X12_firstOf v1 (v2) M18 (fun r23 M22 => ((((r23 : Int32) ≤ 0 : Prop) → f_X12_sees_67 K (v1) (v2) (v3) (0) (v4) M22) ∧ (¬ ((r23 : Int32) ≤ 0 : Prop) → (f_X12_firstOf v1 (v2) M22 (fun r26 M25 => f_X12_sees_67 K (v1) (v2) (v3) (1 <<< ((r26 - 1) &&& 31)) (v4) M25))))))) ∧ (¬ ((v3 : Int32) = 2 : Prop) → f_X12_sees_102 K (v1) (v3) (v4) M18))) ∧ (¬ ((r19 : Int32) ≤ v5 : Prop) → (l_X12_sees_11 K v1 v2 v3 n) (v4 ||| (1 <<< (v5 &&& 31))) (v5 + 1) M18))))
def f_X12_sees (v1 : Nat) (v2 : Int32) (v3 : Int32) (M : Mm) (K : Int32 → Mm → Prop) : Prop := (f_X12_firstOf v1 (v2) M (fun r28 M27 => ∃ z, l_X12_sees_11 K (v1) (v2) (v3) z (0) (r28) M27))
set_option maxHeartbeats 4000000 in
set_option maxRecDepth 100000 in
theorem m_X12_sees (hI : gI 17 ad) {v1 : Nat} (hv1 : isC v1) {v2 : Int32} {v3 : Int32} {M : Mm} {K : Int32 → Mm → Prop} (h : f_X12_sees v1 v2 v3 M K) : gM l D cy 17 ad (shR ad cy) yX12_sees cX12_sees 7 (some .int) 1 22 [.ref (ad 0), .ref (ad v1), .int (v2), .int (v3)] M (gQi D 17 ad (shR ad cy) K) := by
  refine gM.of (own := RX12) (lv := [(0, .ref (ad 0)), (1, .ref (ad v1)), (2, .int (v2)), (3, .int (v3))]) (by decide) rfl hI (Nat.le_of_ble_eq_true rfl) rfl ?_
  intro p e s m below meth c ls H locs X G hl
  have hx := X.1
  have hb := X.2.1
  have hL105 : ∀ (n : Nat) (v4 : Int32) (v5 : Int32) (M : Mm) (H : Heap) (locs : List Loc) (ls : Array Slot), gS D s 17 ad (shR ad cy) H locs M → lv_has ls 7 [(0, .ref (ad 0)), (1, .ref (ad v1)), (3, .int (v3)), (4, .int (v4)), (5, .int (v5))] → l_X12_sees_105 K v1 v3 n v4 v5 M → gWk p l e 1 22 s m ([.ref (ad 0), .ref (ad v1), .int (v2), .int (v3)] : List Value).toArray below meth c H locs (gQi D 17 ad (shR ad cy) K) 17 ad 105 ls [] := by
    intro n105
    induction n105 with
    | zero =>
      intro v4 v5 M H locs ls G hl h
      exact False.elim h
    | succ n105 ih105 =>
      have hJ179 : ∀ (v4 : Int32) (v5 : Int32) (s0 : Int32) (M : Mm) (H : Heap) (locs : List Loc) (ls : Array Slot), gS D s 17 ad (shR ad cy) H locs M → lv_has ls 7 [(0, .ref (ad 0)), (1, .ref (ad v1)), (3, .int (v3)), (4, .int (v4)), (5, .int (v5))] → f_X12_sees_179 K (fun a0 a1 a => (l_X12_sees_105 K v1 v3 n105) a0 a1 a) v1 v3 v4 v5 s0 M → gWk p l e 1 22 s m ([.ref (ad 0), .ref (ad v1), .int (v2), .int (v3)] : List Value).toArray below meth c H locs (gQi D 17 ad (shR ad cy) K) 17 ad 179 ls [.int (s0)] := by
        intro v4 v5 s0 M H locs ls G hl h
        unfold f_X12_sees_179 at h
        refine lv_istore (lv' := [(6, .int (s0)), (0, .ref (ad 0)), (1, .ref (ad v1)), (3, .int (v3)), (4, .int (v4)), (5, .int (v5))]) hx hb dX12_sees_179 hl (by decide) rfl (fun ls hl => ?_)
        refine lv_iload hx hb dX12_sees_181 (lv_at hl 4 rfl) ?_
        refine lv_iload hx hb dX12_sees_183 (lv_at hl 0 rfl) ?_
        refine lv_if_eq (tgt := 197) hx hb dX12_sees_185 (by decide) (fun c1 => ?_) (fun c1 => ?_)
        · have h := h.1 c1
          refine lv_iconst (v := (-1)) hx hb dX12_sees_197 (by decide) ?_
          refine lv_iand hx hb dX12_sees_198 ?_
          refine lv_istore (lv' := [(4, .int (v4 &&& (-1))), (6, .int (s0)), (0, .ref (ad 0)), (1, .ref (ad v1)), (3, .int (v3)), (5, .int (v5))]) hx hb dX12_sees_199 hl (by decide) rfl (fun ls hl => ?_)
          refine lv_iinc (v := v5 + 1) (lv' := [(5, .int (v5 + 1)), (4, .int (v4 &&& (-1))), (6, .int (s0)), (0, .ref (ad 0)), (1, .ref (ad v1)), (3, .int (v3))]) hx hb dX12_sees_201 hl (k := 5) rfl rfl (by decide) rfl (fun ls hl => ?_)
          refine lv_goto (tgt := 105) hx hb dX12_sees_204 (by decide) ?_
          exact ih105 (v4 &&& (-1)) (v5 + 1) M H locs ls G  (lv_sub hl [3, 4, 5, 1, 0] rfl) h
        have h := h.2 c1
        refine lv_iconst (v := (1)) hx hb dX12_sees_188 (by decide) ?_
        refine lv_iload hx hb dX12_sees_189 (lv_at hl 5 rfl) ?_
        refine lv_ishl hx hb dX12_sees_191 ?_
        refine lv_iconst (v := (-1)) hx hb dX12_sees_192 (by decide) ?_
        refine lv_ixor hx hb dX12_sees_193 ?_
        refine lv_goto (tgt := 198) hx hb dX12_sees_194 (by decide) ?_
        refine lv_iand hx hb dX12_sees_198 ?_
        refine lv_istore (lv' := [(4, .int (v4 &&& ((1 <<< (v5 &&& 31)) ^^^ (-1)))), (6, .int (s0)), (0, .ref (ad 0)), (1, .ref (ad v1)), (3, .int (v3)), (5, .int (v5))]) hx hb dX12_sees_199 hl (by decide) rfl (fun ls hl => ?_)
        refine lv_iinc (v := v5 + 1) (lv' := [(5, .int (v5 + 1)), (4, .int (v4 &&& ((1 <<< (v5 &&& 31)) ^^^ (-1)))), (6, .int (s0)), (0, .ref (ad 0)), (1, .ref (ad v1)), (3, .int (v3))]) hx hb dX12_sees_201 hl (k := 5) rfl rfl (by decide) rfl (fun ls hl => ?_)
        refine lv_goto (tgt := 105) hx hb dX12_sees_204 (by decide) ?_
        exact ih105 (v4 &&& ((1 <<< (v5 &&& 31)) ^^^ (-1))) (v5 + 1) M H locs ls G  (lv_sub hl [3, 4, 5, 1, 0] rfl) h
      have hJ178 : ∀ (v4 : Int32) (v5 : Int32) (M : Mm) (H : Heap) (locs : List Loc) (ls : Array Slot), gS D s 17 ad (shR ad cy) H locs M → lv_has ls 7 [(0, .ref (ad 0)), (1, .ref (ad v1)), (3, .int (v3)), (4, .int (v4)), (5, .int (v5))] → f_X12_sees_178 K (fun a0 a1 a => (l_X12_sees_105 K v1 v3 n105) a0 a1 a) v1 v3 v4 v5 M → gWk p l e 1 22 s m ([.ref (ad 0), .ref (ad v1), .int (v2), .int (v3)] : List Value).toArray below meth c H locs (gQi D 17 ad (shR ad cy) K) 17 ad 178 ls [] := by
        intro v4 v5 M H locs ls G hl h
        unfold f_X12_sees_178 at h
        refine lv_iconst (v := (0)) hx hb dX12_sees_178 (by decide) ?_
        exact hJ179 (v4) (v5) (0) M H locs ls G  (lv_sub hl [0, 1, 2, 3, 4] rfl) h
      have hJ174 : ∀ (v4 : Int32) (v5 : Int32) (M : Mm) (H : Heap) (locs : List Loc) (ls : Array Slot), gS D s 17 ad (shR ad cy) H locs M → lv_has ls 7 [(0, .ref (ad 0)), (1, .ref (ad v1)), (3, .int (v3)), (4, .int (v4)), (5, .int (v5))] → f_X12_sees_174 K (fun a0 a1 a => (l_X12_sees_105 K v1 v3 n105) a0 a1 a) v1 v3 v4 v5 M → gWk p l e 1 22 s m ([.ref (ad 0), .ref (ad v1), .int (v2), .int (v3)] : List Value).toArray below meth c H locs (gQi D 17 ad (shR ad cy) K) 17 ad 174 ls [] := by
        intro v4 v5 M H locs ls G hl h
        unfold f_X12_sees_174 at h
        refine lv_iconst (v := (1)) hx hb dX12_sees_174 (by decide) ?_
        refine lv_goto (tgt := 179) hx hb dX12_sees_175 (by decide) ?_
        exact hJ179 (v4) (v5) (1) M H locs ls G  (lv_sub hl [0, 1, 2, 3, 4] rfl) h
      have hJ134 : ∀ (v4 : Int32) (v5 : Int32) (s0 : Int32) (M : Mm) (H : Heap) (locs : List Loc) (ls : Array Slot), gS D s 17 ad (shR ad cy) H locs M → lv_has ls 7 [(0, .ref (ad 0)), (1, .ref (ad v1)), (3, .int (v3)), (4, .int (v4)), (5, .int (v5))] → f_X12_sees_134 K (fun a0 a1 a => (l_X12_sees_105 K v1 v3 n105) a0 a1 a) v1 v3 v4 v5 s0 M → gWk p l e 1 22 s m ([.ref (ad 0), .ref (ad v1), .int (v2), .int (v3)] : List Value).toArray below meth c H locs (gQi D 17 ad (shR ad cy) K) 17 ad 134 ls [.int (s0)] := by
        intro v4 v5 s0 M H locs ls G hl h
        unfold f_X12_sees_134 at h
        refine lv_istore (lv' := [(6, .int (s0)), (0, .ref (ad 0)), (1, .ref (ad v1)), (3, .int (v3)), (4, .int (v4)), (5, .int (v5))]) hx hb dX12_sees_134 hl (by decide) rfl (fun ls hl => ?_)
        refine lv_iload hx hb dX12_sees_136 (lv_at hl 0 rfl) ?_
        refine lv_if_ne (tgt := 174) hx hb dX12_sees_138 (by decide) (fun c2 => ?_) (fun c2 => ?_)
        · have h := h.2 c2
          exact hJ174 (v4) (v5)  M H locs ls G  (lv_sub hl [1, 2, 3, 4, 5] rfl) h
        have h := h.1 c2
        refine lv_iload_n hx hb dX12_sees_141 rfl (lv_at hl 3 rfl) ?_
        refine lv_iconst (v := (4)) hx hb dX12_sees_142 (by decide) ?_
        refine lv_icmp_lt (tgt := 178) hx hb dX12_sees_143 (by decide) (fun c3 => ?_) (fun c3 => ?_)
        · have h := h.1 c3
          exact hJ178 (v4) (v5)  M H locs ls G  (lv_sub hl [1, 2, 3, 4, 5] rfl) h
        have h := h.2 c3
        refine lv_iload hx hb dX12_sees_146 (lv_at hl 5 rfl) ?_
        refine lv_if_le (tgt := 178) hx hb dX12_sees_148 (by decide) (fun c4 => ?_) (fun c4 => ?_)
        · have h := h.1 c4
          exact hJ178 (v4) (v5)  M H locs ls G  (lv_sub hl [1, 2, 3, 4, 5] rfl) h
        have h := h.2 c4
        refine lv_aload_n hx hb dX12_sees_151 rfl (lv_at hl 1 rfl) ?_
        refine gf_Model_told X G qw_5_13 dX12_sees_152 ?_
        refine lv_iconst (v := (4)) hx hb dX12_sees_155 (by decide) ?_
        refine lv_iload hx hb dX12_sees_156 (lv_at hl 5 rfl) ?_
        refine lv_iadd hx hb dX12_sees_158 ?_
        obtain ⟨q5, h⟩ := h
        refine gq_iald X G rr_7 q5 dX12_sees_159 ?_
        refine lv_aload_n hx hb dX12_sees_160 rfl (lv_at hl 1 rfl) ?_
        refine gf_Model_told X G qw_5_13 dX12_sees_161 ?_
        refine lv_iconst (v := (4)) hx hb dX12_sees_164 (by decide) ?_
        refine lv_iload hx hb dX12_sees_165 (lv_at hl 5 rfl) ?_
        refine lv_iadd hx hb dX12_sees_167 ?_
        refine lv_iconst (v := (1)) hx hb dX12_sees_168 (by decide) ?_
        refine lv_isub hx hb dX12_sees_169 ?_
        obtain ⟨q6, h⟩ := h
        refine gq_iald X G rr_7 q6 dX12_sees_170 ?_
        refine lv_icmp_gt (tgt := 178) hx hb dX12_sees_171 (by decide) (fun c7 => ?_) (fun c7 => ?_)
        · have h := h.1 c7
          exact hJ178 (v4) (v5)  M H locs ls G  (lv_sub hl [1, 2, 3, 4, 5] rfl) h
        have h := h.2 c7
        exact hJ174 (v4) (v5)  M H locs ls G  (lv_sub hl [1, 2, 3, 4, 5] rfl) h
      have hJ133 : ∀ (v4 : Int32) (v5 : Int32) (M : Mm) (H : Heap) (locs : List Loc) (ls : Array Slot), gS D s 17 ad (shR ad cy) H locs M → lv_has ls 7 [(0, .ref (ad 0)), (1, .ref (ad v1)), (3, .int (v3)), (4, .int (v4)), (5, .int (v5))] → f_X12_sees_133 K (fun a0 a1 a => (l_X12_sees_105 K v1 v3 n105) a0 a1 a) v1 v3 v4 v5 M → gWk p l e 1 22 s m ([.ref (ad 0), .ref (ad v1), .int (v2), .int (v3)] : List Value).toArray below meth c H locs (gQi D 17 ad (shR ad cy) K) 17 ad 133 ls [] := by
        intro v4 v5 M H locs ls G hl h
        unfold f_X12_sees_133 at h
        refine lv_iconst (v := (0)) hx hb dX12_sees_133 (by decide) ?_
        exact hJ134 (v4) (v5) (0) M H locs ls G  (lv_sub hl [0, 1, 2, 3, 4] rfl) h
      intro v4 v5 M H locs ls G hl h
      rw [l_X12_sees_105] at h
      refine lv_iload hx hb dX12_sees_105 (lv_at hl 4 rfl) ?_
      refine lv_aload_n hx hb dX12_sees_107 rfl (lv_at hl 0 rfl) ?_
      refine gf_Model_told X G qw_5_13 dX12_sees_108 ?_
      refine lv_iconst (v := (0)) hx hb dX12_sees_111 (by decide) ?_
      refine gq_iald X G rr_7 (by unfold vp_in; decide) dX12_sees_112 ?_
      refine lv_icmp_ge (tgt := 207) hx hb dX12_sees_113 (by decide) (fun c8 => ?_) (fun c8 => ?_)
      · have h := h.1 c8
        refine lv_iload_n hx hb dX12_sees_207 rfl (lv_at hl 2 rfl) ?_
        refine lv_iconst (v := (5)) hx hb dX12_sees_208 (by decide) ?_
        refine lv_icmp_ne (tgt := 217) hx hb dX12_sees_209 (by decide) (fun c9 => ?_) (fun c9 => ?_)
        · have h := h.2 c9
          refine lv_iload hx hb dX12_sees_217 (lv_at hl 3 rfl) ?_
          refine lv_aload_n hx hb dX12_sees_219 rfl (lv_at hl 1 rfl) ?_
          refine lv_bipush (v := (6)) hx hb dX12_sees_220 (by decide) ?_
          refine gq_iald X G (rr_isC hv1) (by unfold vp_in; decide) dX12_sees_222 ?_
          refine lv_iconst (v := (-1)) hx hb dX12_sees_223 (by decide) ?_
          refine lv_ixor hx hb dX12_sees_224 ?_
          refine lv_iand hx hb dX12_sees_225 ?_
          exact gq_iret X G h dX12_sees_226
        have h := h.1 c9
        refine lv_iload hx hb dX12_sees_212 (lv_at hl 3 rfl) ?_
        refine lv_goto (tgt := 226) hx hb dX12_sees_214 (by decide) ?_
        exact gq_iret X G h dX12_sees_226
      have h := h.2 c8
      refine lv_iload_n hx hb dX12_sees_116 rfl (lv_at hl 2 rfl) ?_
      refine lv_iconst (v := (3)) hx hb dX12_sees_117 (by decide) ?_
      refine lv_icmp_ne (tgt := 133) hx hb dX12_sees_118 (by decide) (fun c10 => ?_) (fun c10 => ?_)
      · have h := h.2 c10
        exact hJ133 (v4) (v5)  M H locs ls G  (lv_sub hl [0, 1, 2, 3, 4] rfl) h
      have h := h.1 c10
      refine lv_iload hx hb dX12_sees_121 (lv_at hl 4 rfl) ?_
      refine lv_iconst (v := (2)) hx hb dX12_sees_123 (by decide) ?_
      refine lv_irem hx hb dX12_sees_124 (by decide) ?_
      refine lv_iconst (v := (1)) hx hb dX12_sees_125 (by decide) ?_
      refine lv_icmp_ne (tgt := 133) hx hb dX12_sees_126 (by decide) (fun c11 => ?_) (fun c11 => ?_)
      · have h := h.2 c11
        exact hJ133 (v4) (v5)  M H locs ls G  (lv_sub hl [0, 1, 2, 3, 4] rfl) h
      have h := h.1 c11
      refine lv_iconst (v := (1)) hx hb dX12_sees_129 (by decide) ?_
      refine lv_goto (tgt := 134) hx hb dX12_sees_130 (by decide) ?_
      exact hJ134 (v4) (v5) (1) M H locs ls G  (lv_sub hl [0, 1, 2, 3, 4] rfl) h
  have hJ102 : ∀ (v4 : Int32) (M : Mm) (H : Heap) (locs : List Loc) (ls : Array Slot), gS D s 17 ad (shR ad cy) H locs M → lv_has ls 7 [(0, .ref (ad 0)), (1, .ref (ad v1)), (3, .int (v3)), (4, .int (v4))] → f_X12_sees_102 K v1 v3 v4 M → gWk p l e 1 22 s m ([.ref (ad 0), .ref (ad v1), .int (v2), .int (v3)] : List Value).toArray below meth c H locs (gQi D 17 ad (shR ad cy) K) 17 ad 102 ls [] := by
    intro v4 M H locs ls G hl h
    unfold f_X12_sees_102 at h
    refine lv_iconst (v := (0)) hx hb dX12_sees_102 (by decide) ?_
    refine lv_istore (lv' := [(5, .int (0)), (0, .ref (ad 0)), (1, .ref (ad v1)), (3, .int (v3)), (4, .int (v4))]) hx hb dX12_sees_103 hl (by decide) rfl (fun ls hl => ?_)
    obtain ⟨n12, h⟩ := h
    exact hL105   n12 (v4) (0) M H locs ls G  (lv_sub hl [1, 2, 3, 4, 0] rfl) h
  have hJ99 : ∀ (s0 : Int32) (s1 : Int32) (M : Mm) (H : Heap) (locs : List Loc) (ls : Array Slot), gS D s 17 ad (shR ad cy) H locs M → lv_has ls 7 [(0, .ref (ad 0)), (1, .ref (ad v1)), (3, .int (v3))] → f_X12_sees_99 K v1 v3 s0 s1 M → gWk p l e 1 22 s m ([.ref (ad 0), .ref (ad v1), .int (v2), .int (v3)] : List Value).toArray below meth c H locs (gQi D 17 ad (shR ad cy) K) 17 ad 99 ls [.int (s0), .int (s1)] := by
    intro s0 s1 M H locs ls G hl h
    unfold f_X12_sees_99 at h
    refine lv_ior hx hb dX12_sees_99 ?_
    refine lv_istore (lv' := [(4, .int (s1 ||| s0)), (0, .ref (ad 0)), (1, .ref (ad v1)), (3, .int (v3))]) hx hb dX12_sees_100 hl (by decide) rfl (fun ls hl => ?_)
    exact hJ102 (s1 ||| s0)  M H locs ls G  (lv_sub hl [1, 2, 3, 0] rfl) h
  have hJ67 : ∀ (s0 : Int32) (s1 : Int32) (M : Mm) (H : Heap) (locs : List Loc) (ls : Array Slot), gS D s 17 ad (shR ad cy) H locs M → lv_has ls 7 [(0, .ref (ad 0)), (1, .ref (ad v1)), (2, .int (v2)), (3, .int (v3))] → f_X12_sees_67 K v1 v2 v3 s0 s1 M → gWk p l e 1 22 s m ([.ref (ad 0), .ref (ad v1), .int (v2), .int (v3)] : List Value).toArray below meth c H locs (gQi D 17 ad (shR ad cy) K) 17 ad 67 ls [.int (s0), .int (s1)] := by
    intro s0 s1 M H locs ls G hl h
    unfold f_X12_sees_67 at h
    refine lv_ior hx hb dX12_sees_67 ?_
    refine lv_istore (lv' := [(4, .int (s1 ||| s0)), (0, .ref (ad 0)), (1, .ref (ad v1)), (2, .int (v2)), (3, .int (v3))]) hx hb dX12_sees_68 hl (by decide) rfl (fun ls hl => ?_)
    refine lv_iload hx hb dX12_sees_70 (lv_at hl 0 rfl) ?_
    refine lv_aload_n hx hb dX12_sees_72 rfl (lv_at hl 1 rfl) ?_
    refine lv_aload_n hx hb dX12_sees_73 rfl (lv_at hl 2 rfl) ?_
    refine lv_iload_n hx hb dX12_sees_74 rfl (lv_at hl 3 rfl) ?_
    refine gq_calli G (gc_V (C := RX12) (rest := [.int (s1 ||| s0)]) X hl.1 G (m_X12_endOf hI hv1 h) cw_X12_endOf qw_20_11 qw_20_12 qw_20_13 ob_Model rfl rfl rfl rfl (Nat.le_of_ble_eq_true rfl) ⟨Nat.le_of_ble_eq_true rfl, Nat.le_of_ble_eq_true rfl⟩ ⟨Nat.le_refl _, Nat.le_refl _⟩ dX12_sees_75) (fun r14 M13 H locs G h => ?_)
    refine lv_aload_n hx hb dX12_sees_78 rfl (lv_at hl 1 rfl) ?_
    refine gf_Model_told X G qw_5_13 dX12_sees_79 ?_
    refine lv_iconst (v := (0)) hx hb dX12_sees_82 (by decide) ?_
    refine gq_iald X G rr_7 (by unfold vp_in; decide) dX12_sees_83 ?_
    refine lv_icmp_ge (tgt := 98) hx hb dX12_sees_84 (by decide) (fun c15 => ?_) (fun c15 => ?_)
    · have h := h.1 c15
      refine lv_iconst (v := (0)) hx hb dX12_sees_98 (by decide) ?_
      exact hJ99  (0) (s1 ||| s0) M13 H locs ls G  (lv_sub hl [1, 2, 4] rfl) h
    have h := h.2 c15
    refine lv_iconst (v := (1)) hx hb dX12_sees_87 (by decide) ?_
    refine lv_aload_n hx hb dX12_sees_88 rfl (lv_at hl 1 rfl) ?_
    refine lv_aload_n hx hb dX12_sees_89 rfl (lv_at hl 2 rfl) ?_
    refine lv_iload_n hx hb dX12_sees_90 rfl (lv_at hl 3 rfl) ?_
    refine gq_calli G (gc_V (C := RX12) (rest := [.int (1), .int (s1 ||| s0)]) X hl.1 G (m_X12_endOf hI hv1 h) cw_X12_endOf qw_20_11 qw_20_12 qw_20_13 ob_Model rfl rfl rfl rfl (Nat.le_of_ble_eq_true rfl) ⟨Nat.le_of_ble_eq_true rfl, Nat.le_of_ble_eq_true rfl⟩ ⟨Nat.le_refl _, Nat.le_refl _⟩ dX12_sees_91) (fun r17 M16 H locs G h => ?_)
    refine lv_ishl hx hb dX12_sees_94 ?_
    refine lv_goto (tgt := 99) hx hb dX12_sees_95 (by decide) ?_
    exact hJ99  (1 <<< (r17 &&& 31)) (s1 ||| s0) M16 H locs ls G  (lv_sub hl [1, 2, 4] rfl) h
  have hL11 : ∀ (n : Nat) (v4 : Int32) (v5 : Int32) (M : Mm) (H : Heap) (locs : List Loc) (ls : Array Slot), gS D s 17 ad (shR ad cy) H locs M → lv_has ls 7 [(0, .ref (ad 0)), (1, .ref (ad v1)), (2, .int (v2)), (3, .int (v3)), (4, .int (v4)), (5, .int (v5))] → l_X12_sees_11 K v1 v2 v3 n v4 v5 M → gWk p l e 1 22 s m ([.ref (ad 0), .ref (ad v1), .int (v2), .int (v3)] : List Value).toArray below meth c H locs (gQi D 17 ad (shR ad cy) K) 17 ad 11 ls [] := by
    intro n11
    induction n11 with
    | zero =>
      intro v4 v5 M H locs ls G hl h
      exact False.elim h
    | succ n11 ih11 =>
      intro v4 v5 M H locs ls G hl h
      rw [l_X12_sees_11] at h
      refine lv_iload hx hb dX12_sees_11 (lv_at hl 5 rfl) ?_
      refine lv_aload_n hx hb dX12_sees_13 rfl (lv_at hl 0 rfl) ?_
      refine lv_aload_n hx hb dX12_sees_14 rfl (lv_at hl 1 rfl) ?_
      refine lv_iload_n hx hb dX12_sees_15 rfl (lv_at hl 2 rfl) ?_
      refine gq_calli G (gc_V (C := RX12) (rest := [.int (v5)]) X hl.1 G (m_X12_endOf hI hv1 h) cw_X12_endOf qw_20_11 qw_20_12 qw_20_13 ob_Model rfl rfl rfl rfl (Nat.le_of_ble_eq_true rfl) ⟨Nat.le_of_ble_eq_true rfl, Nat.le_of_ble_eq_true rfl⟩ ⟨Nat.le_refl _, Nat.le_refl _⟩ dX12_sees_16) (fun r19 M18 H locs G h => ?_)
      refine lv_icmp_ge (tgt := 37) hx hb dX12_sees_19 (by decide) (fun c20 => ?_) (fun c20 => ?_)
      · have h := h.1 c20
        refine lv_iload_n hx hb dX12_sees_37 rfl (lv_at hl 3 rfl) ?_
        refine lv_iconst (v := (2)) hx hb dX12_sees_38 (by decide) ?_
        refine lv_icmp_ne (tgt := 102) hx hb dX12_sees_39 (by decide) (fun c21 => ?_) (fun c21 => ?_)
        · have h := h.2 c21
          exact hJ102 (v4)  M18 H locs ls G  (lv_sub hl [0, 1, 3, 4] rfl) h
        have h := h.1 c21
        refine lv_iload hx hb dX12_sees_42 (lv_at hl 4 rfl) ?_
        refine lv_aload_n hx hb dX12_sees_44 rfl (lv_at hl 0 rfl) ?_
        refine lv_aload_n hx hb dX12_sees_45 rfl (lv_at hl 1 rfl) ?_
        refine lv_iload_n hx hb dX12_sees_46 rfl (lv_at hl 2 rfl) ?_
        refine gq_calli G (gc_V (C := RX12) (rest := [.int (v4)]) X hl.1 G (m_X12_firstOf hI hv1 h) cw_X12_firstOf qw_20_7 qw_20_8 qw_20_9 ob_Model rfl rfl rfl rfl (Nat.le_of_ble_eq_true rfl) ⟨Nat.le_of_ble_eq_true rfl, Nat.le_of_ble_eq_true rfl⟩ ⟨Nat.le_refl _, Nat.le_refl _⟩ dX12_sees_47) (fun r23 M22 H locs G h => ?_)
        refine lv_if_le (tgt := 66) hx hb dX12_sees_50 (by decide) (fun c24 => ?_) (fun c24 => ?_)
        · have h := h.1 c24
          refine lv_iconst (v := (0)) hx hb dX12_sees_66 (by decide) ?_
          exact hJ67  (0) (v4) M22 H locs ls G  (lv_sub hl [0, 1, 2, 3] rfl) h
        have h := h.2 c24
        refine lv_iconst (v := (1)) hx hb dX12_sees_53 (by decide) ?_
        refine lv_aload_n hx hb dX12_sees_54 rfl (lv_at hl 0 rfl) ?_
        refine lv_aload_n hx hb dX12_sees_55 rfl (lv_at hl 1 rfl) ?_
        refine lv_iload_n hx hb dX12_sees_56 rfl (lv_at hl 2 rfl) ?_
        refine gq_calli G (gc_V (C := RX12) (rest := [.int (1), .int (v4)]) X hl.1 G (m_X12_firstOf hI hv1 h) cw_X12_firstOf qw_20_7 qw_20_8 qw_20_9 ob_Model rfl rfl rfl rfl (Nat.le_of_ble_eq_true rfl) ⟨Nat.le_of_ble_eq_true rfl, Nat.le_of_ble_eq_true rfl⟩ ⟨Nat.le_refl _, Nat.le_refl _⟩ dX12_sees_57) (fun r26 M25 H locs G h => ?_)
        refine lv_iconst (v := (1)) hx hb dX12_sees_60 (by decide) ?_
        refine lv_isub hx hb dX12_sees_61 ?_
        refine lv_ishl hx hb dX12_sees_62 ?_
        refine lv_goto (tgt := 67) hx hb dX12_sees_63 (by decide) ?_
        exact hJ67  (1 <<< ((r26 - 1) &&& 31)) (v4) M25 H locs ls G  (lv_sub hl [0, 1, 2, 3] rfl) h
      have h := h.2 c20
      refine lv_iload hx hb dX12_sees_22 (lv_at hl 4 rfl) ?_
      refine lv_iconst (v := (1)) hx hb dX12_sees_24 (by decide) ?_
      refine lv_iload hx hb dX12_sees_25 (lv_at hl 5 rfl) ?_
      refine lv_ishl hx hb dX12_sees_27 ?_
      refine lv_ior hx hb dX12_sees_28 ?_
      refine lv_istore (lv' := [(4, .int (v4 ||| (1 <<< (v5 &&& 31)))), (0, .ref (ad 0)), (1, .ref (ad v1)), (2, .int (v2)), (3, .int (v3)), (5, .int (v5))]) hx hb dX12_sees_29 hl (by decide) rfl (fun ls hl => ?_)
      refine lv_iinc (v := v5 + 1) (lv' := [(5, .int (v5 + 1)), (4, .int (v4 ||| (1 <<< (v5 &&& 31)))), (0, .ref (ad 0)), (1, .ref (ad v1)), (2, .int (v2)), (3, .int (v3))]) hx hb dX12_sees_31 hl (k := 5) rfl rfl (by decide) rfl (fun ls hl => ?_)
      refine lv_goto (tgt := 11) hx hb dX12_sees_34 (by decide) ?_
      exact ih11 (v4 ||| (1 <<< (v5 &&& 31))) (v5 + 1) M18 H locs ls G  (lv_sub hl [2, 3, 4, 5, 1, 0] rfl) h
  unfold f_X12_sees at h
  refine lv_iconst (v := (0)) hx hb dX12_sees_0 (by decide) ?_
  refine lv_istore (lv' := [(4, .int (0)), (0, .ref (ad 0)), (1, .ref (ad v1)), (2, .int (v2)), (3, .int (v3))]) hx hb dX12_sees_1 hl (by decide) rfl (fun ls hl => ?_)
  refine lv_aload_n hx hb dX12_sees_3 rfl (lv_at hl 1 rfl) ?_
  refine lv_aload_n hx hb dX12_sees_4 rfl (lv_at hl 2 rfl) ?_
  refine lv_iload_n hx hb dX12_sees_5 rfl (lv_at hl 3 rfl) ?_
  refine gq_calli G (gc_V (C := RX12) (rest := []) X hl.1 G (m_X12_firstOf hI hv1 h) cw_X12_firstOf qw_20_7 qw_20_8 qw_20_9 ob_Model rfl rfl rfl rfl (Nat.le_of_ble_eq_true rfl) ⟨Nat.le_of_ble_eq_true rfl, Nat.le_of_ble_eq_true rfl⟩ ⟨Nat.le_refl _, Nat.le_refl _⟩ dX12_sees_6) (fun r28 M27 H locs G h => ?_)
  refine lv_istore (lv' := [(5, .int (r28)), (4, .int (0)), (0, .ref (ad 0)), (1, .ref (ad v1)), (2, .int (v2)), (3, .int (v3))]) hx hb dX12_sees_9 hl (by decide) rfl (fun ls hl => ?_)
  obtain ⟨n29, h⟩ := h
  exact hL11   n29 (0) (r28) M27 H locs ls G  (lv_sub hl [2, 3, 4, 5, 1, 0] rfl) h
def f_X12_passBy_204 (K : Mm → Prop) (v1 : Nat) (M : Mm) : Prop := (∀ M1 : Mm, M1 = gU M v1 (0 : Int32).toNatClampNeg ((M v1 (0 : Int32).toNatClampNeg) + 1) → K M1)
def f_X12_passBy_166 (K : Mm → Prop) (k3 : Int32 → Mm → Prop) (v1 : Nat) (v2 : Int32) (v3 : Int32) (v4 : Int32) (v5 : Int32) (s0 : Int32) (s1 : Int32) (s2 : Nat) (s3 : Nat) (s4 : Int32) (s5 : Int32) (s6 : Nat) (M : Mm) : Prop := (f_X12_sees v1 (s1) (s0) M (fun r4 M3 => (vp_in (s5) 22 ∧ (∀ M6 : Mm, M6 = gU M3 v1 (s5 : Int32).toNatClampNeg (s4 ||| r4) → k3 (v5 + 1) M6))))
def f_X12_passBy_129 (K : Mm → Prop) (k3 : Int32 → Mm → Prop) (v1 : Nat) (v2 : Int32) (v3 : Int32) (v4 : Int32) (v5 : Int32) (M : Mm) : Prop := (vp_in (17 + v5) 22 ∧ (vp_in (7 + v5) 22 ∧ ((((v5 : Int32) = v2 : Prop) → f_X12_passBy_166 K k3 (v1) (v2) (v3) (v4) (v5) (v3) (M v1 (7 + v5 : Int32).toNatClampNeg) (v1) (0) (M v1 (17 + v5 : Int32).toNatClampNeg) (17 + v5) (v1) M) ∧ (¬ ((v5 : Int32) = v2 : Prop) → (vp_in (28 + v5) 33 ∧ f_X12_passBy_166 K k3 (v1) (v2) (v3) (v4) (v5) (M 7 (28 + v5 : Int32).toNatClampNeg) (M v1 (7 + v5 : Int32).toNatClampNeg) (v1) (0) (M v1 (17 + v5 : Int32).toNatClampNeg) (17 + v5) (v1) M)))))
def f_X12_passBy_127 (K : Mm → Prop) (k3 : Int32 → Mm → Prop) (v1 : Nat) (v2 : Int32) (v3 : Int32) (v4 : Int32) (v5 : Int32) (s0 : Int32) (s1 : Int32) (s2 : Int32) (s3 : Nat) (M : Mm) : Prop := (vp_in (s2) 22 ∧ (∀ M13 : Mm, M13 = gU M v1 (s2 : Int32).toNatClampNeg (s1 + s0) → f_X12_passBy_129 K k3 (v1) (v2) (v3) (v4) (v5) M13))
def f_X12_passBy_94 (K : Mm → Prop) (k3 : Int32 → Mm → Prop) (v1 : Nat) (v2 : Int32) (v3 : Int32) (v4 : Int32) (v5 : Int32) (s0 : Int32) (s1 : Int32) (s2 : Nat) (M : Mm) : Prop := (vp_in (s1) 22 ∧ (∀ M16 : Mm, M16 = gU M v1 (s1 : Int32).toNatClampNeg (s0) → ((((M16 7 (2 : Int32).toNatClampNeg : Int32) ≤ 0 : Prop) → f_X12_passBy_129 K k3 (v1) (v2) (v3) (v4) (v5) M16) ∧ (¬ ((M16 7 (2 : Int32).toNatClampNeg : Int32) ≤ 0 : Prop) → (vp_in (7 + v5) 22 ∧ (vp_in (12 + v5) 22 ∧ ((((M16 v1 (12 + v5 : Int32).toNatClampNeg : Int32) = 0 : Prop) → f_X12_passBy_127 K k3 (v1) (v2) (v3) (v4) (v5) (-1) (M16 v1 (7 + v5 : Int32).toNatClampNeg) (7 + v5) (v1) M16) ∧ (¬ ((M16 v1 (12 + v5 : Int32).toNatClampNeg : Int32) = 0 : Prop) → f_X12_passBy_127 K k3 (v1) (v2) (v3) (v4) (v5) (1) (M16 v1 (7 + v5 : Int32).toNatClampNeg) (7 + v5) (v1) M16))))))))
def f_X12_passBy_62 (K : Mm → Prop) (k3 : Int32 → Mm → Prop) (v1 : Nat) (v2 : Int32) (v3 : Int32) (v4 : Int32) (v5 : Int32) (s0 : Int32) (M : Mm) : Prop := ((((s0 : Int32) = 0 : Prop) → (vp_in (12 + v5) 22 ∧ f_X12_passBy_94 K k3 (v1) (v2) (v3) (v4) (v5) (M v1 (12 + v5 : Int32).toNatClampNeg) (12 + v5) (v1) M)) ∧ (¬ ((s0 : Int32) = 0 : Prop) → (vp_in (12 + v5) 22 ∧ f_X12_passBy_94 K k3 (v1) (v2) (v3) (v4) (v5) (1 - (M v1 (12 + v5 : Int32).toNatClampNeg)) (12 + v5) (v1) M)))
def l_X12_passBy_3 (K : Mm → Prop) (v1 : Nat) (v2 : Int32) (v3 : Int32) (v4 : Int32) : Nat → Int32 → Mm → Prop
  | 0, _, _ => False
  | n + 1, v5, M => ((((M 7 (3 : Int32).toNatClampNeg : Int32) ≤ v5 : Prop) → ((((v4 : Int32) ≤ 0 : Prop) → f_X12_passBy_204 K (v1) M) ∧ (¬ ((v4 : Int32) ≤ 0 : Prop) → (¬ (M 7 (0 : Int32).toNatClampNeg) = 0 ∧ (∀ M28 : Mm, M28 = gU M v1 (6 : Int32).toNatClampNeg ((M v1 (6 : Int32).toNatClampNeg) ||| (1 <<< ((((M v1 (0 : Int32).toNatClampNeg) * v4) - ((M v1 (0 : Int32).toNatClampNeg) * v4) / (M 7 (0 : Int32).toNatClampNeg) * (M 7 (0 : Int32).toNatClampNeg)) &&& 31))) → f_X12_passBy_204 K (v1) M28))))) ∧ (¬ ((M 7 (3 : Int32).toNatClampNeg : Int32) ≤ v5 : Prop) → (vp_in (7 + v5) 22 ∧ (vp_in (12 + v5) 22 ∧ ((((M v1 (12 + v5 : Int32).toNatClampNeg : Int32) = 0 : Prop) → ((((M v1 (7 + v5 : Int32).toNatClampNeg : Int32) = 0 : Prop) → f_X12_passBy_62 K (fun a0 a => (l_X12_passBy_3 K v1 v2 v3 v4 n) a0 a) (v1) (v2) (v3) (v4) (v5) (1) M) ∧ (¬ ((M v1 (7 + v5 : Int32).toNatClampNeg : Int32) = 0 : Prop) → f_X12_passBy_62 K (fun a0 a => (l_X12_passBy_3 K v1 v2 v3 v4 n) a0 a) (v1) (v2) (v3) (v4) (v5) (0) M))) ∧ (¬ ((M v1 (12 + v5 : Int32).toNatClampNeg : Int32) = 0 : Prop) → ((((M v1 (7 + v5 : Int32).toNatClampNeg : Int32) = M 7 (2 : Int32).toNatClampNeg : Prop) → f_X12_passBy_62 K (fun a0 a => (l_X12_passBy_3 K v1 v2 v3 v4 n) a0 a) (v1) (v2) (v3) (v4) (v5) (1) M) ∧ (¬ ((M v1 (7 + v5 : Int32).toNatClampNeg : Int32) = M 7 (2 : Int32).toNatClampNeg : Prop) → f_X12_passBy_62 K (fun a0 a => (l_X12_passBy_3 K v1 v2 v3 v4 n) a0 a) (v1) (v2) (v3) (v4) (v5) (0) M))))))))
def f_X12_passBy (v1 : Nat) (v2 : Int32) (v3 : Int32) (v4 : Int32) (M : Mm) (K : Mm → Prop) : Prop := ∃ z, l_X12_passBy_3 K (v1) (v2) (v3) (v4) z (0) M
set_option maxHeartbeats 4000000 in
set_option maxRecDepth 100000 in
theorem m_X12_passBy (hI : gI 17 ad) {v1 : Nat} (hv1 : isC v1) {v2 : Int32} {v3 : Int32} {v4 : Int32} {M : Mm} {K : Mm → Prop} (h : f_X12_passBy v1 v2 v3 v4 M K) : gM l D cy 17 ad (shR ad cy) yX12_passBy cX12_passBy 8 none 2 48 [.ref (ad 0), .ref (ad v1), .int (v2), .int (v3), .int (v4)] M (gQv D 17 ad (shR ad cy) K) := by
  refine gM.of (own := RX12) (lv := [(0, .ref (ad 0)), (1, .ref (ad v1)), (2, .int (v2)), (3, .int (v3)), (4, .int (v4))]) (by decide) rfl hI (Nat.le_of_ble_eq_true rfl) rfl ?_
  intro p e s m below meth c ls H locs X G hl
  have hx := X.1
  have hb := X.2.1
  have hJ204 : ∀ (M : Mm) (H : Heap) (locs : List Loc) (ls : Array Slot), gS D s 17 ad (shR ad cy) H locs M → lv_has ls 8 [(1, .ref (ad v1))] → f_X12_passBy_204 K v1 M → gWk p l e 2 48 s m ([.ref (ad 0), .ref (ad v1), .int (v2), .int (v3), .int (v4)] : List Value).toArray below meth c H locs (gQv D 17 ad (shR ad cy) K) 17 ad 204 ls [] := by
    intro M H locs ls G hl h
    unfold f_X12_passBy_204 at h
    refine lv_aload_n hx hb dX12_passBy_204 rfl (lv_at hl 0 rfl) ?_
    refine lv_iconst (v := (0)) hx hb dX12_passBy_205 (by decide) ?_
    refine lv_dup2_11 hx hb dX12_passBy_206 rfl rfl ?_
    refine gq_iald X G (rr_isC hv1) (by unfold vp_in; decide) dX12_passBy_207 ?_
    refine lv_iconst (v := (1)) hx hb dX12_passBy_208 (by decide) ?_
    refine lv_iadd hx hb dX12_passBy_209 ?_
    refine gq_iast X G (rr_isC hv1) (by unfold vp_in; decide) dX12_passBy_210 (fun M1 H locs e2 G => ?_)
    have h := h M1 e2
    exact gq_vret X G h dX12_passBy_211
  have hL3 : ∀ (n : Nat) (v5 : Int32) (M : Mm) (H : Heap) (locs : List Loc) (ls : Array Slot), gS D s 17 ad (shR ad cy) H locs M → lv_has ls 8 [(0, .ref (ad 0)), (1, .ref (ad v1)), (2, .int (v2)), (3, .int (v3)), (4, .int (v4)), (5, .int (v5))] → l_X12_passBy_3 K v1 v2 v3 v4 n v5 M → gWk p l e 2 48 s m ([.ref (ad 0), .ref (ad v1), .int (v2), .int (v3), .int (v4)] : List Value).toArray below meth c H locs (gQv D 17 ad (shR ad cy) K) 17 ad 3 ls [] := by
    intro n3
    induction n3 with
    | zero =>
      intro v5 M H locs ls G hl h
      exact False.elim h
    | succ n3 ih3 =>
      have hJ166 : ∀ (v5 : Int32) (s0 : Int32) (s1 : Int32) (s2 : Nat) (s3 : Nat) (s4 : Int32) (s5 : Int32) (s6 : Nat) (M : Mm) (H : Heap) (locs : List Loc) (ls : Array Slot), gS D s 17 ad (shR ad cy) H locs M → lv_has ls 8 [(0, .ref (ad 0)), (1, .ref (ad v1)), (2, .int (v2)), (3, .int (v3)), (4, .int (v4)), (5, .int (v5))] → f_X12_passBy_166 K (fun a0 a => (l_X12_passBy_3 K v1 v2 v3 v4 n3) a0 a) v1 v2 v3 v4 v5 s0 s1 s2 s3 s4 s5 s6 M → gWk p l e 2 48 s m ([.ref (ad 0), .ref (ad v1), .int (v2), .int (v3), .int (v4)] : List Value).toArray below meth c H locs (gQv D 17 ad (shR ad cy) K) 17 ad 166 ls [.int (s0), .int (s1), .ref (ad v1), .ref (ad 0), .int (s4), .int (s5), .ref (ad v1)] := by
        intro v5 s0 s1 s2 s3 s4 s5 s6 M H locs ls G hl h
        unfold f_X12_passBy_166 at h
        refine gq_calli G (gc_V (C := RX12) (rest := [.int (s4), .int (s5), .ref (ad v1)]) X hl.1 G (m_X12_sees hI hv1 h) cw_X12_sees qw_20_3 qw_20_4 qw_20_5 ob_Model rfl rfl rfl rfl (Nat.le_of_ble_eq_true rfl) ⟨Nat.le_of_ble_eq_true rfl, Nat.le_of_ble_eq_true rfl⟩ ⟨Nat.le_refl _, Nat.le_refl _⟩ dX12_passBy_166) (fun r4 M3 H locs G h => ?_)
        refine lv_ior hx hb dX12_passBy_169 ?_
        obtain ⟨q5, h⟩ := h
        refine gq_iast X G (rr_isC hv1) q5 dX12_passBy_170 (fun M6 H locs e7 G => ?_)
        have h := h M6 e7
        refine lv_iinc (v := v5 + 1) (lv' := [(5, .int (v5 + 1)), (0, .ref (ad 0)), (1, .ref (ad v1)), (2, .int (v2)), (3, .int (v3)), (4, .int (v4))]) hx hb dX12_passBy_171 hl (k := 5) rfl rfl (by decide) rfl (fun ls hl => ?_)
        refine lv_goto (tgt := 3) hx hb dX12_passBy_174 (by decide) ?_
        exact ih3 (v5 + 1) M6 H locs ls G  (lv_sub hl [1, 2, 3, 4, 5, 0] rfl) h
      have hJ129 : ∀ (v5 : Int32) (M : Mm) (H : Heap) (locs : List Loc) (ls : Array Slot), gS D s 17 ad (shR ad cy) H locs M → lv_has ls 8 [(0, .ref (ad 0)), (1, .ref (ad v1)), (2, .int (v2)), (3, .int (v3)), (4, .int (v4)), (5, .int (v5))] → f_X12_passBy_129 K (fun a0 a => (l_X12_passBy_3 K v1 v2 v3 v4 n3) a0 a) v1 v2 v3 v4 v5 M → gWk p l e 2 48 s m ([.ref (ad 0), .ref (ad v1), .int (v2), .int (v3), .int (v4)] : List Value).toArray below meth c H locs (gQv D 17 ad (shR ad cy) K) 17 ad 129 ls [] := by
        intro v5 M H locs ls G hl h
        unfold f_X12_passBy_129 at h
        refine lv_aload_n hx hb dX12_passBy_129 rfl (lv_at hl 1 rfl) ?_
        refine lv_bipush (v := (17)) hx hb dX12_passBy_130 (by decide) ?_
        refine lv_iload hx hb dX12_passBy_132 (lv_at hl 5 rfl) ?_
        refine lv_iadd hx hb dX12_passBy_134 ?_
        refine lv_dup2_11 hx hb dX12_passBy_135 rfl rfl ?_
        obtain ⟨q8, h⟩ := h
        refine gq_iald X G (rr_isC hv1) q8 dX12_passBy_136 ?_
        refine lv_aload_n hx hb dX12_passBy_137 rfl (lv_at hl 0 rfl) ?_
        refine lv_aload_n hx hb dX12_passBy_138 rfl (lv_at hl 1 rfl) ?_
        refine lv_aload_n hx hb dX12_passBy_139 rfl (lv_at hl 1 rfl) ?_
        refine lv_bipush (v := (7)) hx hb dX12_passBy_140 (by decide) ?_
        refine lv_iload hx hb dX12_passBy_142 (lv_at hl 5 rfl) ?_
        refine lv_iadd hx hb dX12_passBy_144 ?_
        obtain ⟨q9, h⟩ := h
        refine gq_iald X G (rr_isC hv1) q9 dX12_passBy_145 ?_
        refine lv_iload hx hb dX12_passBy_146 (lv_at hl 5 rfl) ?_
        refine lv_iload_n hx hb dX12_passBy_148 rfl (lv_at hl 2 rfl) ?_
        refine lv_icmp_ne (tgt := 156) hx hb dX12_passBy_149 (by decide) (fun c10 => ?_) (fun c10 => ?_)
        · have h := h.2 c10
          refine lv_aload_n hx hb dX12_passBy_156 rfl (lv_at hl 0 rfl) ?_
          refine gf_Model_told X G qw_5_13 dX12_passBy_157 ?_
          refine lv_bipush (v := (28)) hx hb dX12_passBy_160 (by decide) ?_
          refine lv_iload hx hb dX12_passBy_162 (lv_at hl 5 rfl) ?_
          refine lv_iadd hx hb dX12_passBy_164 ?_
          obtain ⟨q11, h⟩ := h
          refine gq_iald X G rr_7 q11 dX12_passBy_165 ?_
          exact hJ166 (v5) (M 7 (28 + v5 : Int32).toNatClampNeg) (M v1 (7 + v5 : Int32).toNatClampNeg) (v1) (0) (M v1 (17 + v5 : Int32).toNatClampNeg) (17 + v5) (v1) M H locs ls G  (lv_sub hl [0, 1, 2, 3, 4, 5] rfl) h
        have h := h.1 c10
        refine lv_iload_n hx hb dX12_passBy_152 rfl (lv_at hl 3 rfl) ?_
        refine lv_goto (tgt := 166) hx hb dX12_passBy_153 (by decide) ?_
        exact hJ166 (v5) (v3) (M v1 (7 + v5 : Int32).toNatClampNeg) (v1) (0) (M v1 (17 + v5 : Int32).toNatClampNeg) (17 + v5) (v1) M H locs ls G  (lv_sub hl [0, 1, 2, 3, 4, 5] rfl) h
      have hJ127 : ∀ (v5 : Int32) (s0 : Int32) (s1 : Int32) (s2 : Int32) (s3 : Nat) (M : Mm) (H : Heap) (locs : List Loc) (ls : Array Slot), gS D s 17 ad (shR ad cy) H locs M → lv_has ls 8 [(0, .ref (ad 0)), (1, .ref (ad v1)), (2, .int (v2)), (3, .int (v3)), (4, .int (v4)), (5, .int (v5))] → f_X12_passBy_127 K (fun a0 a => (l_X12_passBy_3 K v1 v2 v3 v4 n3) a0 a) v1 v2 v3 v4 v5 s0 s1 s2 s3 M → gWk p l e 2 48 s m ([.ref (ad 0), .ref (ad v1), .int (v2), .int (v3), .int (v4)] : List Value).toArray below meth c H locs (gQv D 17 ad (shR ad cy) K) 17 ad 127 ls [.int (s0), .int (s1), .int (s2), .ref (ad v1)] := by
        intro v5 s0 s1 s2 s3 M H locs ls G hl h
        unfold f_X12_passBy_127 at h
        refine lv_iadd hx hb dX12_passBy_127 ?_
        obtain ⟨q12, h⟩ := h
        refine gq_iast X G (rr_isC hv1) q12 dX12_passBy_128 (fun M13 H locs e14 G => ?_)
        have h := h M13 e14
        exact hJ129 (v5)  M13 H locs ls G  (lv_sub hl [0, 1, 2, 3, 4, 5] rfl) h
      have hJ94 : ∀ (v5 : Int32) (s0 : Int32) (s1 : Int32) (s2 : Nat) (M : Mm) (H : Heap) (locs : List Loc) (ls : Array Slot), gS D s 17 ad (shR ad cy) H locs M → lv_has ls 8 [(0, .ref (ad 0)), (1, .ref (ad v1)), (2, .int (v2)), (3, .int (v3)), (4, .int (v4)), (5, .int (v5))] → f_X12_passBy_94 K (fun a0 a => (l_X12_passBy_3 K v1 v2 v3 v4 n3) a0 a) v1 v2 v3 v4 v5 s0 s1 s2 M → gWk p l e 2 48 s m ([.ref (ad 0), .ref (ad v1), .int (v2), .int (v3), .int (v4)] : List Value).toArray below meth c H locs (gQv D 17 ad (shR ad cy) K) 17 ad 94 ls [.int (s0), .int (s1), .ref (ad v1)] := by
        intro v5 s0 s1 s2 M H locs ls G hl h
        unfold f_X12_passBy_94 at h
        obtain ⟨q15, h⟩ := h
        refine gq_iast X G (rr_isC hv1) q15 dX12_passBy_94 (fun M16 H locs e17 G => ?_)
        have h := h M16 e17
        refine lv_aload_n hx hb dX12_passBy_95 rfl (lv_at hl 0 rfl) ?_
        refine gf_Model_told X G qw_5_13 dX12_passBy_96 ?_
        refine lv_iconst (v := (2)) hx hb dX12_passBy_99 (by decide) ?_
        refine gq_iald X G rr_7 (by unfold vp_in; decide) dX12_passBy_100 ?_
        refine lv_if_le (tgt := 129) hx hb dX12_passBy_101 (by decide) (fun c18 => ?_) (fun c18 => ?_)
        · have h := h.1 c18
          exact hJ129 (v5)  M16 H locs ls G  (lv_sub hl [0, 1, 2, 3, 4, 5] rfl) h
        have h := h.2 c18
        refine lv_aload_n hx hb dX12_passBy_104 rfl (lv_at hl 1 rfl) ?_
        refine lv_bipush (v := (7)) hx hb dX12_passBy_105 (by decide) ?_
        refine lv_iload hx hb dX12_passBy_107 (lv_at hl 5 rfl) ?_
        refine lv_iadd hx hb dX12_passBy_109 ?_
        refine lv_dup2_11 hx hb dX12_passBy_110 rfl rfl ?_
        obtain ⟨q19, h⟩ := h
        refine gq_iald X G (rr_isC hv1) q19 dX12_passBy_111 ?_
        refine lv_aload_n hx hb dX12_passBy_112 rfl (lv_at hl 1 rfl) ?_
        refine lv_bipush (v := (12)) hx hb dX12_passBy_113 (by decide) ?_
        refine lv_iload hx hb dX12_passBy_115 (lv_at hl 5 rfl) ?_
        refine lv_iadd hx hb dX12_passBy_117 ?_
        obtain ⟨q20, h⟩ := h
        refine gq_iald X G (rr_isC hv1) q20 dX12_passBy_118 ?_
        refine lv_if_ne (tgt := 126) hx hb dX12_passBy_119 (by decide) (fun c21 => ?_) (fun c21 => ?_)
        · have h := h.2 c21
          refine lv_iconst (v := (1)) hx hb dX12_passBy_126 (by decide) ?_
          exact hJ127 (v5) (1) (M16 v1 (7 + v5 : Int32).toNatClampNeg) (7 + v5) (v1) M16 H locs ls G  (lv_sub hl [0, 1, 2, 3, 4, 5] rfl) h
        have h := h.1 c21
        refine lv_iconst (v := (-1)) hx hb dX12_passBy_122 (by decide) ?_
        refine lv_goto (tgt := 127) hx hb dX12_passBy_123 (by decide) ?_
        exact hJ127 (v5) (-1) (M16 v1 (7 + v5 : Int32).toNatClampNeg) (7 + v5) (v1) M16 H locs ls G  (lv_sub hl [0, 1, 2, 3, 4, 5] rfl) h
      have hJ62 : ∀ (v5 : Int32) (s0 : Int32) (M : Mm) (H : Heap) (locs : List Loc) (ls : Array Slot), gS D s 17 ad (shR ad cy) H locs M → lv_has ls 8 [(0, .ref (ad 0)), (1, .ref (ad v1)), (2, .int (v2)), (3, .int (v3)), (4, .int (v4)), (5, .int (v5))] → f_X12_passBy_62 K (fun a0 a => (l_X12_passBy_3 K v1 v2 v3 v4 n3) a0 a) v1 v2 v3 v4 v5 s0 M → gWk p l e 2 48 s m ([.ref (ad 0), .ref (ad v1), .int (v2), .int (v3), .int (v4)] : List Value).toArray below meth c H locs (gQv D 17 ad (shR ad cy) K) 17 ad 62 ls [.int (s0)] := by
        intro v5 s0 M H locs ls G hl h
        unfold f_X12_passBy_62 at h
        refine lv_istore (lv' := [(7, .int (s0)), (0, .ref (ad 0)), (1, .ref (ad v1)), (2, .int (v2)), (3, .int (v3)), (4, .int (v4)), (5, .int (v5))]) hx hb dX12_passBy_62 hl (by decide) rfl (fun ls hl => ?_)
        refine lv_aload_n hx hb dX12_passBy_64 rfl (lv_at hl 2 rfl) ?_
        refine lv_bipush (v := (12)) hx hb dX12_passBy_65 (by decide) ?_
        refine lv_iload hx hb dX12_passBy_67 (lv_at hl 6 rfl) ?_
        refine lv_iadd hx hb dX12_passBy_69 ?_
        refine lv_iload hx hb dX12_passBy_70 (lv_at hl 0 rfl) ?_
        refine lv_if_eq (tgt := 87) hx hb dX12_passBy_72 (by decide) (fun c22 => ?_) (fun c22 => ?_)
        · have h := h.1 c22
          refine lv_aload_n hx hb dX12_passBy_87 rfl (lv_at hl 2 rfl) ?_
          refine lv_bipush (v := (12)) hx hb dX12_passBy_88 (by decide) ?_
          refine lv_iload hx hb dX12_passBy_90 (lv_at hl 6 rfl) ?_
          refine lv_iadd hx hb dX12_passBy_92 ?_
          obtain ⟨q23, h⟩ := h
          refine gq_iald X G (rr_isC hv1) q23 dX12_passBy_93 ?_
          exact hJ94 (v5) (M v1 (12 + v5 : Int32).toNatClampNeg) (12 + v5) (v1) M H locs ls G  (lv_sub hl [1, 2, 3, 4, 5, 6] rfl) h
        have h := h.2 c22
        refine lv_iconst (v := (1)) hx hb dX12_passBy_75 (by decide) ?_
        refine lv_aload_n hx hb dX12_passBy_76 rfl (lv_at hl 2 rfl) ?_
        refine lv_bipush (v := (12)) hx hb dX12_passBy_77 (by decide) ?_
        refine lv_iload hx hb dX12_passBy_79 (lv_at hl 6 rfl) ?_
        refine lv_iadd hx hb dX12_passBy_81 ?_
        obtain ⟨q24, h⟩ := h
        refine gq_iald X G (rr_isC hv1) q24 dX12_passBy_82 ?_
        refine lv_isub hx hb dX12_passBy_83 ?_
        refine lv_goto (tgt := 94) hx hb dX12_passBy_84 (by decide) ?_
        exact hJ94 (v5) (1 - (M v1 (12 + v5 : Int32).toNatClampNeg)) (12 + v5) (v1) M H locs ls G  (lv_sub hl [1, 2, 3, 4, 5, 6] rfl) h
      intro v5 M H locs ls G hl h
      rw [l_X12_passBy_3] at h
      refine lv_iload hx hb dX12_passBy_3 (lv_at hl 5 rfl) ?_
      refine lv_aload_n hx hb dX12_passBy_5 rfl (lv_at hl 0 rfl) ?_
      refine gf_Model_told X G qw_5_13 dX12_passBy_6 ?_
      refine lv_iconst (v := (3)) hx hb dX12_passBy_9 (by decide) ?_
      refine gq_iald X G rr_7 (by unfold vp_in; decide) dX12_passBy_10 ?_
      refine lv_icmp_ge (tgt := 177) hx hb dX12_passBy_11 (by decide) (fun c25 => ?_) (fun c25 => ?_)
      · have h := h.1 c25
        refine lv_iload hx hb dX12_passBy_177 (lv_at hl 4 rfl) ?_
        refine lv_if_le (tgt := 204) hx hb dX12_passBy_179 (by decide) (fun c26 => ?_) (fun c26 => ?_)
        · have h := h.1 c26
          exact hJ204   M H locs ls G  (lv_sub hl [1] rfl) h
        have h := h.2 c26
        refine lv_aload_n hx hb dX12_passBy_182 rfl (lv_at hl 1 rfl) ?_
        refine lv_bipush (v := (6)) hx hb dX12_passBy_183 (by decide) ?_
        refine lv_dup2_11 hx hb dX12_passBy_185 rfl rfl ?_
        refine gq_iald X G (rr_isC hv1) (by unfold vp_in; decide) dX12_passBy_186 ?_
        refine lv_iconst (v := (1)) hx hb dX12_passBy_187 (by decide) ?_
        refine lv_aload_n hx hb dX12_passBy_188 rfl (lv_at hl 1 rfl) ?_
        refine lv_iconst (v := (0)) hx hb dX12_passBy_189 (by decide) ?_
        refine gq_iald X G (rr_isC hv1) (by unfold vp_in; decide) dX12_passBy_190 ?_
        refine lv_iload hx hb dX12_passBy_191 (lv_at hl 4 rfl) ?_
        refine lv_imul hx hb dX12_passBy_193 ?_
        refine lv_aload_n hx hb dX12_passBy_194 rfl (lv_at hl 0 rfl) ?_
        refine gf_Model_told X G qw_5_13 dX12_passBy_195 ?_
        refine lv_iconst (v := (0)) hx hb dX12_passBy_198 (by decide) ?_
        refine gq_iald X G rr_7 (by unfold vp_in; decide) dX12_passBy_199 ?_
        obtain ⟨q27, h⟩ := h
        refine lv_irem hx hb dX12_passBy_200 q27 ?_
        refine lv_ishl hx hb dX12_passBy_201 ?_
        refine lv_ior hx hb dX12_passBy_202 ?_
        refine gq_iast X G (rr_isC hv1) (by unfold vp_in; decide) dX12_passBy_203 (fun M28 H locs e29 G => ?_)
        have h := h M28 e29
        exact hJ204   M28 H locs ls G  (lv_sub hl [1] rfl) h
      have h := h.2 c25
      refine lv_aload_n hx hb dX12_passBy_14 rfl (lv_at hl 1 rfl) ?_
      refine lv_bipush (v := (7)) hx hb dX12_passBy_15 (by decide) ?_
      refine lv_iload hx hb dX12_passBy_17 (lv_at hl 5 rfl) ?_
      refine lv_iadd hx hb dX12_passBy_19 ?_
      obtain ⟨q30, h⟩ := h
      refine gq_iald X G (rr_isC hv1) q30 dX12_passBy_20 ?_
      refine lv_istore (lv' := [(6, .int (M v1 (7 + v5 : Int32).toNatClampNeg)), (0, .ref (ad 0)), (1, .ref (ad v1)), (2, .int (v2)), (3, .int (v3)), (4, .int (v4)), (5, .int (v5))]) hx hb dX12_passBy_21 hl (by decide) rfl (fun ls hl => ?_)
      refine lv_aload_n hx hb dX12_passBy_23 rfl (lv_at hl 2 rfl) ?_
      refine lv_bipush (v := (12)) hx hb dX12_passBy_24 (by decide) ?_
      refine lv_iload hx hb dX12_passBy_26 (lv_at hl 6 rfl) ?_
      refine lv_iadd hx hb dX12_passBy_28 ?_
      obtain ⟨q31, h⟩ := h
      refine gq_iald X G (rr_isC hv1) q31 dX12_passBy_29 ?_
      refine lv_if_ne (tgt := 46) hx hb dX12_passBy_30 (by decide) (fun c32 => ?_) (fun c32 => ?_)
      · have h := h.2 c32
        refine lv_iload hx hb dX12_passBy_46 (lv_at hl 0 rfl) ?_
        refine lv_aload_n hx hb dX12_passBy_48 rfl (lv_at hl 1 rfl) ?_
        refine gf_Model_told X G qw_5_13 dX12_passBy_49 ?_
        refine lv_iconst (v := (2)) hx hb dX12_passBy_52 (by decide) ?_
        refine gq_iald X G rr_7 (by unfold vp_in; decide) dX12_passBy_53 ?_
        refine lv_icmp_ne (tgt := 61) hx hb dX12_passBy_54 (by decide) (fun c33 => ?_) (fun c33 => ?_)
        · have h := h.2 c33
          refine lv_iconst (v := (0)) hx hb dX12_passBy_61 (by decide) ?_
          exact hJ62 (v5) (0) M H locs ls G  (lv_sub hl [1, 2, 3, 4, 5, 6] rfl) h
        have h := h.1 c33
        refine lv_iconst (v := (1)) hx hb dX12_passBy_57 (by decide) ?_
        refine lv_goto (tgt := 62) hx hb dX12_passBy_58 (by decide) ?_
        exact hJ62 (v5) (1) M H locs ls G  (lv_sub hl [1, 2, 3, 4, 5, 6] rfl) h
      have h := h.1 c32
      refine lv_iload hx hb dX12_passBy_33 (lv_at hl 0 rfl) ?_
      refine lv_if_ne (tgt := 42) hx hb dX12_passBy_35 (by decide) (fun c34 => ?_) (fun c34 => ?_)
      · have h := h.2 c34
        refine lv_iconst (v := (0)) hx hb dX12_passBy_42 (by decide) ?_
        refine lv_goto (tgt := 62) hx hb dX12_passBy_43 (by decide) ?_
        exact hJ62 (v5) (0) M H locs ls G  (lv_sub hl [1, 2, 3, 4, 5, 6] rfl) h
      have h := h.1 c34
      refine lv_iconst (v := (1)) hx hb dX12_passBy_38 (by decide) ?_
      refine lv_goto (tgt := 62) hx hb dX12_passBy_39 (by decide) ?_
      exact hJ62 (v5) (1) M H locs ls G  (lv_sub hl [1, 2, 3, 4, 5, 6] rfl) h
  unfold f_X12_passBy at h
  refine lv_iconst (v := (0)) hx hb dX12_passBy_0 (by decide) ?_
  refine lv_istore (lv' := [(5, .int (0)), (0, .ref (ad 0)), (1, .ref (ad v1)), (2, .int (v2)), (3, .int (v3)), (4, .int (v4))]) hx hb dX12_passBy_1 hl (by decide) rfl (fun ls hl => ?_)
  obtain ⟨n35, h⟩ := h
  exact hL3   n35 (0) M H locs ls G  (lv_sub hl [1, 2, 3, 4, 5, 0] rfl) h
end GEN06
