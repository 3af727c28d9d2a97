section GEN07
variable {l : Launch} {D : va_G} {cy : Nat → ClassId} {ad : Nat → Nat}
def f_X12_pass (v1 : Nat) (M : Mm) (K : Mm → Prop) : Prop := (f_X12_passBy v1 (-1000000) (0) (M 7 (1 : Int32).toNatClampNeg) M (fun M1 => K M1))
set_option maxHeartbeats 4000000 in
set_option maxRecDepth 100000 in
theorem m_X12_pass (hI : gI 17 ad) {v1 : Nat} (hv1 : isC v1) {M : Mm} {K : Mm → Prop} (h : f_X12_pass v1 M K) : gM l D cy 17 ad (shR ad cy) yX12_pass cX12_pass 2 none 3 75 [.ref (ad 0), .ref (ad v1)] M (gQv D 17 ad (shR ad cy) K) := by
  refine gM.of (own := RX12) (lv := [(0, .ref (ad 0)), (1, .ref (ad v1))]) (by decide) rfl hI (Nat.le_of_ble_eq_true rfl) rfl ?_
  intro p e s m below meth c ls H locs X G hl
  have hx := X.1
  have hb := X.2.1
  unfold f_X12_pass at h
  refine lv_aload_n hx hb dX12_pass_0 rfl (lv_at hl 0 rfl) ?_
  refine lv_aload_n hx hb dX12_pass_1 rfl (lv_at hl 1 rfl) ?_
  refine gq_ldc (v := (-1000000)) X qw_6_0 dX12_pass_2 ?_
  refine lv_iconst (v := (0)) hx hb dX12_pass_4 (by decide) ?_
  refine lv_aload_n hx hb dX12_pass_5 rfl (lv_at hl 0 rfl) ?_
  refine gf_Model_told X G qw_5_13 dX12_pass_6 ?_
  refine lv_iconst (v := (1)) hx hb dX12_pass_9 (by decide) ?_
  refine gq_iald X G rr_7 (by unfold vp_in; decide) dX12_pass_10 ?_
  refine gq_callv G (gc_V (C := RX12) (rest := []) X hl.1 G (m_X12_passBy hI hv1 h) cw_X12_passBy qw_19_23 qw_20_0 qw_20_1 ob_Model rfl rfl rfl rfl (Nat.le_of_ble_eq_true rfl) ⟨Nat.le_of_ble_eq_true rfl, Nat.le_of_ble_eq_true rfl⟩ ⟨Nat.le_refl _, Nat.le_refl _⟩ dX12_pass_11) (fun M1 H locs G h => ?_)
  exact gq_vret X G h dX12_pass_14
def l_X12_days_42 (K : Int32 → Mm → Prop) (v1 : Int32) : Nat → Int32 → Mm → Prop
  | 0, _, _ => False
  | n + 1, v2, M => ((((v1 : Int32) ≤ v2 : Prop) → (f_X12_anybody  M (fun r3 M2 => K (r3) M2))) ∧ (¬ ((v1 : Int32) ≤ v2 : Prop) → (f_X12_know  M (fun M4 => (f_X12_pass 9 M4 (fun M5 => (l_X12_days_42 K v1 n) (v2 + 1) M5))))))
def f_X12_days (v1 : Int32) (M : Mm) (K : Int32 → Mm → Prop) : Prop := ((((M 0 20 : Int32) = 0 : Prop) → K (-1000002) M) ∧ (¬ ((M 0 20 : Int32) = 0 : Prop) → (f_X12_in (v1) (1) (24) M (fun r8 M7 => ((((r8 : Int32) = 0 : Prop) → K (-1000001) M7) ∧ (¬ ((r8 : Int32) = 0 : Prop) → (((((M7 9 (0 : Int32).toNatClampNeg) + v1 : Int32) ≤ 9999 : Prop) → ∃ z, l_X12_days_42 K (v1) z (0) M7) ∧ (¬ (((M7 9 (0 : Int32).toNatClampNeg) + v1 : Int32) ≤ 9999 : Prop) → K (-1000003) M7))))))))
set_option maxHeartbeats 4000000 in
set_option maxRecDepth 100000 in
theorem m_X12_days (hI : gI 17 ad) {v1 : Int32} {M : Mm} {K : Int32 → Mm → Prop} (h : f_X12_days v1 M K) : gM l D cy 17 ad (shR ad cy) yX12_days cX12_days 3 (some .int) 4 96 [.ref (ad 0), .int (v1)] M (gQi D 17 ad (shR ad cy) K) := by
  refine gM.of (own := RX12) (lv := [(0, .ref (ad 0)), (1, .int (v1))]) (by decide) rfl hI (Nat.le_of_ble_eq_true rfl) rfl ?_
  intro p e s m below meth c ls H locs X G hl
  have hx := X.1
  have hb := X.2.1
  have hL42 : ∀ (n : Nat) (v2 : Int32) (M : Mm) (H : Heap) (locs : List Loc) (ls : Array Slot), gS D s 17 ad (shR ad cy) H locs M → lv_has ls 3 [(0, .ref (ad 0)), (1, .int (v1)), (2, .int (v2))] → l_X12_days_42 K v1 n v2 M → gWk p l e 4 96 s m ([.ref (ad 0), .int (v1)] : List Value).toArray below meth c H locs (gQi D 17 ad (shR ad cy) K) 17 ad 42 ls [] := by
    intro n42
    induction n42 with
    | zero =>
      intro v2 M H locs ls G hl h
      exact False.elim h
    | succ n42 ih42 =>
      intro v2 M H locs ls G hl h
      rw [l_X12_days_42] at h
      refine lv_iload_n hx hb dX12_days_42 rfl (lv_at hl 2 rfl) ?_
      refine lv_iload_n hx hb dX12_days_43 rfl (lv_at hl 1 rfl) ?_
      refine lv_icmp_ge (tgt := 65) hx hb dX12_days_44 (by decide) (fun c1 => ?_) (fun c1 => ?_)
      · have h := h.1 c1
        refine lv_aload_n hx hb dX12_days_65 rfl (lv_at hl 0 rfl) ?_
        refine gq_calli G (gc_V (C := RX12) (rest := []) X hl.1 G (m_X12_anybody hI  h) cw_X12_anybody qw_20_15 qw_20_16 qw_20_17 ob_Model rfl rfl rfl rfl (Nat.le_of_ble_eq_true rfl) ⟨Nat.le_of_ble_eq_true rfl, Nat.le_of_ble_eq_true rfl⟩ ⟨Nat.le_refl _, Nat.le_refl _⟩ dX12_days_66) (fun r3 M2 H locs G h => ?_)
        exact gq_iret X G h dX12_days_69
      have h := h.2 c1
      refine lv_aload_n hx hb dX12_days_47 rfl (lv_at hl 0 rfl) ?_
      refine gq_callv G (gc_V (C := RX12) (rest := []) X hl.1 G (m_X12_know hI  h) cw_X12_know qw_19_15 qw_19_16 qw_19_17 ob_Model rfl rfl rfl rfl (Nat.le_of_ble_eq_true rfl) ⟨Nat.le_of_ble_eq_true rfl, Nat.le_of_ble_eq_true rfl⟩ ⟨Nat.le_refl _, Nat.le_refl _⟩ dX12_days_48) (fun M4 H locs G h => ?_)
      refine lv_aload_n hx hb dX12_days_51 rfl (lv_at hl 0 rfl) ?_
      refine lv_aload_n hx hb dX12_days_52 rfl (lv_at hl 0 rfl) ?_
      refine gf_Model_now X G qw_5_15 dX12_days_53 ?_
      refine gq_callv G (gc_V (C := RX12) (rest := []) X hl.1 G (m_X12_pass hI isC_9 h) cw_X12_pass qw_19_19 qw_19_20 qw_19_21 ob_Model rfl rfl rfl rfl (Nat.le_of_ble_eq_true rfl) ⟨Nat.le_of_ble_eq_true rfl, Nat.le_of_ble_eq_true rfl⟩ ⟨Nat.le_refl _, Nat.le_refl _⟩ dX12_days_56) (fun M5 H locs G h => ?_)
      refine lv_iinc (v := v2 + 1) (lv' := [(2, .int (v2 + 1)), (0, .ref (ad 0)), (1, .int (v1))]) hx hb dX12_days_59 hl (k := 2) rfl rfl (by decide) rfl (fun ls hl => ?_)
      refine lv_goto (tgt := 42) hx hb dX12_days_62 (by decide) ?_
      exact ih42 (v2 + 1) M5 H locs ls G  (lv_sub hl [1, 2, 0] rfl) h
  unfold f_X12_days at h
  refine lv_aload_n hx hb dX12_days_0 rfl (lv_at hl 0 rfl) ?_
  refine gf_Model_isRead X G qw_14_8 dX12_days_1 ?_
  refine lv_if_ne (tgt := 10) hx hb dX12_days_4 (by decide) (fun c6 => ?_) (fun c6 => ?_)
  · have h := h.2 c6
    refine lv_iload_n hx hb dX12_days_10 rfl (lv_at hl 1 rfl) ?_
    refine lv_iconst (v := (1)) hx hb dX12_days_11 (by decide) ?_
    refine lv_bipush (v := (24)) hx hb dX12_days_12 (by decide) ?_
    refine gq_calli G (gc_S (rest := []) X hl.1 G (m_X12_in hI  h) cw_X12_in qw_7_12 qw_7_13 rfl rfl (Nat.le_of_ble_eq_true rfl) ⟨Nat.le_of_ble_eq_true rfl, Nat.le_of_ble_eq_true rfl⟩ ⟨Nat.le_refl _, Nat.le_refl _⟩ dX12_days_14) (fun r8 M7 H locs G h => ?_)
    refine lv_if_ne (tgt := 23) hx hb dX12_days_17 (by decide) (fun c9 => ?_) (fun c9 => ?_)
    · have h := h.2 c9
      refine lv_aload_n hx hb dX12_days_23 rfl (lv_at hl 0 rfl) ?_
      refine gf_Model_now X G qw_5_15 dX12_days_24 ?_
      refine lv_iconst (v := (0)) hx hb dX12_days_27 (by decide) ?_
      refine gq_iald X G rr_9 (by unfold vp_in; decide) dX12_days_28 ?_
      refine lv_iload_n hx hb dX12_days_29 rfl (lv_at hl 1 rfl) ?_
      refine lv_iadd hx hb dX12_days_30 ?_
      refine lv_sipush (v := (9999)) hx hb dX12_days_31 (by decide) ?_
      refine lv_icmp_le (tgt := 40) hx hb dX12_days_34 (by decide) (fun c10 => ?_) (fun c10 => ?_)
      · have h := h.1 c10
        refine lv_iconst (v := (0)) hx hb dX12_days_40 (by decide) ?_
        refine lv_istore_n (lv' := [(2, .int (0)), (0, .ref (ad 0)), (1, .int (v1))]) hx hb dX12_days_41 rfl hl (by decide) rfl (fun ls hl => ?_)
        obtain ⟨n11, h⟩ := h
        exact hL42   n11 (0) M7 H locs ls G  (lv_sub hl [1, 2, 0] rfl) h
      have h := h.2 c10
      refine gq_ldc (v := (-1000003)) X qw_10_11 dX12_days_37 ?_
      exact gq_iret X G h dX12_days_39
    have h := h.1 c9
    refine gq_ldc (v := (-1000001)) X qw_7_8 dX12_days_20 ?_
    exact gq_iret X G h dX12_days_22
  have h := h.1 c6
  refine gq_ldc (v := (-1000002)) X qw_19_14 dX12_days_7 ?_
  exact gq_iret X G h dX12_days_9
def l_X12_mayMove_28 (K : Int32 → Mm → Prop) (v1 : Nat) (v2 : Int32) (v4 : Int32) : Nat → Int32 → Int32 → Mm → Prop
  | 0, _, _, _ => False
  | n + 1, v5, v6, M => ((((M 7 (2 : Int32).toNatClampNeg : Int32) ≤ v6 : Prop) → ((v5 = 0 ∨ v5 = 1) ∧ K (v5) M)) ∧ (¬ ((M 7 (2 : Int32).toNatClampNeg : Int32) ≤ v6 : Prop) → ((((v5 : Int32) = 0 : Prop) → (l_X12_mayMove_28 K v1 v2 v4 n) (0) (v6 + 1) M) ∧ (¬ ((v5 : Int32) = 0 : Prop) → ((((v6 : Int32) = v2 : Prop) → (l_X12_mayMove_28 K v1 v2 v4 n) (1) (v6 + 1) M) ∧ (¬ ((v6 : Int32) = v2 : Prop) → (vp_in (1 + v6) 22 ∧ ((((M v1 (1 + v6 : Int32).toNatClampNeg : Int32) = v4 : Prop) → (l_X12_mayMove_28 K v1 v2 v4 n) (0) (v6 + 1) M) ∧ (¬ ((M v1 (1 + v6 : Int32).toNatClampNeg : Int32) = v4 : Prop) → (l_X12_mayMove_28 K v1 v2 v4 n) (1) (v6 + 1) M)))))))))
def f_X12_mayMove (v1 : Nat) (v2 : Int32) (v3 : Int32) (M : Mm) (K : Int32 → Mm → Prop) : Prop := (vp_in (1 + v2) 22 ∧ (f_X12_in ((M v1 (1 + v2 : Int32).toNatClampNeg) + v3) (1) ((M 7 (0 : Int32).toNatClampNeg) - 1) M (fun r8 M7 => ∃ z, l_X12_mayMove_28 K (v1) (v2) ((M v1 (1 + v2 : Int32).toNatClampNeg) + v3) z (r8) (0) M7)))
set_option maxHeartbeats 4000000 in
set_option maxRecDepth 100000 in
theorem m_X12_mayMove (hI : gI 17 ad) {v1 : Nat} (hv1 : isC v1) {v2 : Int32} {v3 : Int32} {M : Mm} {K : Int32 → Mm → Prop} (h : f_X12_mayMove v1 v2 v3 M K) : gM l D cy 17 ad (shR ad cy) yX12_mayMove cX12_mayMove 7 (some .boolean) 1 22 [.ref (ad 0), .ref (ad v1), .int (v2), .int (v3)] M (gQi D 17 ad (shR ad cy) K) := by
  refine gM.of (own := RX12) (lv := [(0, .ref (ad 0)), (1, .ref (ad v1)), (2, .int (v2)), (3, .int (v3))]) (by decide) rfl hI (Nat.le_of_ble_eq_true rfl) rfl ?_
  intro p e s m below meth c ls H locs X G hl
  have hx := X.1
  have hb := X.2.1
  have hL28 : ∀ (v4 : Int32) (n : Nat) (v5 : Int32) (v6 : Int32) (M : Mm) (H : Heap) (locs : List Loc) (ls : Array Slot), gS D s 17 ad (shR ad cy) H locs M → lv_has ls 7 [(0, .ref (ad 0)), (1, .ref (ad v1)), (2, .int (v2)), (4, .int (v4)), (5, .int (v5)), (6, .int (v6))] → l_X12_mayMove_28 K v1 v2 v4 n v5 v6 M → gWk p l e 1 22 s m ([.ref (ad 0), .ref (ad v1), .int (v2), .int (v3)] : List Value).toArray below meth c H locs (gQi D 17 ad (shR ad cy) K) 17 ad 28 ls [] := by
    intro v4 n28
    induction n28 with
    | zero =>
      intro v5 v6 M H locs ls G hl h
      exact False.elim h
    | succ n28 ih28 =>
      intro v5 v6 M H locs ls G hl h
      rw [l_X12_mayMove_28] at h
      refine lv_iload hx hb dX12_mayMove_28 (lv_at hl 5 rfl) ?_
      refine lv_aload_n hx hb dX12_mayMove_30 rfl (lv_at hl 0 rfl) ?_
      refine gf_Model_told X G qw_5_13 dX12_mayMove_31 ?_
      refine lv_iconst (v := (2)) hx hb dX12_mayMove_34 (by decide) ?_
      refine gq_iald X G rr_7 (by unfold vp_in; decide) dX12_mayMove_35 ?_
      refine lv_icmp_ge (tgt := 74) hx hb dX12_mayMove_36 (by decide) (fun c1 => ?_) (fun c1 => ?_)
      · have h := h.1 c1
        refine lv_iload hx hb dX12_mayMove_74 (lv_at hl 4 rfl) ?_
        exact gq_zret X G h.1 h.2 dX12_mayMove_76
      have h := h.2 c1
      refine lv_iload hx hb dX12_mayMove_39 (lv_at hl 4 rfl) ?_
      refine lv_if_eq (tgt := 65) hx hb dX12_mayMove_41 (by decide) (fun c2 => ?_) (fun c2 => ?_)
      · have h := h.1 c2
        refine lv_iconst (v := (0)) hx hb dX12_mayMove_65 (by decide) ?_
        refine lv_istore (lv' := [(5, .int (0)), (0, .ref (ad 0)), (1, .ref (ad v1)), (2, .int (v2)), (4, .int (v4)), (6, .int (v6))]) hx hb dX12_mayMove_66 hl (by decide) rfl (fun ls hl => ?_)
        refine lv_iinc (v := v6 + 1) (lv' := [(6, .int (v6 + 1)), (5, .int (0)), (0, .ref (ad 0)), (1, .ref (ad v1)), (2, .int (v2)), (4, .int (v4))]) hx hb dX12_mayMove_68 hl (k := 5) rfl rfl (by decide) rfl (fun ls hl => ?_)
        refine lv_goto (tgt := 28) hx hb dX12_mayMove_71 (by decide) ?_
        exact ih28 (0) (v6 + 1) M H locs ls G  (lv_sub hl [2, 3, 4, 5, 1, 0] rfl) h
      have h := h.2 c2
      refine lv_iload hx hb dX12_mayMove_44 (lv_at hl 5 rfl) ?_
      refine lv_iload_n hx hb dX12_mayMove_46 rfl (lv_at hl 2 rfl) ?_
      refine lv_icmp_eq (tgt := 61) hx hb dX12_mayMove_47 (by decide) (fun c3 => ?_) (fun c3 => ?_)
      · have h := h.1 c3
        refine lv_iconst (v := (1)) hx hb dX12_mayMove_61 (by decide) ?_
        refine lv_goto (tgt := 66) hx hb dX12_mayMove_62 (by decide) ?_
        refine lv_istore (lv' := [(5, .int (1)), (0, .ref (ad 0)), (1, .ref (ad v1)), (2, .int (v2)), (4, .int (v4)), (6, .int (v6))]) hx hb dX12_mayMove_66 hl (by decide) rfl (fun ls hl => ?_)
        refine lv_iinc (v := v6 + 1) (lv' := [(6, .int (v6 + 1)), (5, .int (1)), (0, .ref (ad 0)), (1, .ref (ad v1)), (2, .int (v2)), (4, .int (v4))]) hx hb dX12_mayMove_68 hl (k := 5) rfl rfl (by decide) rfl (fun ls hl => ?_)
        refine lv_goto (tgt := 28) hx hb dX12_mayMove_71 (by decide) ?_
        exact ih28 (1) (v6 + 1) M H locs ls G  (lv_sub hl [2, 3, 4, 5, 1, 0] rfl) h
      have h := h.2 c3
      refine lv_aload_n hx hb dX12_mayMove_50 rfl (lv_at hl 1 rfl) ?_
      refine lv_iconst (v := (1)) hx hb dX12_mayMove_51 (by decide) ?_
      refine lv_iload hx hb dX12_mayMove_52 (lv_at hl 5 rfl) ?_
      refine lv_iadd hx hb dX12_mayMove_54 ?_
      obtain ⟨q4, h⟩ := h
      refine gq_iald X G (rr_isC hv1) q4 dX12_mayMove_55 ?_
      refine lv_iload hx hb dX12_mayMove_56 (lv_at hl 3 rfl) ?_
      refine lv_icmp_eq (tgt := 65) hx hb dX12_mayMove_58 (by decide) (fun c5 => ?_) (fun c5 => ?_)
      · have h := h.1 c5
        refine lv_iconst (v := (0)) hx hb dX12_mayMove_65 (by decide) ?_
        refine lv_istore (lv' := [(5, .int (0)), (0, .ref (ad 0)), (1, .ref (ad v1)), (2, .int (v2)), (4, .int (v4)), (6, .int (v6))]) hx hb dX12_mayMove_66 hl (by decide) rfl (fun ls hl => ?_)
        refine lv_iinc (v := v6 + 1) (lv' := [(6, .int (v6 + 1)), (5, .int (0)), (0, .ref (ad 0)), (1, .ref (ad v1)), (2, .int (v2)), (4, .int (v4))]) hx hb dX12_mayMove_68 hl (k := 5) rfl rfl (by decide) rfl (fun ls hl => ?_)
        refine lv_goto (tgt := 28) hx hb dX12_mayMove_71 (by decide) ?_
        exact ih28 (0) (v6 + 1) M H locs ls G  (lv_sub hl [2, 3, 4, 5, 1, 0] rfl) h
      have h := h.2 c5
      refine lv_iconst (v := (1)) hx hb dX12_mayMove_61 (by decide) ?_
      refine lv_goto (tgt := 66) hx hb dX12_mayMove_62 (by decide) ?_
      refine lv_istore (lv' := [(5, .int (1)), (0, .ref (ad 0)), (1, .ref (ad v1)), (2, .int (v2)), (4, .int (v4)), (6, .int (v6))]) hx hb dX12_mayMove_66 hl (by decide) rfl (fun ls hl => ?_)
      refine lv_iinc (v := v6 + 1) (lv' := [(6, .int (v6 + 1)), (5, .int (1)), (0, .ref (ad 0)), (1, .ref (ad v1)), (2, .int (v2)), (4, .int (v4))]) hx hb dX12_mayMove_68 hl (k := 5) rfl rfl (by decide) rfl (fun ls hl => ?_)
      refine lv_goto (tgt := 28) hx hb dX12_mayMove_71 (by decide) ?_
      exact ih28 (1) (v6 + 1) M H locs ls G  (lv_sub hl [2, 3, 4, 5, 1, 0] rfl) h
  unfold f_X12_mayMove at h
  refine lv_aload_n hx hb dX12_mayMove_0 rfl (lv_at hl 1 rfl) ?_
  refine lv_iconst (v := (1)) hx hb dX12_mayMove_1 (by decide) ?_
  refine lv_iload_n hx hb dX12_mayMove_2 rfl (lv_at hl 2 rfl) ?_
  refine lv_iadd hx hb dX12_mayMove_3 ?_
  obtain ⟨q6, h⟩ := h
  refine gq_iald X G (rr_isC hv1) q6 dX12_mayMove_4 ?_
  refine lv_iload_n hx hb dX12_mayMove_5 rfl (lv_at hl 3 rfl) ?_
  refine lv_iadd hx hb dX12_mayMove_6 ?_
  refine lv_istore (lv' := [(4, .int ((M v1 (1 + v2 : Int32).toNatClampNeg) + v3)), (0, .ref (ad 0)), (1, .ref (ad v1)), (2, .int (v2)), (3, .int (v3))]) hx hb dX12_mayMove_7 hl (by decide) rfl (fun ls hl => ?_)
  refine lv_iload hx hb dX12_mayMove_9 (lv_at hl 0 rfl) ?_
  refine lv_iconst (v := (1)) hx hb dX12_mayMove_11 (by decide) ?_
  refine lv_aload_n hx hb dX12_mayMove_12 rfl (lv_at hl 1 rfl) ?_
  refine gf_Model_told X G qw_5_13 dX12_mayMove_13 ?_
  refine lv_iconst (v := (0)) hx hb dX12_mayMove_16 (by decide) ?_
  refine gq_iald X G rr_7 (by unfold vp_in; decide) dX12_mayMove_17 ?_
  refine lv_iconst (v := (1)) hx hb dX12_mayMove_18 (by decide) ?_
  refine lv_isub hx hb dX12_mayMove_19 ?_
  refine gq_calli G (gc_S (rest := []) X hl.1 G (m_X12_in hI  h) cw_X12_in qw_7_12 qw_7_13 rfl rfl (Nat.le_of_ble_eq_true rfl) ⟨Nat.le_of_ble_eq_true rfl, Nat.le_of_ble_eq_true rfl⟩ ⟨Nat.le_refl _, Nat.le_refl _⟩ dX12_mayMove_20) (fun r8 M7 H locs G h => ?_)
  refine lv_istore (lv' := [(5, .int (r8)), (4, .int ((M v1 (1 + v2 : Int32).toNatClampNeg) + v3)), (0, .ref (ad 0)), (1, .ref (ad v1)), (2, .int (v2)), (3, .int (v3))]) hx hb dX12_mayMove_23 hl (by decide) rfl (fun ls hl => ?_)
  refine lv_iconst (v := (0)) hx hb dX12_mayMove_25 (by decide) ?_
  refine lv_istore (lv' := [(6, .int (0)), (5, .int (r8)), (4, .int ((M v1 (1 + v2 : Int32).toNatClampNeg) + v3)), (0, .ref (ad 0)), (1, .ref (ad v1)), (2, .int (v2)), (3, .int (v3))]) hx hb dX12_mayMove_26 hl (by decide) rfl (fun ls hl => ?_)
  obtain ⟨n9, h⟩ := h
  exact hL28 ((M v1 (1 + v2 : Int32).toNatClampNeg) + v3)  n9 (r8) (0) M7 H locs ls G  (lv_sub hl [3, 4, 5, 2, 1, 0] rfl) h
def f_X12_move_45 (K : Int32 → Mm → Prop) (v1 : Int32) (s0 : Int32) (M : Mm) : Prop := (f_X12_mayMove 9 (v1) (s0) M (fun r2 M1 => ((((r2 : Int32) = 0 : Prop) → K (-1000002) M1) ∧ (¬ ((r2 : Int32) = 0 : Prop) → (f_X12_know  M1 (fun M4 => (vp_in (1 + v1) 22 ∧ (∀ M6 : Mm, M6 = gU M4 9 (1 + v1 : Int32).toNatClampNeg ((M4 9 (1 + v1 : Int32).toNatClampNeg) + s0) → K (M6 9 (1 + v1 : Int32).toNatClampNeg) M6))))))))
def f_X12_move (v1 : Int32) (v2 : Int32) (M : Mm) (K : Int32 → Mm → Prop) : Prop := ((((M 0 20 : Int32) = 0 : Prop) → K (-1000001) M) ∧ (¬ ((M 0 20 : Int32) = 0 : Prop) → (f_X12_in (v1) (0) ((M 7 (2 : Int32).toNatClampNeg) - 1) M (fun r10 M9 => ((((r10 : Int32) = 0 : Prop) → K (-1000001) M9) ∧ (¬ ((r10 : Int32) = 0 : Prop) → (f_X12_in (v2) (0) (1) M9 (fun r13 M12 => ((((r13 : Int32) = 0 : Prop) → K (-1000001) M12) ∧ (¬ ((r13 : Int32) = 0 : Prop) → ((((v2 : Int32) = 1 : Prop) → f_X12_move_45 K (v1) (1) M12) ∧ (¬ ((v2 : Int32) = 1 : Prop) → f_X12_move_45 K (v1) (-1) M12))))))))))))
set_option maxHeartbeats 4000000 in
set_option maxRecDepth 100000 in
theorem m_X12_move (hI : gI 17 ad) {v1 : Int32} {v2 : Int32} {M : Mm} {K : Int32 → Mm → Prop} (h : f_X12_move v1 v2 M K) : gM l D cy 17 ad (shR ad cy) yX12_move cX12_move 4 (some .int) 2 48 [.ref (ad 0), .int (v1), .int (v2)] M (gQi D 17 ad (shR ad cy) K) := by
  refine gM.of (own := RX12) (lv := [(0, .ref (ad 0)), (1, .int (v1)), (2, .int (v2))]) (by decide) rfl hI (Nat.le_of_ble_eq_true rfl) rfl ?_
  intro p e s m below meth c ls H locs X G hl
  have hx := X.1
  have hb := X.2.1
  have hJ45 : ∀ (s0 : Int32) (M : Mm) (H : Heap) (locs : List Loc) (ls : Array Slot), gS D s 17 ad (shR ad cy) H locs M → lv_has ls 4 [(0, .ref (ad 0)), (1, .int (v1))] → f_X12_move_45 K v1 s0 M → gWk p l e 2 48 s m ([.ref (ad 0), .int (v1), .int (v2)] : List Value).toArray below meth c H locs (gQi D 17 ad (shR ad cy) K) 17 ad 45 ls [.int (s0)] := by
    intro s0 M H locs ls G hl h
    unfold f_X12_move_45 at h
    refine lv_istore_n (lv' := [(3, .int (s0)), (0, .ref (ad 0)), (1, .int (v1))]) hx hb dX12_move_45 rfl hl (by decide) rfl (fun ls hl => ?_)
    refine lv_aload_n hx hb dX12_move_46 rfl (lv_at hl 1 rfl) ?_
    refine lv_aload_n hx hb dX12_move_47 rfl (lv_at hl 1 rfl) ?_
    refine gf_Model_now X G qw_5_15 dX12_move_48 ?_
    refine lv_iload_n hx hb dX12_move_51 rfl (lv_at hl 2 rfl) ?_
    refine lv_iload_n hx hb dX12_move_52 rfl (lv_at hl 0 rfl) ?_
    refine gq_calli G (gc_V (C := RX12) (rest := []) X hl.1 G (m_X12_mayMove hI isC_9 h) cw_X12_mayMove qw_21_12 qw_21_13 qw_21_14 ob_Model rfl rfl rfl rfl (Nat.le_of_ble_eq_true rfl) ⟨Nat.le_of_ble_eq_true rfl, Nat.le_of_ble_eq_true rfl⟩ ⟨Nat.le_refl _, Nat.le_refl _⟩ dX12_move_53) (fun r2 M1 H locs G h => ?_)
    refine lv_if_ne (tgt := 62) hx hb dX12_move_56 (by decide) (fun c3 => ?_) (fun c3 => ?_)
    · have h := h.2 c3
      refine lv_aload_n hx hb dX12_move_62 rfl (lv_at hl 1 rfl) ?_
      refine gq_callv G (gc_V (C := RX12) (rest := []) X hl.1 G (m_X12_know hI  h) cw_X12_know qw_19_15 qw_19_16 qw_19_17 ob_Model rfl rfl rfl rfl (Nat.le_of_ble_eq_true rfl) ⟨Nat.le_of_ble_eq_true rfl, Nat.le_of_ble_eq_true rfl⟩ ⟨Nat.le_refl _, Nat.le_refl _⟩ dX12_move_63) (fun M4 H locs G h => ?_)
      refine lv_aload_n hx hb dX12_move_66 rfl (lv_at hl 1 rfl) ?_
      refine gf_Model_now X G qw_5_15 dX12_move_67 ?_
      refine lv_iconst (v := (1)) hx hb dX12_move_70 (by decide) ?_
      refine lv_iload_n hx hb dX12_move_71 rfl (lv_at hl 2 rfl) ?_
      refine lv_iadd hx hb dX12_move_72 ?_
      refine lv_dup2_11 hx hb dX12_move_73 rfl rfl ?_
      obtain ⟨q5, h⟩ := h
      refine gq_iald X G rr_9 q5 dX12_move_74 ?_
      refine lv_iload_n hx hb dX12_move_75 rfl (lv_at hl 0 rfl) ?_
      refine lv_iadd hx hb dX12_move_76 ?_
      refine gq_iast X G rr_9 q5 dX12_move_77 (fun M6 H locs e7 G => ?_)
      have h := h M6 e7
      refine lv_aload_n hx hb dX12_move_78 rfl (lv_at hl 1 rfl) ?_
      refine gf_Model_now X G qw_5_15 dX12_move_79 ?_
      refine lv_iconst (v := (1)) hx hb dX12_move_82 (by decide) ?_
      refine lv_iload_n hx hb dX12_move_83 rfl (lv_at hl 2 rfl) ?_
      refine lv_iadd hx hb dX12_move_84 ?_
      refine gq_iald X G rr_9 q5 dX12_move_85 ?_
      exact gq_iret X G h dX12_move_86
    have h := h.1 c3
    refine gq_ldc (v := (-1000002)) X qw_19_14 dX12_move_59 ?_
    exact gq_iret X G h dX12_move_61
  unfold f_X12_move at h
  refine lv_aload_n hx hb dX12_move_0 rfl (lv_at hl 0 rfl) ?_
  refine gf_Model_isRead X G qw_14_8 dX12_move_1 ?_
  refine lv_if_eq (tgt := 32) hx hb dX12_move_4 (by decide) (fun c8 => ?_) (fun c8 => ?_)
  · have h := h.1 c8
    refine gq_ldc (v := (-1000001)) X qw_7_8 dX12_move_32 ?_
    exact gq_iret X G h dX12_move_34
  have h := h.2 c8
  refine lv_iload_n hx hb dX12_move_7 rfl (lv_at hl 1 rfl) ?_
  refine lv_iconst (v := (0)) hx hb dX12_move_8 (by decide) ?_
  refine lv_aload_n hx hb dX12_move_9 rfl (lv_at hl 0 rfl) ?_
  refine gf_Model_told X G qw_5_13 dX12_move_10 ?_
  refine lv_iconst (v := (2)) hx hb dX12_move_13 (by decide) ?_
  refine gq_iald X G rr_7 (by unfold vp_in; decide) dX12_move_14 ?_
  refine lv_iconst (v := (1)) hx hb dX12_move_15 (by decide) ?_
  refine lv_isub hx hb dX12_move_16 ?_
  refine gq_calli G (gc_S (rest := []) X hl.1 G (m_X12_in hI  h) cw_X12_in qw_7_12 qw_7_13 rfl rfl (Nat.le_of_ble_eq_true rfl) ⟨Nat.le_of_ble_eq_true rfl, Nat.le_of_ble_eq_true rfl⟩ ⟨Nat.le_refl _, Nat.le_refl _⟩ dX12_move_17) (fun r10 M9 H locs G h => ?_)
  refine lv_if_eq (tgt := 32) hx hb dX12_move_20 (by decide) (fun c11 => ?_) (fun c11 => ?_)
  · have h := h.1 c11
    refine gq_ldc (v := (-1000001)) X qw_7_8 dX12_move_32 ?_
    exact gq_iret X G h dX12_move_34
  have h := h.2 c11
  refine lv_iload_n hx hb dX12_move_23 rfl (lv_at hl 2 rfl) ?_
  refine lv_iconst (v := (0)) hx hb dX12_move_24 (by decide) ?_
  refine lv_iconst (v := (1)) hx hb dX12_move_25 (by decide) ?_
  refine gq_calli G (gc_S (rest := []) X hl.1 G (m_X12_in hI  h) cw_X12_in qw_7_12 qw_7_13 rfl rfl (Nat.le_of_ble_eq_true rfl) ⟨Nat.le_of_ble_eq_true rfl, Nat.le_of_ble_eq_true rfl⟩ ⟨Nat.le_refl _, Nat.le_refl _⟩ dX12_move_26) (fun r13 M12 H locs G h => ?_)
  refine lv_if_ne (tgt := 35) hx hb dX12_move_29 (by decide) (fun c14 => ?_) (fun c14 => ?_)
  · have h := h.2 c14
    refine lv_iload_n hx hb dX12_move_35 rfl (lv_at hl 2 rfl) ?_
    refine lv_iconst (v := (1)) hx hb dX12_move_36 (by decide) ?_
    refine lv_icmp_ne (tgt := 44) hx hb dX12_move_37 (by decide) (fun c15 => ?_) (fun c15 => ?_)
    · have h := h.2 c15
      refine lv_iconst (v := (-1)) hx hb dX12_move_44 (by decide) ?_
      exact hJ45  (-1) M12 H locs ls G  (lv_sub hl [0, 1] rfl) h
    have h := h.1 c15
    refine lv_iconst (v := (1)) hx hb dX12_move_40 (by decide) ?_
    refine lv_goto (tgt := 45) hx hb dX12_move_41 (by decide) ?_
    exact hJ45  (1) M12 H locs ls G  (lv_sub hl [0, 1] rfl) h
  have h := h.1 c14
  refine gq_ldc (v := (-1000001)) X qw_7_8 dX12_move_32 ?_
  exact gq_iret X G h dX12_move_34
def f_X12_isCell (v1 : Int32) (M : Mm) (K : Int32 → Mm → Prop) : Prop := ((((M 0 20 : Int32) = 0 : Prop) → K 0 M) ∧ (¬ ((M 0 20 : Int32) = 0 : Prop) → (f_X12_in (v1) (0) ((M 7 (0 : Int32).toNatClampNeg) - 1) M (fun r3 M2 => ((((r3 : Int32) = 0 : Prop) → K 0 M2) ∧ (¬ ((r3 : Int32) = 0 : Prop) → K 1 M2))))))
set_option maxHeartbeats 4000000 in
set_option maxRecDepth 100000 in
theorem m_X12_isCell (hI : gI 17 ad) {v1 : Int32} {M : Mm} {K : Int32 → Mm → Prop} (h : f_X12_isCell v1 M K) : gM l D cy 17 ad (shR ad cy) yX12_isCell cX12_isCell 2 (some .boolean) 1 22 [.ref (ad 0), .int (v1)] M (gQi D 17 ad (shR ad cy) K) := by
  refine gM.of (own := RX12) (lv := [(0, .ref (ad 0)), (1, .int (v1))]) (by decide) rfl hI (Nat.le_of_ble_eq_true rfl) rfl ?_
  intro p e s m below meth c ls H locs X G hl
  have hx := X.1
  have hb := X.2.1
  unfold f_X12_isCell at h
  refine lv_aload_n hx hb dX12_isCell_0 rfl (lv_at hl 0 rfl) ?_
  refine gf_Model_isRead X G qw_14_8 dX12_isCell_1 ?_
  refine lv_if_eq (tgt := 27) hx hb dX12_isCell_4 (by decide) (fun c1 => ?_) (fun c1 => ?_)
  · have h := h.1 c1
    refine lv_iconst (v := (0)) hx hb dX12_isCell_27 (by decide) ?_
    exact gq_zret X G (Or.inl rfl) h dX12_isCell_28
  have h := h.2 c1
  refine lv_iload_n hx hb dX12_isCell_7 rfl (lv_at hl 1 rfl) ?_
  refine lv_iconst (v := (0)) hx hb dX12_isCell_8 (by decide) ?_
  refine lv_aload_n hx hb dX12_isCell_9 rfl (lv_at hl 0 rfl) ?_
  refine gf_Model_told X G qw_5_13 dX12_isCell_10 ?_
  refine lv_iconst (v := (0)) hx hb dX12_isCell_13 (by decide) ?_
  refine gq_iald X G rr_7 (by unfold vp_in; decide) dX12_isCell_14 ?_
  refine lv_iconst (v := (1)) hx hb dX12_isCell_15 (by decide) ?_
  refine lv_isub hx hb dX12_isCell_16 ?_
  refine gq_calli G (gc_S (rest := []) X hl.1 G (m_X12_in hI  h) cw_X12_in qw_7_12 qw_7_13 rfl rfl (Nat.le_of_ble_eq_true rfl) ⟨Nat.le_of_ble_eq_true rfl, Nat.le_of_ble_eq_true rfl⟩ ⟨Nat.le_refl _, Nat.le_refl _⟩ dX12_isCell_17) (fun r3 M2 H locs G h => ?_)
  refine lv_if_eq (tgt := 27) hx hb dX12_isCell_20 (by decide) (fun c4 => ?_) (fun c4 => ?_)
  · have h := h.1 c4
    refine lv_iconst (v := (0)) hx hb dX12_isCell_27 (by decide) ?_
    exact gq_zret X G (Or.inl rfl) h dX12_isCell_28
  have h := h.2 c4
  refine lv_iconst (v := (1)) hx hb dX12_isCell_23 (by decide) ?_
  refine lv_goto (tgt := 28) hx hb dX12_isCell_24 (by decide) ?_
  exact gq_zret X G (Or.inr rfl) h dX12_isCell_28
def f_X12_has (v0 : Int32) (v1 : Int32) (M : Mm) (K : Int32 → Mm → Prop) : Prop := (((((v0 >>> (v1 &&& 31)) &&& 1 : Int32) = 1 : Prop) → K 1 M) ∧ (¬ (((v0 >>> (v1 &&& 31)) &&& 1 : Int32) = 1 : Prop) → K 0 M))
set_option maxHeartbeats 4000000 in
set_option maxRecDepth 100000 in
theorem m_X12_has (hI : gI 17 ad) {v0 : Int32} {v1 : Int32} {M : Mm} {K : Int32 → Mm → Prop} (h : f_X12_has v0 v1 M K) : gM l D cy 17 ad (shR ad cy) yX12_has cX12_has 2 (some .boolean) 0 0 [.int (v0), .int (v1)] M (gQi D 17 ad (shR ad cy) K) := by
  refine gM.of (own := RX12) (lv := [(0, .int (v0)), (1, .int (v1))]) (by decide) rfl hI (Nat.le_of_ble_eq_true rfl) rfl ?_
  intro p e s m below meth c ls H locs X G hl
  have hx := X.1
  have hb := X.2.1
  unfold f_X12_has at h
  refine lv_iload_n hx hb dX12_has_0 rfl (lv_at hl 0 rfl) ?_
  refine lv_iload_n hx hb dX12_has_1 rfl (lv_at hl 1 rfl) ?_
  refine lv_ishr hx hb dX12_has_2 ?_
  refine lv_iconst (v := (1)) hx hb dX12_has_3 (by decide) ?_
  refine lv_iand hx hb dX12_has_4 ?_
  refine lv_iconst (v := (1)) hx hb dX12_has_5 (by decide) ?_
  refine lv_icmp_ne (tgt := 13) hx hb dX12_has_6 (by decide) (fun c1 => ?_) (fun c1 => ?_)
  · have h := h.2 c1
    refine lv_iconst (v := (0)) hx hb dX12_has_13 (by decide) ?_
    exact gq_zret X G (Or.inl rfl) h dX12_has_14
  have h := h.1 c1
  refine lv_iconst (v := (1)) hx hb dX12_has_9 (by decide) ?_
  refine lv_goto (tgt := 14) hx hb dX12_has_10 (by decide) ?_
  exact gq_zret X G (Or.inr rfl) h dX12_has_14
def f_X12_fade_41 (K : Int32 → Mm → Prop) (v1 : Int32) (s0 : Int32) (s1 : Int32) (M : Mm) : Prop := ((((s1 : Int32) = s0 : Prop) → K (-1000002) M) ∧ (¬ ((s1 : Int32) = s0 : Prop) → (f_X12_know  M (fun M2 => (∀ M3 : Mm, M3 = gU M2 9 (6 : Int32).toNatClampNeg ((M2 9 (6 : Int32).toNatClampNeg) ^^^ (1 <<< (v1 &&& 31))) → K (M3 9 (6 : Int32).toNatClampNeg) M3)))))
def f_X12_fade (v1 : Int32) (v2 : Int32) (M : Mm) (K : Int32 → Mm → Prop) : Prop := (f_X12_isCell (v1) M (fun r6 M5 => ((((r6 : Int32) = 0 : Prop) → K (-1000001) M5) ∧ (¬ ((r6 : Int32) = 0 : Prop) → (f_X12_in (v2) (0) (1) M5 (fun r9 M8 => ((((r9 : Int32) = 0 : Prop) → K (-1000001) M8) ∧ (¬ ((r9 : Int32) = 0 : Prop) → (f_X12_has (M8 9 (6 : Int32).toNatClampNeg) (v1) M8 (fun r12 M11 => ((((v2 : Int32) = 1 : Prop) → f_X12_fade_41 K (v1) (1) (r12) M11) ∧ (¬ ((v2 : Int32) = 1 : Prop) → f_X12_fade_41 K (v1) (0) (r12) M11))))))))))))
set_option maxHeartbeats 4000000 in
set_option maxRecDepth 100000 in
theorem m_X12_fade (hI : gI 17 ad) {v1 : Int32} {v2 : Int32} {M : Mm} {K : Int32 → Mm → Prop} (h : f_X12_fade v1 v2 M K) : gM l D cy 17 ad (shR ad cy) yX12_fade cX12_fade 3 (some .int) 2 43 [.ref (ad 0), .int (v1), .int (v2)] M (gQi D 17 ad (shR ad cy) K) := by
  refine gM.of (own := RX12) (lv := [(0, .ref (ad 0)), (1, .int (v1)), (2, .int (v2))]) (by decide) rfl hI (Nat.le_of_ble_eq_true rfl) rfl ?_
  intro p e s m below meth c ls H locs X G hl
  have hx := X.1
  have hb := X.2.1
  have hJ41 : ∀ (s0 : Int32) (s1 : Int32) (M : Mm) (H : Heap) (locs : List Loc) (ls : Array Slot), gS D s 17 ad (shR ad cy) H locs M → lv_has ls 3 [(0, .ref (ad 0)), (1, .int (v1))] → f_X12_fade_41 K v1 s0 s1 M → gWk p l e 2 43 s m ([.ref (ad 0), .int (v1), .int (v2)] : List Value).toArray below meth c H locs (gQi D 17 ad (shR ad cy) K) 17 ad 41 ls [.int (s0), .int (s1)] := by
    intro s0 s1 M H locs ls G hl h
    unfold f_X12_fade_41 at h
    refine lv_icmp_ne (tgt := 47) hx hb dX12_fade_41 (by decide) (fun c1 => ?_) (fun c1 => ?_)
    · have h := h.2 c1
      refine lv_aload_n hx hb dX12_fade_47 rfl (lv_at hl 0 rfl) ?_
      refine gq_callv G (gc_V (C := RX12) (rest := []) X hl.1 G (m_X12_know hI  h) cw_X12_know qw_19_15 qw_19_16 qw_19_17 ob_Model rfl rfl rfl rfl (Nat.le_of_ble_eq_true rfl) ⟨Nat.le_of_ble_eq_true rfl, Nat.le_of_ble_eq_true rfl⟩ ⟨Nat.le_refl _, Nat.le_refl _⟩ dX12_fade_48) (fun M2 H locs G h => ?_)
      refine lv_aload_n hx hb dX12_fade_51 rfl (lv_at hl 0 rfl) ?_
      refine gf_Model_now X G qw_5_15 dX12_fade_52 ?_
      refine lv_bipush (v := (6)) hx hb dX12_fade_55 (by decide) ?_
      refine lv_dup2_11 hx hb dX12_fade_57 rfl rfl ?_
      refine gq_iald X G rr_9 (by unfold vp_in; decide) dX12_fade_58 ?_
      refine lv_iconst (v := (1)) hx hb dX12_fade_59 (by decide) ?_
      refine lv_iload_n hx hb dX12_fade_60 rfl (lv_at hl 1 rfl) ?_
      refine lv_ishl hx hb dX12_fade_61 ?_
      refine lv_ixor hx hb dX12_fade_62 ?_
      refine gq_iast X G rr_9 (by unfold vp_in; decide) dX12_fade_63 (fun M3 H locs e4 G => ?_)
      have h := h M3 e4
      refine lv_aload_n hx hb dX12_fade_64 rfl (lv_at hl 0 rfl) ?_
      refine gf_Model_now X G qw_5_15 dX12_fade_65 ?_
      refine lv_bipush (v := (6)) hx hb dX12_fade_68 (by decide) ?_
      refine gq_iald X G rr_9 (by unfold vp_in; decide) dX12_fade_70 ?_
      exact gq_iret X G h dX12_fade_71
    have h := h.1 c1
    refine gq_ldc (v := (-1000002)) X qw_19_14 dX12_fade_44 ?_
    exact gq_iret X G h dX12_fade_46
  unfold f_X12_fade at h
  refine lv_aload_n hx hb dX12_fade_0 rfl (lv_at hl 0 rfl) ?_
  refine lv_iload_n hx hb dX12_fade_1 rfl (lv_at hl 1 rfl) ?_
  refine gq_calli G (gc_V (C := RX12) (rest := []) X hl.1 G (m_X12_isCell hI  h) cw_X12_isCell qw_22_6 qw_22_7 qw_22_8 ob_Model rfl rfl rfl rfl (Nat.le_of_ble_eq_true rfl) ⟨Nat.le_of_ble_eq_true rfl, Nat.le_of_ble_eq_true rfl⟩ ⟨Nat.le_refl _, Nat.le_refl _⟩ dX12_fade_2) (fun r6 M5 H locs G h => ?_)
  refine lv_if_eq (tgt := 17) hx hb dX12_fade_5 (by decide) (fun c7 => ?_) (fun c7 => ?_)
  · have h := h.1 c7
    refine gq_ldc (v := (-1000001)) X qw_7_8 dX12_fade_17 ?_
    exact gq_iret X G h dX12_fade_19
  have h := h.2 c7
  refine lv_iload_n hx hb dX12_fade_8 rfl (lv_at hl 2 rfl) ?_
  refine lv_iconst (v := (0)) hx hb dX12_fade_9 (by decide) ?_
  refine lv_iconst (v := (1)) hx hb dX12_fade_10 (by decide) ?_
  refine gq_calli G (gc_S (rest := []) X hl.1 G (m_X12_in hI  h) cw_X12_in qw_7_12 qw_7_13 rfl rfl (Nat.le_of_ble_eq_true rfl) ⟨Nat.le_of_ble_eq_true rfl, Nat.le_of_ble_eq_true rfl⟩ ⟨Nat.le_refl _, Nat.le_refl _⟩ dX12_fade_11) (fun r9 M8 H locs G h => ?_)
  refine lv_if_ne (tgt := 20) hx hb dX12_fade_14 (by decide) (fun c10 => ?_) (fun c10 => ?_)
  · have h := h.2 c10
    refine lv_aload_n hx hb dX12_fade_20 rfl (lv_at hl 0 rfl) ?_
    refine gf_Model_now X G qw_5_15 dX12_fade_21 ?_
    refine lv_bipush (v := (6)) hx hb dX12_fade_24 (by decide) ?_
    refine gq_iald X G rr_9 (by unfold vp_in; decide) dX12_fade_26 ?_
    refine lv_iload_n hx hb dX12_fade_27 rfl (lv_at hl 1 rfl) ?_
    refine gq_calli G (gc_S (rest := []) X hl.1 G (m_X12_has hI  h) cw_X12_has qw_22_10 qw_22_11 rfl rfl (Nat.le_of_ble_eq_true rfl) ⟨Nat.le_of_ble_eq_true rfl, Nat.le_of_ble_eq_true rfl⟩ ⟨Nat.le_refl _, Nat.le_refl _⟩ dX12_fade_28) (fun r12 M11 H locs G h => ?_)
    refine lv_iload_n hx hb dX12_fade_31 rfl (lv_at hl 2 rfl) ?_
    refine lv_iconst (v := (1)) hx hb dX12_fade_32 (by decide) ?_
    refine lv_icmp_ne (tgt := 40) hx hb dX12_fade_33 (by decide) (fun c13 => ?_) (fun c13 => ?_)
    · have h := h.2 c13
      refine lv_iconst (v := (0)) hx hb dX12_fade_40 (by decide) ?_
      exact hJ41  (0) (r12) M11 H locs ls G  (lv_sub hl [0, 1] rfl) h
    have h := h.1 c13
    refine lv_iconst (v := (1)) hx hb dX12_fade_36 (by decide) ?_
    refine lv_goto (tgt := 41) hx hb dX12_fade_37 (by decide) ?_
    exact hJ41  (1) (r12) M11 H locs ls G  (lv_sub hl [0, 1] rfl) h
  have h := h.1 c10
  refine gq_ldc (v := (-1000001)) X qw_7_8 dX12_fade_17 ?_
  exact gq_iret X G h dX12_fade_19
def f_X12_isOne (v1 : Int32) (M : Mm) (K : Int32 → Mm → Prop) : Prop := ((((M 0 20 : Int32) = 0 : Prop) → K 0 M) ∧ (¬ ((M 0 20 : Int32) = 0 : Prop) → (f_X12_in (v1) (0) ((M 7 (3 : Int32).toNatClampNeg) - 1) M (fun r3 M2 => ((((r3 : Int32) = 0 : Prop) → K 0 M2) ∧ (¬ ((r3 : Int32) = 0 : Prop) → K 1 M2))))))
set_option maxHeartbeats 4000000 in
set_option maxRecDepth 100000 in
theorem m_X12_isOne (hI : gI 17 ad) {v1 : Int32} {M : Mm} {K : Int32 → Mm → Prop} (h : f_X12_isOne v1 M K) : gM l D cy 17 ad (shR ad cy) yX12_isOne cX12_isOne 2 (some .boolean) 1 22 [.ref (ad 0), .int (v1)] M (gQi D 17 ad (shR ad cy) K) := by
  refine gM.of (own := RX12) (lv := [(0, .ref (ad 0)), (1, .int (v1))]) (by decide) rfl hI (Nat.le_of_ble_eq_true rfl) rfl ?_
  intro p e s m below meth c ls H locs X G hl
  have hx := X.1
  have hb := X.2.1
  unfold f_X12_isOne at h
  refine lv_aload_n hx hb dX12_isOne_0 rfl (lv_at hl 0 rfl) ?_
  refine gf_Model_isRead X G qw_14_8 dX12_isOne_1 ?_
  refine lv_if_eq (tgt := 27) hx hb dX12_isOne_4 (by decide) (fun c1 => ?_) (fun c1 => ?_)
  · have h := h.1 c1
    refine lv_iconst (v := (0)) hx hb dX12_isOne_27 (by decide) ?_
    exact gq_zret X G (Or.inl rfl) h dX12_isOne_28
  have h := h.2 c1
  refine lv_iload_n hx hb dX12_isOne_7 rfl (lv_at hl 1 rfl) ?_
  refine lv_iconst (v := (0)) hx hb dX12_isOne_8 (by decide) ?_
  refine lv_aload_n hx hb dX12_isOne_9 rfl (lv_at hl 0 rfl) ?_
  refine gf_Model_told X G qw_5_13 dX12_isOne_10 ?_
  refine lv_iconst (v := (3)) hx hb dX12_isOne_13 (by decide) ?_
  refine gq_iald X G rr_7 (by unfold vp_in; decide) dX12_isOne_14 ?_
  refine lv_iconst (v := (1)) hx hb dX12_isOne_15 (by decide) ?_
  refine lv_isub hx hb dX12_isOne_16 ?_
  refine gq_calli G (gc_S (rest := []) X hl.1 G (m_X12_in hI  h) cw_X12_in qw_7_12 qw_7_13 rfl rfl (Nat.le_of_ble_eq_true rfl) ⟨Nat.le_of_ble_eq_true rfl, Nat.le_of_ble_eq_true rfl⟩ ⟨Nat.le_refl _, Nat.le_refl _⟩ dX12_isOne_17) (fun r3 M2 H locs G h => ?_)
  refine lv_if_eq (tgt := 27) hx hb dX12_isOne_20 (by decide) (fun c4 => ?_) (fun c4 => ?_)
  · have h := h.1 c4
    refine lv_iconst (v := (0)) hx hb dX12_isOne_27 (by decide) ?_
    exact gq_zret X G (Or.inl rfl) h dX12_isOne_28
  have h := h.2 c4
  refine lv_iconst (v := (1)) hx hb dX12_isOne_23 (by decide) ?_
  refine lv_goto (tgt := 28) hx hb dX12_isOne_24 (by decide) ?_
  exact gq_zret X G (Or.inr rfl) h dX12_isOne_28
def f_X12_isHouse (v1 : Int32) (M : Mm) (K : Int32 → Mm → Prop) : Prop := ((((M 0 20 : Int32) = 0 : Prop) → K 0 M) ∧ (¬ ((M 0 20 : Int32) = 0 : Prop) → (f_X12_in (v1) (0) (M 7 (2 : Int32).toNatClampNeg) M (fun r3 M2 => ((((r3 : Int32) = 0 : Prop) → K 0 M2) ∧ (¬ ((r3 : Int32) = 0 : Prop) → K 1 M2))))))
set_option maxHeartbeats 4000000 in
set_option maxRecDepth 100000 in
theorem m_X12_isHouse (hI : gI 17 ad) {v1 : Int32} {M : Mm} {K : Int32 → Mm → Prop} (h : f_X12_isHouse v1 M K) : gM l D cy 17 ad (shR ad cy) yX12_isHouse cX12_isHouse 2 (some .boolean) 1 22 [.ref (ad 0), .int (v1)] M (gQi D 17 ad (shR ad cy) K) := by
  refine gM.of (own := RX12) (lv := [(0, .ref (ad 0)), (1, .int (v1))]) (by decide) rfl hI (Nat.le_of_ble_eq_true rfl) rfl ?_
  intro p e s m below meth c ls H locs X G hl
  have hx := X.1
  have hb := X.2.1
  unfold f_X12_isHouse at h
  refine lv_aload_n hx hb dX12_isHouse_0 rfl (lv_at hl 0 rfl) ?_
  refine gf_Model_isRead X G qw_14_8 dX12_isHouse_1 ?_
  refine lv_if_eq (tgt := 25) hx hb dX12_isHouse_4 (by decide) (fun c1 => ?_) (fun c1 => ?_)
  · have h := h.1 c1
    refine lv_iconst (v := (0)) hx hb dX12_isHouse_25 (by decide) ?_
    exact gq_zret X G (Or.inl rfl) h dX12_isHouse_26
  have h := h.2 c1
  refine lv_iload_n hx hb dX12_isHouse_7 rfl (lv_at hl 1 rfl) ?_
  refine lv_iconst (v := (0)) hx hb dX12_isHouse_8 (by decide) ?_
  refine lv_aload_n hx hb dX12_isHouse_9 rfl (lv_at hl 0 rfl) ?_
  refine gf_Model_told X G qw_5_13 dX12_isHouse_10 ?_
  refine lv_iconst (v := (2)) hx hb dX12_isHouse_13 (by decide) ?_
  refine gq_iald X G rr_7 (by unfold vp_in; decide) dX12_isHouse_14 ?_
  refine gq_calli G (gc_S (rest := []) X hl.1 G (m_X12_in hI  h) cw_X12_in qw_7_12 qw_7_13 rfl rfl (Nat.le_of_ble_eq_true rfl) ⟨Nat.le_of_ble_eq_true rfl, Nat.le_of_ble_eq_true rfl⟩ ⟨Nat.le_refl _, Nat.le_refl _⟩ dX12_isHouse_15) (fun r3 M2 H locs G h => ?_)
  refine lv_if_eq (tgt := 25) hx hb dX12_isHouse_18 (by decide) (fun c4 => ?_) (fun c4 => ?_)
  · have h := h.1 c4
    refine lv_iconst (v := (0)) hx hb dX12_isHouse_25 (by decide) ?_
    exact gq_zret X G (Or.inl rfl) h dX12_isHouse_26
  have h := h.2 c4
  refine lv_iconst (v := (1)) hx hb dX12_isHouse_21 (by decide) ?_
  refine lv_goto (tgt := 26) hx hb dX12_isHouse_22 (by decide) ?_
  exact gq_zret X G (Or.inr rfl) h dX12_isHouse_26
def f_X12_put (v1 : Int32) (v2 : Int32) (M : Mm) (K : Int32 → Mm → Prop) : Prop := (f_X12_isOne (v1) M (fun r2 M1 => ((((r2 : Int32) = 0 : Prop) → K (-1000001) M1) ∧ (¬ ((r2 : Int32) = 0 : Prop) → (f_X12_isHouse (v2) M1 (fun r5 M4 => ((((r5 : Int32) = 0 : Prop) → K (-1000001) M4) ∧ (¬ ((r5 : Int32) = 0 : Prop) → (f_X12_know  M4 (fun M7 => (vp_in (7 + v1) 22 ∧ (∀ M9 : Mm, M9 = gU M7 9 (7 + v1 : Int32).toNatClampNeg (v2) → (vp_in (17 + v1) 22 ∧ (vp_in (28 + v1) 33 ∧ (f_X12_sees 9 (v2) (M9 7 (28 + v1 : Int32).toNatClampNeg) M9 (fun r14 M13 => (∀ M15 : Mm, M15 = gU M13 9 (17 + v1 : Int32).toNatClampNeg ((M9 9 (17 + v1 : Int32).toNatClampNeg) ||| r14) → K (M15 9 (17 + v1 : Int32).toNatClampNeg) M15)))))))))))))))))
set_option maxHeartbeats 4000000 in
set_option maxRecDepth 100000 in
theorem m_X12_put (hI : gI 17 ad) {v1 : Int32} {v2 : Int32} {M : Mm} {K : Int32 → Mm → Prop} (h : f_X12_put v1 v2 M K) : gM l D cy 17 ad (shR ad cy) yX12_put cX12_put 3 (some .int) 2 48 [.ref (ad 0), .int (v1), .int (v2)] M (gQi D 17 ad (shR ad cy) K) := by
  refine gM.of (own := RX12) (lv := [(0, .ref (ad 0)), (1, .int (v1)), (2, .int (v2))]) (by decide) rfl hI (Nat.le_of_ble_eq_true rfl) rfl ?_
  intro p e s m below meth c ls H locs X G hl
  have hx := X.1
  have hb := X.2.1
  unfold f_X12_put at h
  refine lv_aload_n hx hb dX12_put_0 rfl (lv_at hl 0 rfl) ?_
  refine lv_iload_n hx hb dX12_put_1 rfl (lv_at hl 1 rfl) ?_
  refine gq_calli G (gc_V (C := RX12) (rest := []) X hl.1 G (m_X12_isOne hI  h) cw_X12_isOne qw_23_3 qw_23_4 qw_23_5 ob_Model rfl rfl rfl rfl (Nat.le_of_ble_eq_true rfl) ⟨Nat.le_of_ble_eq_true rfl, Nat.le_of_ble_eq_true rfl⟩ ⟨Nat.le_refl _, Nat.le_refl _⟩ dX12_put_2) (fun r2 M1 H locs G h => ?_)
  refine lv_if_eq (tgt := 16) hx hb dX12_put_5 (by decide) (fun c3 => ?_) (fun c3 => ?_)
  · have h := h.1 c3
    refine gq_ldc (v := (-1000001)) X qw_7_8 dX12_put_16 ?_
    exact gq_iret X G h dX12_put_18
  have h := h.2 c3
  refine lv_aload_n hx hb dX12_put_8 rfl (lv_at hl 0 rfl) ?_
  refine lv_iload_n hx hb dX12_put_9 rfl (lv_at hl 2 rfl) ?_
  refine gq_calli G (gc_V (C := RX12) (rest := []) X hl.1 G (m_X12_isHouse hI  h) cw_X12_isHouse qw_23_7 qw_23_8 qw_23_9 ob_Model rfl rfl rfl rfl (Nat.le_of_ble_eq_true rfl) ⟨Nat.le_of_ble_eq_true rfl, Nat.le_of_ble_eq_true rfl⟩ ⟨Nat.le_refl _, Nat.le_refl _⟩ dX12_put_10) (fun r5 M4 H locs G h => ?_)
  refine lv_if_ne (tgt := 19) hx hb dX12_put_13 (by decide) (fun c6 => ?_) (fun c6 => ?_)
  · have h := h.2 c6
    refine lv_aload_n hx hb dX12_put_19 rfl (lv_at hl 0 rfl) ?_
    refine gq_callv G (gc_V (C := RX12) (rest := []) X hl.1 G (m_X12_know hI  h) cw_X12_know qw_19_15 qw_19_16 qw_19_17 ob_Model rfl rfl rfl rfl (Nat.le_of_ble_eq_true rfl) ⟨Nat.le_of_ble_eq_true rfl, Nat.le_of_ble_eq_true rfl⟩ ⟨Nat.le_refl _, Nat.le_refl _⟩ dX12_put_20) (fun M7 H locs G h => ?_)
    refine lv_aload_n hx hb dX12_put_23 rfl (lv_at hl 0 rfl) ?_
    refine gf_Model_now X G qw_5_15 dX12_put_24 ?_
    refine lv_bipush (v := (7)) hx hb dX12_put_27 (by decide) ?_
    refine lv_iload_n hx hb dX12_put_29 rfl (lv_at hl 1 rfl) ?_
    refine lv_iadd hx hb dX12_put_30 ?_
    refine lv_iload_n hx hb dX12_put_31 rfl (lv_at hl 2 rfl) ?_
    obtain ⟨q8, h⟩ := h
    refine gq_iast X G rr_9 q8 dX12_put_32 (fun M9 H locs e10 G => ?_)
    have h := h M9 e10
    refine lv_aload_n hx hb dX12_put_33 rfl (lv_at hl 0 rfl) ?_
    refine gf_Model_now X G qw_5_15 dX12_put_34 ?_
    refine lv_bipush (v := (17)) hx hb dX12_put_37 (by decide) ?_
    refine lv_iload_n hx hb dX12_put_39 rfl (lv_at hl 1 rfl) ?_
    refine lv_iadd hx hb dX12_put_40 ?_
    refine lv_dup2_11 hx hb dX12_put_41 rfl rfl ?_
    obtain ⟨q11, h⟩ := h
    refine gq_iald X G rr_9 q11 dX12_put_42 ?_
    refine lv_aload_n hx hb dX12_put_43 rfl (lv_at hl 0 rfl) ?_
    refine lv_aload_n hx hb dX12_put_44 rfl (lv_at hl 0 rfl) ?_
    refine gf_Model_now X G qw_5_15 dX12_put_45 ?_
    refine lv_iload_n hx hb dX12_put_48 rfl (lv_at hl 2 rfl) ?_
    refine lv_aload_n hx hb dX12_put_49 rfl (lv_at hl 0 rfl) ?_
    refine gf_Model_told X G qw_5_13 dX12_put_50 ?_
    refine lv_bipush (v := (28)) hx hb dX12_put_53 (by decide) ?_
    refine lv_iload_n hx hb dX12_put_55 rfl (lv_at hl 1 rfl) ?_
    refine lv_iadd hx hb dX12_put_56 ?_
    obtain ⟨q12, h⟩ := h
    refine gq_iald X G rr_7 q12 dX12_put_57 ?_
    refine gq_calli G (gc_V (C := RX12) (rest := [.int (M9 9 (17 + v1 : Int32).toNatClampNeg), .int (17 + v1), .ref (ad 9)]) X hl.1 G (m_X12_sees hI isC_9 h) cw_X12_sees qw_20_3 qw_20_4 qw_20_5 ob_Model rfl rfl rfl rfl (Nat.le_of_ble_eq_true rfl) ⟨Nat.le_of_ble_eq_true rfl, Nat.le_of_ble_eq_true rfl⟩ ⟨Nat.le_refl _, Nat.le_refl _⟩ dX12_put_58) (fun r14 M13 H locs G h => ?_)
    refine lv_ior hx hb dX12_put_61 ?_
    refine gq_iast X G rr_9 q11 dX12_put_62 (fun M15 H locs e16 G => ?_)
    have h := h M15 e16
    refine lv_aload_n hx hb dX12_put_63 rfl (lv_at hl 0 rfl) ?_
    refine gf_Model_now X G qw_5_15 dX12_put_64 ?_
    refine lv_bipush (v := (17)) hx hb dX12_put_67 (by decide) ?_
    refine lv_iload_n hx hb dX12_put_69 rfl (lv_at hl 1 rfl) ?_
    refine lv_iadd hx hb dX12_put_70 ?_
    refine gq_iald X G rr_9 q11 dX12_put_71 ?_
    exact gq_iret X G h dX12_put_72
  have h := h.1 c6
  refine gq_ldc (v := (-1000001)) X qw_7_8 dX12_put_16 ?_
  exact gq_iret X G h dX12_put_18
def l_X12_undo_22 (K : Int32 → Mm → Prop) : Nat → Int32 → Mm → Prop
  | 0, _, _ => False
  | n + 1, v1, M => ((((22 : Int32) ≤ v1 : Prop) → K (M 0 19) M) ∧ (¬ ((22 : Int32) ≤ v1 : Prop) → (vp_in ((22 * (M 0 19)) + v1) 528 ∧ (vp_in (v1) 22 ∧ (∀ M4 : Mm, M4 = gU M 9 (v1 : Int32).toNatClampNeg (M 11 ((22 * (M 0 19)) + v1 : Int32).toNatClampNeg) → (l_X12_undo_22 K n) (v1 + 1) M4)))))
def f_X12_undo  (M : Mm) (K : Int32 → Mm → Prop) : Prop := ((((M 0 19 : Int32) = 0 : Prop) → K (-1000002) M) ∧ (¬ ((M 0 19 : Int32) = 0 : Prop) → (∀ M7 : Mm, M7 = gU M 0 19 ((M 0 19) - 1) → ∃ z, l_X12_undo_22 K z (0) M7)))
set_option maxHeartbeats 4000000 in
set_option maxRecDepth 100000 in
theorem m_X12_undo (hI : gI 17 ad)  {M : Mm} {K : Int32 → Mm → Prop} (h : f_X12_undo  M K) : gM l D cy 17 ad (shR ad cy) yX12_undo cX12_undo 2 (some .int) 0 0 [.ref (ad 0)] M (gQi D 17 ad (shR ad cy) K) := by
  refine gM.of (own := RX12) (lv := [(0, .ref (ad 0))]) (by decide) rfl hI (Nat.le_of_ble_eq_true rfl) rfl ?_
  intro p e s m below meth c ls H locs X G hl
  have hx := X.1
  have hb := X.2.1
  have hL22 : ∀ (n : Nat) (v1 : Int32) (M : Mm) (H : Heap) (locs : List Loc) (ls : Array Slot), gS D s 17 ad (shR ad cy) H locs M → lv_has ls 2 [(0, .ref (ad 0)), (1, .int (v1))] → l_X12_undo_22 K n v1 M → gWk p l e 0 0 s m ([.ref (ad 0)] : List Value).toArray below meth c H locs (gQi D 17 ad (shR ad cy) K) 17 ad 22 ls [] := by
    intro n22
    induction n22 with
    | zero =>
      intro v1 M H locs ls G hl h
      exact False.elim h
    | succ n22 ih22 =>
      intro v1 M H locs ls G hl h
      rw [l_X12_undo_22] at h
      refine lv_iload_n hx hb dX12_undo_22 rfl (lv_at hl 1 rfl) ?_
      refine lv_bipush (v := (22)) hx hb dX12_undo_23 (by decide) ?_
      refine lv_icmp_ge (tgt := 54) hx hb dX12_undo_25 (by decide) (fun c1 => ?_) (fun c1 => ?_)
      · have h := h.1 c1
        refine lv_aload_n hx hb dX12_undo_54 rfl (lv_at hl 0 rfl) ?_
        refine gf_Model_many X G qw_14_9 dX12_undo_55 ?_
        exact gq_iret X G h dX12_undo_58
      have h := h.2 c1
      refine lv_aload_n hx hb dX12_undo_28 rfl (lv_at hl 0 rfl) ?_
      refine gf_Model_now X G qw_5_15 dX12_undo_29 ?_
      refine lv_iload_n hx hb dX12_undo_32 rfl (lv_at hl 1 rfl) ?_
      refine lv_aload_n hx hb dX12_undo_33 rfl (lv_at hl 0 rfl) ?_
      refine gf_Model_before X G qw_5_17 dX12_undo_34 ?_
      refine lv_bipush (v := (22)) hx hb dX12_undo_37 (by decide) ?_
      refine lv_aload_n hx hb dX12_undo_39 rfl (lv_at hl 0 rfl) ?_
      refine gf_Model_many X G qw_14_9 dX12_undo_40 ?_
      refine lv_imul hx hb dX12_undo_43 ?_
      refine lv_iload_n hx hb dX12_undo_44 rfl (lv_at hl 1 rfl) ?_
      refine lv_iadd hx hb dX12_undo_45 ?_
      obtain ⟨q2, h⟩ := h
      refine gq_iald X G rr_11 q2 dX12_undo_46 ?_
      obtain ⟨q3, h⟩ := h
      refine gq_iast X G rr_9 q3 dX12_undo_47 (fun M4 H locs e5 G => ?_)
      have h := h M4 e5
      refine lv_iinc (v := v1 + 1) (lv' := [(1, .int (v1 + 1)), (0, .ref (ad 0))]) hx hb dX12_undo_48 hl (k := 1) rfl rfl (by decide) rfl (fun ls hl => ?_)
      refine lv_goto (tgt := 22) hx hb dX12_undo_51 (by decide) ?_
      exact ih22 (v1 + 1) M4 H locs ls G  (lv_sub hl [1, 0] rfl) h
  unfold f_X12_undo at h
  refine lv_aload_n hx hb dX12_undo_0 rfl (lv_at hl 0 rfl) ?_
  refine gf_Model_many X G qw_14_9 dX12_undo_1 ?_
  refine lv_if_ne (tgt := 10) hx hb dX12_undo_4 (by decide) (fun c6 => ?_) (fun c6 => ?_)
  · have h := h.2 c6
    refine lv_aload_n hx hb dX12_undo_10 rfl (lv_at hl 0 rfl) ?_
    refine lv_dup hx hb dX12_undo_11 rfl ?_
    refine gf_Model_many X G qw_14_9 dX12_undo_12 ?_
    refine lv_iconst (v := (1)) hx hb dX12_undo_15 (by decide) ?_
    refine lv_isub hx hb dX12_undo_16 ?_
    refine gp_Model_many X G qw_14_9 dX12_undo_17 (fun M7 H locs e8 G => ?_)
    have h := h M7 e8
    refine lv_iconst (v := (0)) hx hb dX12_undo_20 (by decide) ?_
    refine lv_istore_n (lv' := [(1, .int (0)), (0, .ref (ad 0))]) hx hb dX12_undo_21 rfl hl (by decide) rfl (fun ls hl => ?_)
    obtain ⟨n9, h⟩ := h
    exact hL22   n9 (0) M7 H locs ls G  (lv_sub hl [1, 0] rfl) h
  have h := h.1 c6
  refine gq_ldc (v := (-1000002)) X qw_19_14 dX12_undo_7 ?_
  exact gq_iret X G h dX12_undo_9
def l_X12_houseOf_2 (K : Int32 → Mm → Prop) (v1 : Int32) : Nat → Int32 → Mm → Prop
  | 0, _, _ => False
  | n + 1, v2, M => (f_X12_endOf 9 (v2) M (fun r2 M1 => ((((v1 : Int32) < r2 : Prop) → K (v2) M1) ∧ (¬ ((v1 : Int32) < r2 : Prop) → (l_X12_houseOf_2 K v1 n) (v2 + 1) M1))))
def f_X12_houseOf (v1 : Int32) (M : Mm) (K : Int32 → Mm → Prop) : Prop := ∃ z, l_X12_houseOf_2 K (v1) z (0) M
set_option maxHeartbeats 4000000 in
set_option maxRecDepth 100000 in
theorem m_X12_houseOf (hI : gI 17 ad) {v1 : Int32} {M : Mm} {K : Int32 → Mm → Prop} (h : f_X12_houseOf v1 M K) : gM l D cy 17 ad (shR ad cy) yX12_houseOf cX12_houseOf 3 (some .int) 1 22 [.ref (ad 0), .int (v1)] M (gQi D 17 ad (shR ad cy) K) := by
  refine gM.of (own := RX12) (lv := [(0, .ref (ad 0)), (1, .int (v1))]) (by decide) rfl hI (Nat.le_of_ble_eq_true rfl) rfl ?_
  intro p e s m below meth c ls H locs X G hl
  have hx := X.1
  have hb := X.2.1
  have hL2 : ∀ (n : Nat) (v2 : Int32) (M : Mm) (H : Heap) (locs : List Loc) (ls : Array Slot), gS D s 17 ad (shR ad cy) H locs M → lv_has ls 3 [(0, .ref (ad 0)), (1, .int (v1)), (2, .int (v2))] → l_X12_houseOf_2 K v1 n v2 M → gWk p l e 1 22 s m ([.ref (ad 0), .int (v1)] : List Value).toArray below meth c H locs (gQi D 17 ad (shR ad cy) K) 17 ad 2 ls [] := by
    intro n2
    induction n2 with
    | zero =>
      intro v2 M H locs ls G hl h
      exact False.elim h
    | succ n2 ih2 =>
      intro v2 M H locs ls G hl h
      rw [l_X12_houseOf_2] at h
      refine lv_aload_n hx hb dX12_houseOf_2 rfl (lv_at hl 0 rfl) ?_
      refine lv_aload_n hx hb dX12_houseOf_3 rfl (lv_at hl 0 rfl) ?_
      refine gf_Model_now X G qw_5_15 dX12_houseOf_4 ?_
      refine lv_iload_n hx hb dX12_houseOf_7 rfl (lv_at hl 2 rfl) ?_
      refine gq_calli G (gc_V (C := RX12) (rest := []) X hl.1 G (m_X12_endOf hI isC_9 h) cw_X12_endOf qw_20_11 qw_20_12 qw_20_13 ob_Model rfl rfl rfl rfl (Nat.le_of_ble_eq_true rfl) ⟨Nat.le_of_ble_eq_true rfl, Nat.le_of_ble_eq_true rfl⟩ ⟨Nat.le_refl _, Nat.le_refl _⟩ dX12_houseOf_8) (fun r2 M1 H locs G h => ?_)
      refine lv_iload_n hx hb dX12_houseOf_11 rfl (lv_at hl 1 rfl) ?_
      refine lv_icmp_gt (tgt := 21) hx hb dX12_houseOf_12 (by decide) (fun c3 => ?_) (fun c3 => ?_)
      · have h := h.1 c3
        refine lv_iload_n hx hb dX12_houseOf_21 rfl (lv_at hl 2 rfl) ?_
        exact gq_iret X G h dX12_houseOf_22
      have h := h.2 c3
      refine lv_iinc (v := v2 + 1) (lv' := [(2, .int (v2 + 1)), (0, .ref (ad 0)), (1, .int (v1))]) hx hb dX12_houseOf_15 hl (k := 2) rfl rfl (by decide) rfl (fun ls hl => ?_)
      refine lv_goto (tgt := 2) hx hb dX12_houseOf_18 (by decide) ?_
      exact ih2 (v2 + 1) M1 H locs ls G  (lv_sub hl [1, 2, 0] rfl) h
  unfold f_X12_houseOf at h
  refine lv_iconst (v := (0)) hx hb dX12_houseOf_0 (by decide) ?_
  refine lv_istore_n (lv' := [(2, .int (0)), (0, .ref (ad 0)), (1, .int (v1))]) hx hb dX12_houseOf_1 rfl hl (by decide) rfl (fun ls hl => ?_)
  obtain ⟨n4, h⟩ := h
  exact hL2   n4 (0) M H locs ls G  (lv_sub hl [1, 2, 0] rfl) h
def l_X12_cell_82 (K : Int32 → Mm → Prop) (v1 : Int32) : Nat → Int32 → Int32 → Mm → Prop
  | 0, _, _, _ => False
  | n + 1, v3, v4, M => ((((M 7 (3 : Int32).toNatClampNeg : Int32) ≤ v4 : Prop) → K (v3) M) ∧ (¬ ((M 7 (3 : Int32).toNatClampNeg : Int32) ≤ v4 : Prop) → (vp_in (17 + v4) 22 ∧ (f_X12_has (M 9 (17 + v4 : Int32).toNatClampNeg) (v1) M (fun r4 M3 => ((((r4 : Int32) = 0 : Prop) → (l_X12_cell_82 K v1 n) (v3 ||| 0) (v4 + 1) M3) ∧ (¬ ((r4 : Int32) = 0 : Prop) → (l_X12_cell_82 K v1 n) (v3 ||| (1 <<< (v4 &&& 31))) (v4 + 1) M3)))))))
def f_X12_cell (v1 : Int32) (v2 : Int32) (M : Mm) (K : Int32 → Mm → Prop) : Prop := (f_X12_isCell (v1) M (fun r7 M6 => ((((r7 : Int32) = 0 : Prop) → K (-1000001) M6) ∧ (¬ ((r7 : Int32) = 0 : Prop) → (((v2 : Int32) = 0 → (vp_in (4 + v1) 33 ∧ K (M6 7 (4 + v1 : Int32).toNatClampNeg) M6)) ∧ (¬ (v2 : Int32) = 0 → (((v2 : Int32) = 1 → (f_X12_has (M6 9 (6 : Int32).toNatClampNeg) (v1) M6 (fun r13 M12 => ((((r13 : Int32) = 0 : Prop) → K (0) M12) ∧ (¬ ((r13 : Int32) = 0 : Prop) → K (1) M12))))) ∧ (¬ (v2 : Int32) = 1 → (((v2 : Int32) = 2 → (f_X12_houseOf (v1) M6 (fun r17 M16 => K (r17) M16))) ∧ (¬ (v2 : Int32) = 2 → (((v2 : Int32) = 3 → ∃ z, l_X12_cell_82 K (v1) z (0) (0) M6) ∧ (¬ (v2 : Int32) = 3 → K (-1000001) M6))))))))))))
set_option maxHeartbeats 4000000 in
set_option maxRecDepth 100000 in
theorem m_X12_cell (hI : gI 17 ad) {v1 : Int32} {v2 : Int32} {M : Mm} {K : Int32 → Mm → Prop} (h : f_X12_cell v1 v2 M K) : gM l D cy 17 ad (shR ad cy) yX12_cell cX12_cell 5 (some .int) 2 44 [.ref (ad 0), .int (v1), .int (v2)] M (gQi D 17 ad (shR ad cy) K) := by
  refine gM.of (own := RX12) (lv := [(0, .ref (ad 0)), (1, .int (v1)), (2, .int (v2))]) (by decide) rfl hI (Nat.le_of_ble_eq_true rfl) rfl ?_
  intro p e s m below meth c ls H locs X G hl
  have hx := X.1
  have hb := X.2.1
  have hL82 : ∀ (n : Nat) (v3 : Int32) (v4 : Int32) (M : Mm) (H : Heap) (locs : List Loc) (ls : Array Slot), gS D s 17 ad (shR ad cy) H locs M → lv_has ls 5 [(0, .ref (ad 0)), (1, .int (v1)), (3, .int (v3)), (4, .int (v4))] → l_X12_cell_82 K v1 n v3 v4 M → gWk p l e 2 44 s m ([.ref (ad 0), .int (v1), .int (v2)] : List Value).toArray below meth c H locs (gQi D 17 ad (shR ad cy) K) 17 ad 82 ls [] := by
    intro n82
    induction n82 with
    | zero =>
      intro v3 v4 M H locs ls G hl h
      exact False.elim h
    | succ n82 ih82 =>
      intro v3 v4 M H locs ls G hl h
      rw [l_X12_cell_82] at h
      refine lv_iload hx hb dX12_cell_82 (lv_at hl 3 rfl) ?_
      refine lv_aload_n hx hb dX12_cell_84 rfl (lv_at hl 0 rfl) ?_
      refine gf_Model_told X G qw_5_13 dX12_cell_85 ?_
      refine lv_iconst (v := (3)) hx hb dX12_cell_88 (by decide) ?_
      refine gq_iald X G rr_7 (by unfold vp_in; decide) dX12_cell_89 ?_
      refine lv_icmp_ge (tgt := 127) hx hb dX12_cell_90 (by decide) (fun c1 => ?_) (fun c1 => ?_)
      · have h := h.1 c1
        refine lv_iload_n hx hb dX12_cell_127 rfl (lv_at hl 2 rfl) ?_
        exact gq_iret X G h dX12_cell_128
      have h := h.2 c1
      refine lv_iload_n hx hb dX12_cell_93 rfl (lv_at hl 2 rfl) ?_
      refine lv_aload_n hx hb dX12_cell_94 rfl (lv_at hl 0 rfl) ?_
      refine gf_Model_now X G qw_5_15 dX12_cell_95 ?_
      refine lv_bipush (v := (17)) hx hb dX12_cell_98 (by decide) ?_
      refine lv_iload hx hb dX12_cell_100 (lv_at hl 3 rfl) ?_
      refine lv_iadd hx hb dX12_cell_102 ?_
      obtain ⟨q2, h⟩ := h
      refine gq_iald X G rr_9 q2 dX12_cell_103 ?_
      refine lv_iload_n hx hb dX12_cell_104 rfl (lv_at hl 1 rfl) ?_
      refine gq_calli G (gc_S (rest := [.int (v3)]) X hl.1 G (m_X12_has hI  h) cw_X12_has qw_22_10 qw_22_11 rfl rfl (Nat.le_of_ble_eq_true rfl) ⟨Nat.le_of_ble_eq_true rfl, Nat.le_of_ble_eq_true rfl⟩ ⟨Nat.le_refl _, Nat.le_refl _⟩ dX12_cell_105) (fun r4 M3 H locs G h => ?_)
      refine lv_if_eq (tgt := 118) hx hb dX12_cell_108 (by decide) (fun c5 => ?_) (fun c5 => ?_)
      · have h := h.1 c5
        refine lv_iconst (v := (0)) hx hb dX12_cell_118 (by decide) ?_
        refine lv_ior hx hb dX12_cell_119 ?_
        refine lv_istore_n (lv' := [(3, .int (v3 ||| 0)), (0, .ref (ad 0)), (1, .int (v1)), (4, .int (v4))]) hx hb dX12_cell_120 rfl hl (by decide) rfl (fun ls hl => ?_)
        refine lv_iinc (v := v4 + 1) (lv' := [(4, .int (v4 + 1)), (3, .int (v3 ||| 0)), (0, .ref (ad 0)), (1, .int (v1))]) hx hb dX12_cell_121 hl (k := 3) rfl rfl (by decide) rfl (fun ls hl => ?_)
        refine lv_goto (tgt := 82) hx hb dX12_cell_124 (by decide) ?_
        exact ih82 (v3 ||| 0) (v4 + 1) M3 H locs ls G  (lv_sub hl [2, 3, 1, 0] rfl) h
      have h := h.2 c5
      refine lv_iconst (v := (1)) hx hb dX12_cell_111 (by decide) ?_
      refine lv_iload hx hb dX12_cell_112 (lv_at hl 3 rfl) ?_
      refine lv_ishl hx hb dX12_cell_114 ?_
      refine lv_goto (tgt := 119) hx hb dX12_cell_115 (by decide) ?_
      refine lv_ior hx hb dX12_cell_119 ?_
      refine lv_istore_n (lv' := [(3, .int (v3 ||| (1 <<< (v4 &&& 31)))), (0, .ref (ad 0)), (1, .int (v1)), (4, .int (v4))]) hx hb dX12_cell_120 rfl hl (by decide) rfl (fun ls hl => ?_)
      refine lv_iinc (v := v4 + 1) (lv' := [(4, .int (v4 + 1)), (3, .int (v3 ||| (1 <<< (v4 &&& 31)))), (0, .ref (ad 0)), (1, .int (v1))]) hx hb dX12_cell_121 hl (k := 3) rfl rfl (by decide) rfl (fun ls hl => ?_)
      refine lv_goto (tgt := 82) hx hb dX12_cell_124 (by decide) ?_
      exact ih82 (v3 ||| (1 <<< (v4 &&& 31))) (v4 + 1) M3 H locs ls G  (lv_sub hl [2, 3, 1, 0] rfl) h
  unfold f_X12_cell at h
  refine lv_aload_n hx hb dX12_cell_0 rfl (lv_at hl 0 rfl) ?_
  refine lv_iload_n hx hb dX12_cell_1 rfl (lv_at hl 1 rfl) ?_
  refine gq_calli G (gc_V (C := RX12) (rest := []) X hl.1 G (m_X12_isCell hI  h) cw_X12_isCell qw_22_6 qw_22_7 qw_22_8 ob_Model rfl rfl rfl rfl (Nat.le_of_ble_eq_true rfl) ⟨Nat.le_of_ble_eq_true rfl, Nat.le_of_ble_eq_true rfl⟩ ⟨Nat.le_refl _, Nat.le_refl _⟩ dX12_cell_2) (fun r7 M6 H locs G h => ?_)
  refine lv_if_ne (tgt := 11) hx hb dX12_cell_5 (by decide) (fun c8 => ?_) (fun c8 => ?_)
  · have h := h.2 c8
    refine lv_iconst (v := (0)) hx hb dX12_cell_11 (by decide) ?_
    refine lv_istore_n (lv' := [(3, .int (0)), (0, .ref (ad 0)), (1, .int (v1)), (2, .int (v2))]) hx hb dX12_cell_12 rfl hl (by decide) rfl (fun ls hl => ?_)
    refine lv_iload_n hx hb dX12_cell_13 rfl (lv_at hl 3 rfl) ?_
    by_cases c9 : (v2 : Int32) = 0
    · refine gq_tabIn (v := 0) (tgt := 44) hx hb dX12_cell_14 c9 (by decide) (by decide) rfl (by decide) ?_
      have h := h.1 c9
      refine lv_aload_n hx hb dX12_cell_44 rfl (lv_at hl 1 rfl) ?_
      refine gf_Model_told X G qw_5_13 dX12_cell_45 ?_
      refine lv_iconst (v := (4)) hx hb dX12_cell_48 (by decide) ?_
      refine lv_iload_n hx hb dX12_cell_49 rfl (lv_at hl 2 rfl) ?_
      refine lv_iadd hx hb dX12_cell_50 ?_
      obtain ⟨q10, h⟩ := h
      refine gq_iald X G rr_7 q10 dX12_cell_51 ?_
      exact gq_iret X G h dX12_cell_52
    have h := h.2 c9
    by_cases c11 : (v2 : Int32) = 1
    · refine gq_tabIn (v := 1) (tgt := 53) hx hb dX12_cell_14 c11 (by decide) (by decide) rfl (by decide) ?_
      have h := h.1 c11
      refine lv_aload_n hx hb dX12_cell_53 rfl (lv_at hl 1 rfl) ?_
      refine gf_Model_now X G qw_5_15 dX12_cell_54 ?_
      refine lv_bipush (v := (6)) hx hb dX12_cell_57 (by decide) ?_
      refine gq_iald X G rr_9 (by unfold vp_in; decide) dX12_cell_59 ?_
      refine lv_iload_n hx hb dX12_cell_60 rfl (lv_at hl 2 rfl) ?_
      refine gq_calli G (gc_S (rest := []) X hl.1 G (m_X12_has hI  h) cw_X12_has qw_22_10 qw_22_11 rfl rfl (Nat.le_of_ble_eq_true rfl) ⟨Nat.le_of_ble_eq_true rfl, Nat.le_of_ble_eq_true rfl⟩ ⟨Nat.le_refl _, Nat.le_refl _⟩ dX12_cell_61) (fun r13 M12 H locs G h => ?_)
      refine lv_if_eq (tgt := 71) hx hb dX12_cell_64 (by decide) (fun c14 => ?_) (fun c14 => ?_)
      · have h := h.1 c14
        refine lv_iconst (v := (0)) hx hb dX12_cell_71 (by decide) ?_
        exact gq_iret X G h dX12_cell_72
      have h := h.2 c14
      refine lv_iconst (v := (1)) hx hb dX12_cell_67 (by decide) ?_
      refine lv_goto (tgt := 72) hx hb dX12_cell_68 (by decide) ?_
      exact gq_iret X G h dX12_cell_72
    have h := h.2 c11
    by_cases c15 : (v2 : Int32) = 2
    · refine gq_tabIn (v := 2) (tgt := 73) hx hb dX12_cell_14 c15 (by decide) (by decide) rfl (by decide) ?_
      have h := h.1 c15
      refine lv_aload_n hx hb dX12_cell_73 rfl (lv_at hl 1 rfl) ?_
      refine lv_iload_n hx hb dX12_cell_74 rfl (lv_at hl 2 rfl) ?_
      refine gq_calli G (gc_V (C := RX12) (rest := []) X hl.1 G (m_X12_houseOf hI  h) cw_X12_houseOf qw_24_12 qw_24_13 qw_24_14 ob_Model rfl rfl rfl rfl (Nat.le_of_ble_eq_true rfl) ⟨Nat.le_of_ble_eq_true rfl, Nat.le_of_ble_eq_true rfl⟩ ⟨Nat.le_refl _, Nat.le_refl _⟩ dX12_cell_75) (fun r17 M16 H locs G h => ?_)
      exact gq_iret X G h dX12_cell_78
    have h := h.2 c15
    by_cases c18 : (v2 : Int32) = 3
    · refine gq_tabIn (v := 3) (tgt := 79) hx hb dX12_cell_14 c18 (by decide) (by decide) rfl (by decide) ?_
      have h := h.1 c18
      refine lv_iconst (v := (0)) hx hb dX12_cell_79 (by decide) ?_
      refine lv_istore (lv' := [(4, .int (0)), (3, .int (0)), (0, .ref (ad 0)), (1, .int (v1)), (2, .int (v2))]) hx hb dX12_cell_80 hl (by decide) rfl (fun ls hl => ?_)
      obtain ⟨n19, h⟩ := h
      exact hL82   n19 (0) (0) M6 H locs ls G  (lv_sub hl [2, 3, 1, 0] rfl) h
    have h := h.2 c18
    refine lv_tableOut (tgt := 129) hx hb dX12_cell_14 (by have := gq_ne (v := 0) (z := 0) c9 rfl; have := gq_ne (v := 1) (z := 1) c11 rfl; have := gq_ne (v := 2) (z := 2) c15 rfl; have := gq_ne (v := 3) (z := 3) c18 rfl; omega) (by decide) ?_
    refine gq_ldc (v := (-1000001)) X qw_7_8 dX12_cell_129 ?_
    exact gq_iret X G h dX12_cell_131
  have h := h.1 c8
  refine gq_ldc (v := (-1000001)) X qw_7_8 dX12_cell_8 ?_
  exact gq_iret X G h dX12_cell_10
def l_X12_house_73 (K : Int32 → Mm → Prop) (v1 : Int32) : Nat → Int32 → Int32 → Mm → Prop
  | 0, _, _, _ => False
  | n + 1, v3, v4, M => ((((M 7 (3 : Int32).toNatClampNeg : Int32) ≤ v4 : Prop) → K (v3) M) ∧ (¬ ((M 7 (3 : Int32).toNatClampNeg : Int32) ≤ v4 : Prop) → (vp_in (7 + v4) 22 ∧ ((((M 9 (7 + v4 : Int32).toNatClampNeg : Int32) = v1 : Prop) → (l_X12_house_73 K v1 n) (v3 ||| (1 <<< (v4 &&& 31))) (v4 + 1) M) ∧ (¬ ((M 9 (7 + v4 : Int32).toNatClampNeg : Int32) = v1 : Prop) → (l_X12_house_73 K v1 n) (v3 ||| 0) (v4 + 1) M)))))
def f_X12_house (v1 : Int32) (v2 : Int32) (M : Mm) (K : Int32 → Mm → Prop) : Prop := (f_X12_isHouse (v1) M (fun r5 M4 => ((((r5 : Int32) = 0 : Prop) → K (-1000001) M4) ∧ (¬ ((r5 : Int32) = 0 : Prop) → (((v2 : Int32) = 0 → (f_X12_firstOf 9 (v1) M4 (fun r9 M8 => K (r9) M8))) ∧ (¬ (v2 : Int32) = 0 → (((v2 : Int32) = 1 → (f_X12_endOf 9 (v1) M4 (fun r12 M11 => (f_X12_firstOf 9 (v1) M11 (fun r14 M13 => K (r12 - r14) M13))))) ∧ (¬ (v2 : Int32) = 1 → (((v2 : Int32) = 2 → ∃ z, l_X12_house_73 K (v1) z (0) (0) M4) ∧ (¬ (v2 : Int32) = 2 → K (-1000001) M4))))))))))
set_option maxHeartbeats 4000000 in
set_option maxRecDepth 100000 in
theorem m_X12_house (hI : gI 17 ad) {v1 : Int32} {v2 : Int32} {M : Mm} {K : Int32 → Mm → Prop} (h : f_X12_house v1 v2 M K) : gM l D cy 17 ad (shR ad cy) yX12_house cX12_house 5 (some .int) 2 43 [.ref (ad 0), .int (v1), .int (v2)] M (gQi D 17 ad (shR ad cy) K) := by
  refine gM.of (own := RX12) (lv := [(0, .ref (ad 0)), (1, .int (v1)), (2, .int (v2))]) (by decide) rfl hI (Nat.le_of_ble_eq_true rfl) rfl ?_
  intro p e s m below meth c ls H locs X G hl
  have hx := X.1
  have hb := X.2.1
  have hL73 : ∀ (n : Nat) (v3 : Int32) (v4 : Int32) (M : Mm) (H : Heap) (locs : List Loc) (ls : Array Slot), gS D s 17 ad (shR ad cy) H locs M → lv_has ls 5 [(0, .ref (ad 0)), (1, .int (v1)), (3, .int (v3)), (4, .int (v4))] → l_X12_house_73 K v1 n v3 v4 M → gWk p l e 2 43 s m ([.ref (ad 0), .int (v1), .int (v2)] : List Value).toArray below meth c H locs (gQi D 17 ad (shR ad cy) K) 17 ad 73 ls [] := by
    intro n73
    induction n73 with
    | zero =>
      intro v3 v4 M H locs ls G hl h
      exact False.elim h
    | succ n73 ih73 =>
      intro v3 v4 M H locs ls G hl h
      rw [l_X12_house_73] at h
      refine lv_iload hx hb dX12_house_73 (lv_at hl 3 rfl) ?_
      refine lv_aload_n hx hb dX12_house_75 rfl (lv_at hl 0 rfl) ?_
      refine gf_Model_told X G qw_5_13 dX12_house_76 ?_
      refine lv_iconst (v := (3)) hx hb dX12_house_79 (by decide) ?_
      refine gq_iald X G rr_7 (by unfold vp_in; decide) dX12_house_80 ?_
      refine lv_icmp_ge (tgt := 115) hx hb dX12_house_81 (by decide) (fun c1 => ?_) (fun c1 => ?_)
      · have h := h.1 c1
        refine lv_iload_n hx hb dX12_house_115 rfl (lv_at hl 2 rfl) ?_
        exact gq_iret X G h dX12_house_116
      have h := h.2 c1
      refine lv_iload_n hx hb dX12_house_84 rfl (lv_at hl 2 rfl) ?_
      refine lv_aload_n hx hb dX12_house_85 rfl (lv_at hl 0 rfl) ?_
      refine gf_Model_now X G qw_5_15 dX12_house_86 ?_
      refine lv_bipush (v := (7)) hx hb dX12_house_89 (by decide) ?_
      refine lv_iload hx hb dX12_house_91 (lv_at hl 3 rfl) ?_
      refine lv_iadd hx hb dX12_house_93 ?_
      obtain ⟨q2, h⟩ := h
      refine gq_iald X G rr_9 q2 dX12_house_94 ?_
      refine lv_iload_n hx hb dX12_house_95 rfl (lv_at hl 1 rfl) ?_
      refine lv_icmp_ne (tgt := 106) hx hb dX12_house_96 (by decide) (fun c3 => ?_) (fun c3 => ?_)
      · have h := h.2 c3
        refine lv_iconst (v := (0)) hx hb dX12_house_106 (by decide) ?_
        refine lv_ior hx hb dX12_house_107 ?_
        refine lv_istore_n (lv' := [(3, .int (v3 ||| 0)), (0, .ref (ad 0)), (1, .int (v1)), (4, .int (v4))]) hx hb dX12_house_108 rfl hl (by decide) rfl (fun ls hl => ?_)
        refine lv_iinc (v := v4 + 1) (lv' := [(4, .int (v4 + 1)), (3, .int (v3 ||| 0)), (0, .ref (ad 0)), (1, .int (v1))]) hx hb dX12_house_109 hl (k := 3) rfl rfl (by decide) rfl (fun ls hl => ?_)
        refine lv_goto (tgt := 73) hx hb dX12_house_112 (by decide) ?_
        exact ih73 (v3 ||| 0) (v4 + 1) M H locs ls G  (lv_sub hl [2, 3, 1, 0] rfl) h
      have h := h.1 c3
      refine lv_iconst (v := (1)) hx hb dX12_house_99 (by decide) ?_
      refine lv_iload hx hb dX12_house_100 (lv_at hl 3 rfl) ?_
      refine lv_ishl hx hb dX12_house_102 ?_
      refine lv_goto (tgt := 107) hx hb dX12_house_103 (by decide) ?_
      refine lv_ior hx hb dX12_house_107 ?_
      refine lv_istore_n (lv' := [(3, .int (v3 ||| (1 <<< (v4 &&& 31)))), (0, .ref (ad 0)), (1, .int (v1)), (4, .int (v4))]) hx hb dX12_house_108 rfl hl (by decide) rfl (fun ls hl => ?_)
      refine lv_iinc (v := v4 + 1) (lv' := [(4, .int (v4 + 1)), (3, .int (v3 ||| (1 <<< (v4 &&& 31)))), (0, .ref (ad 0)), (1, .int (v1))]) hx hb dX12_house_109 hl (k := 3) rfl rfl (by decide) rfl (fun ls hl => ?_)
      refine lv_goto (tgt := 73) hx hb dX12_house_112 (by decide) ?_
      exact ih73 (v3 ||| (1 <<< (v4 &&& 31))) (v4 + 1) M H locs ls G  (lv_sub hl [2, 3, 1, 0] rfl) h
  unfold f_X12_house at h
  refine lv_aload_n hx hb dX12_house_0 rfl (lv_at hl 0 rfl) ?_
  refine lv_iload_n hx hb dX12_house_1 rfl (lv_at hl 1 rfl) ?_
  refine gq_calli G (gc_V (C := RX12) (rest := []) X hl.1 G (m_X12_isHouse hI  h) cw_X12_isHouse qw_23_7 qw_23_8 qw_23_9 ob_Model rfl rfl rfl rfl (Nat.le_of_ble_eq_true rfl) ⟨Nat.le_of_ble_eq_true rfl, Nat.le_of_ble_eq_true rfl⟩ ⟨Nat.le_refl _, Nat.le_refl _⟩ dX12_house_2) (fun r5 M4 H locs G h => ?_)
  refine lv_if_ne (tgt := 11) hx hb dX12_house_5 (by decide) (fun c6 => ?_) (fun c6 => ?_)
  · have h := h.2 c6
    refine lv_iconst (v := (0)) hx hb dX12_house_11 (by decide) ?_
    refine lv_istore_n (lv' := [(3, .int (0)), (0, .ref (ad 0)), (1, .int (v1)), (2, .int (v2))]) hx hb dX12_house_12 rfl hl (by decide) rfl (fun ls hl => ?_)
    refine lv_iload_n hx hb dX12_house_13 rfl (lv_at hl 3 rfl) ?_
    by_cases c7 : (v2 : Int32) = 0
    · refine gq_tabIn (v := 0) (tgt := 40) hx hb dX12_house_14 c7 (by decide) (by decide) rfl (by decide) ?_
      have h := h.1 c7
      refine lv_aload_n hx hb dX12_house_40 rfl (lv_at hl 1 rfl) ?_
      refine lv_aload_n hx hb dX12_house_41 rfl (lv_at hl 1 rfl) ?_
      refine gf_Model_now X G qw_5_15 dX12_house_42 ?_
      refine lv_iload_n hx hb dX12_house_45 rfl (lv_at hl 2 rfl) ?_
      refine gq_calli G (gc_V (C := RX12) (rest := []) X hl.1 G (m_X12_firstOf hI isC_9 h) cw_X12_firstOf qw_20_7 qw_20_8 qw_20_9 ob_Model rfl rfl rfl rfl (Nat.le_of_ble_eq_true rfl) ⟨Nat.le_of_ble_eq_true rfl, Nat.le_of_ble_eq_true rfl⟩ ⟨Nat.le_refl _, Nat.le_refl _⟩ dX12_house_46) (fun r9 M8 H locs G h => ?_)
      exact gq_iret X G h dX12_house_49
    have h := h.2 c7
    by_cases c10 : (v2 : Int32) = 1
    · refine gq_tabIn (v := 1) (tgt := 50) hx hb dX12_house_14 c10 (by decide) (by decide) rfl (by decide) ?_
      have h := h.1 c10
      refine lv_aload_n hx hb dX12_house_50 rfl (lv_at hl 1 rfl) ?_
      refine lv_aload_n hx hb dX12_house_51 rfl (lv_at hl 1 rfl) ?_
      refine gf_Model_now X G qw_5_15 dX12_house_52 ?_
      refine lv_iload_n hx hb dX12_house_55 rfl (lv_at hl 2 rfl) ?_
      refine gq_calli G (gc_V (C := RX12) (rest := []) X hl.1 G (m_X12_endOf hI isC_9 h) cw_X12_endOf qw_20_11 qw_20_12 qw_20_13 ob_Model rfl rfl rfl rfl (Nat.le_of_ble_eq_true rfl) ⟨Nat.le_of_ble_eq_true rfl, Nat.le_of_ble_eq_true rfl⟩ ⟨Nat.le_refl _, Nat.le_refl _⟩ dX12_house_56) (fun r12 M11 H locs G h => ?_)
      refine lv_aload_n hx hb dX12_house_59 rfl (lv_at hl 1 rfl) ?_
      refine lv_aload_n hx hb dX12_house_60 rfl (lv_at hl 1 rfl) ?_
      refine gf_Model_now X G qw_5_15 dX12_house_61 ?_
      refine lv_iload_n hx hb dX12_house_64 rfl (lv_at hl 2 rfl) ?_
      refine gq_calli G (gc_V (C := RX12) (rest := [.int (r12)]) X hl.1 G (m_X12_firstOf hI isC_9 h) cw_X12_firstOf qw_20_7 qw_20_8 qw_20_9 ob_Model rfl rfl rfl rfl (Nat.le_of_ble_eq_true rfl) ⟨Nat.le_of_ble_eq_true rfl, Nat.le_of_ble_eq_true rfl⟩ ⟨Nat.le_refl _, Nat.le_refl _⟩ dX12_house_65) (fun r14 M13 H locs G h => ?_)
      refine lv_isub hx hb dX12_house_68 ?_
      exact gq_iret X G h dX12_house_69
    have h := h.2 c10
    by_cases c15 : (v2 : Int32) = 2
    · refine gq_tabIn (v := 2) (tgt := 70) hx hb dX12_house_14 c15 (by decide) (by decide) rfl (by decide) ?_
      have h := h.1 c15
      refine lv_iconst (v := (0)) hx hb dX12_house_70 (by decide) ?_
      refine lv_istore (lv' := [(4, .int (0)), (3, .int (0)), (0, .ref (ad 0)), (1, .int (v1)), (2, .int (v2))]) hx hb dX12_house_71 hl (by decide) rfl (fun ls hl => ?_)
      obtain ⟨n16, h⟩ := h
      exact hL73   n16 (0) (0) M4 H locs ls G  (lv_sub hl [2, 3, 1, 0] rfl) h
    have h := h.2 c15
    refine lv_tableOut (tgt := 117) hx hb dX12_house_14 (by have := gq_ne (v := 0) (z := 0) c7 rfl; have := gq_ne (v := 1) (z := 1) c10 rfl; have := gq_ne (v := 2) (z := 2) c15 rfl; omega) (by decide) ?_
    refine gq_ldc (v := (-1000001)) X qw_7_8 dX12_house_117 ?_
    exact gq_iret X G h dX12_house_119
  have h := h.1 c6
  refine gq_ldc (v := (-1000001)) X qw_7_8 dX12_house_8 ?_
  exact gq_iret X G h dX12_house_10
def f_X12_goesOn_76 (K : Int32 → Mm → Prop) (k5 : Int32 → Int32 → Mm → Prop) (k22 : Int32 → Int32 → Mm → Prop) (v1 : Int32) (v2 : Int32) (v4 : Int32) (v5 : Int32) (M : Mm) : Prop := k22 (1) (v5 + v2) M
def l_X12_goesOn_22 (K : Int32 → Mm → Prop) (k5 : Int32 → Int32 → Mm → Prop) (v1 : Int32) (v2 : Int32) (v4 : Int32) : Nat → Int32 → Int32 → Mm → Prop
  | 0, _, _, _ => False
  | n + 1, v3, v5, M => ((((M 7 (0 : Int32).toNatClampNeg : Int32) ≤ v5 : Prop) → k5 (v3) (v4 + 1) M) ∧ (¬ ((M 7 (0 : Int32).toNatClampNeg : Int32) ≤ v5 : Prop) → ((((v3 : Int32) = 0 : Prop) → (l_X12_goesOn_22 K k5 v1 v2 v4 n) (0) (v5 + v2) M) ∧ (¬ ((v3 : Int32) = 0 : Prop) → (f_X12_has (v1) (v4) M (fun r4 M3 => ((((r4 : Int32) = 0 : Prop) → f_X12_goesOn_76 K k5 (fun a0 a1 a => (l_X12_goesOn_22 K k5 v1 v2 v4 n) a0 a1 a) (v1) (v2) (v4) (v5) M3) ∧ (¬ ((r4 : Int32) = 0 : Prop) → (f_X12_has (v1) (v5) M3 (fun r7 M6 => ((((r7 : Int32) = 0 : Prop) → f_X12_goesOn_76 K k5 (fun a0 a1 a => (l_X12_goesOn_22 K k5 v1 v2 v4 n) a0 a1 a) (v1) (v2) (v4) (v5) M6) ∧ (¬ ((r7 : Int32) = 0 : Prop) → (vp_in (4 + v4) 33 ∧ (vp_in (4 + v5) 33 ∧ ((((M6 7 (4 + v4 : Int32).toNatClampNeg : Int32) = M6 7 (4 + v5 : Int32).toNatClampNeg : Prop) → f_X12_goesOn_76 K k5 (fun a0 a1 a => (l_X12_goesOn_22 K k5 v1 v2 v4 n) a0 a1 a) (v1) (v2) (v4) (v5) M6) ∧ (¬ ((M6 7 (4 + v4 : Int32).toNatClampNeg : Int32) = M6 7 (4 + v5 : Int32).toNatClampNeg : Prop) → (l_X12_goesOn_22 K k5 v1 v2 v4 n) (0) (v5 + v2) M6))))))))))))))))
def l_X12_goesOn_5 (K : Int32 → Mm → Prop) (v1 : Int32) (v2 : Int32) : Nat → Int32 → Int32 → Mm → Prop
  | 0, _, _, _ => False
  | n + 1, v3, v4, M => ((((M 7 (0 : Int32).toNatClampNeg : Int32) ≤ v4 : Prop) → ((v3 = 0 ∨ v3 = 1) ∧ K (v3) M)) ∧ (¬ ((M 7 (0 : Int32).toNatClampNeg : Int32) ≤ v4 : Prop) → ∃ z, l_X12_goesOn_22 K (fun a0 a1 a => (l_X12_goesOn_5 K v1 v2 n) a0 a1 a) (v1) (v2) (v4) z (v3) (v4 + v2) M))
def f_X12_goesOn (v1 : Int32) (v2 : Int32) (M : Mm) (K : Int32 → Mm → Prop) : Prop := ∃ z, l_X12_goesOn_5 K (v1) (v2) z (1) (0) M
set_option maxHeartbeats 4000000 in
set_option maxRecDepth 100000 in
theorem m_X12_goesOn (hI : gI 17 ad) {v1 : Int32} {v2 : Int32} {M : Mm} {K : Int32 → Mm → Prop} (h : f_X12_goesOn v1 v2 M K) : gM l D cy 17 ad (shR ad cy) yX12_goesOn cX12_goesOn 6 (some .boolean) 1 21 [.ref (ad 0), .int (v1), .int (v2)] M (gQi D 17 ad (shR ad cy) K) := by
  refine gM.of (own := RX12) (lv := [(0, .ref (ad 0)), (1, .int (v1)), (2, .int (v2))]) (by decide) rfl hI (Nat.le_of_ble_eq_true rfl) rfl ?_
  intro p e s m below meth c ls H locs X G hl
  have hx := X.1
  have hb := X.2.1
  have hL5 : ∀ (n : Nat) (v3 : Int32) (v4 : Int32) (M : Mm) (H : Heap) (locs : List Loc) (ls : Array Slot), gS D s 17 ad (shR ad cy) H locs M → lv_has ls 6 [(0, .ref (ad 0)), (1, .int (v1)), (2, .int (v2)), (3, .int (v3)), (4, .int (v4))] → l_X12_goesOn_5 K v1 v2 n v3 v4 M → gWk p l e 1 21 s m ([.ref (ad 0), .int (v1), .int (v2)] : List Value).toArray below meth c H locs (gQi D 17 ad (shR ad cy) K) 17 ad 5 ls [] := by
    intro n5
    induction n5 with
    | zero =>
      intro v3 v4 M H locs ls G hl h
      exact False.elim h
    | succ n5 ih5 =>
      have hL22 : ∀ (v4 : Int32) (n : Nat) (v3 : Int32) (v5 : Int32) (M : Mm) (H : Heap) (locs : List Loc) (ls : Array Slot), gS D s 17 ad (shR ad cy) H locs M → lv_has ls 6 [(0, .ref (ad 0)), (1, .int (v1)), (2, .int (v2)), (3, .int (v3)), (4, .int (v4)), (5, .int (v5))] → l_X12_goesOn_22 K (fun a0 a1 a => (l_X12_goesOn_5 K v1 v2 n5) a0 a1 a) v1 v2 v4 n v3 v5 M → gWk p l e 1 21 s m ([.ref (ad 0), .int (v1), .int (v2)] : List Value).toArray below meth c H locs (gQi D 17 ad (shR ad cy) K) 17 ad 22 ls [] := by
        intro v4 n22
        induction n22 with
        | zero =>
          intro v3 v5 M H locs ls G hl h
          exact False.elim h
        | succ n22 ih22 =>
          have hJ76 : ∀ (v5 : Int32) (M : Mm) (H : Heap) (locs : List Loc) (ls : Array Slot), gS D s 17 ad (shR ad cy) H locs M → lv_has ls 6 [(0, .ref (ad 0)), (1, .int (v1)), (2, .int (v2)), (4, .int (v4)), (5, .int (v5))] → f_X12_goesOn_76 K (fun a0 a1 a => (l_X12_goesOn_5 K v1 v2 n5) a0 a1 a) (fun a0 a1 a => (l_X12_goesOn_22 K (fun a0 a1 a => (l_X12_goesOn_5 K v1 v2 n5) a0 a1 a) v1 v2 v4 n22) a0 a1 a) v1 v2 v4 v5 M → gWk p l e 1 21 s m ([.ref (ad 0), .int (v1), .int (v2)] : List Value).toArray below meth c H locs (gQi D 17 ad (shR ad cy) K) 17 ad 76 ls [] := by
            intro v5 M H locs ls G hl h
            unfold f_X12_goesOn_76 at h
            refine lv_iconst (v := (1)) hx hb dX12_goesOn_76 (by decide) ?_
            refine lv_goto (tgt := 81) hx hb dX12_goesOn_77 (by decide) ?_
            refine lv_istore_n (lv' := [(3, .int (1)), (0, .ref (ad 0)), (1, .int (v1)), (2, .int (v2)), (4, .int (v4)), (5, .int (v5))]) hx hb dX12_goesOn_81 rfl hl (by decide) rfl (fun ls hl => ?_)
            refine lv_iload hx hb dX12_goesOn_82 (lv_at hl 5 rfl) ?_
            refine lv_iload_n hx hb dX12_goesOn_84 rfl (lv_at hl 3 rfl) ?_
            refine lv_iadd hx hb dX12_goesOn_85 ?_
            refine lv_istore (lv' := [(5, .int (v5 + v2)), (3, .int (1)), (0, .ref (ad 0)), (1, .int (v1)), (2, .int (v2)), (4, .int (v4))]) hx hb dX12_goesOn_86 hl (by decide) rfl (fun ls hl => ?_)
            refine lv_goto (tgt := 22) hx hb dX12_goesOn_88 (by decide) ?_
            exact ih22 (1) (v5 + v2) M H locs ls G  (lv_sub hl [2, 3, 4, 1, 5, 0] rfl) h
          intro v3 v5 M H locs ls G hl h
          rw [l_X12_goesOn_22] at h
          refine lv_iload hx hb dX12_goesOn_22 (lv_at hl 5 rfl) ?_
          refine lv_aload_n hx hb dX12_goesOn_24 rfl (lv_at hl 0 rfl) ?_
          refine gf_Model_told X G qw_5_13 dX12_goesOn_25 ?_
          refine lv_iconst (v := (0)) hx hb dX12_goesOn_28 (by decide) ?_
          refine gq_iald X G rr_7 (by unfold vp_in; decide) dX12_goesOn_29 ?_
          refine lv_icmp_ge (tgt := 91) hx hb dX12_goesOn_30 (by decide) (fun c1 => ?_) (fun c1 => ?_)
          · have h := h.1 c1
            refine lv_iinc (v := v4 + 1) (lv' := [(4, .int (v4 + 1)), (0, .ref (ad 0)), (1, .int (v1)), (2, .int (v2)), (3, .int (v3)), (5, .int (v5))]) hx hb dX12_goesOn_91 hl (k := 4) rfl rfl (by decide) rfl (fun ls hl => ?_)
            refine lv_goto (tgt := 5) hx hb dX12_goesOn_94 (by decide) ?_
            exact ih5 (v3) (v4 + 1) M H locs ls G  (lv_sub hl [1, 2, 3, 4, 0] rfl) h
          have h := h.2 c1
          refine lv_iload_n hx hb dX12_goesOn_33 rfl (lv_at hl 3 rfl) ?_
          refine lv_if_eq (tgt := 80) hx hb dX12_goesOn_34 (by decide) (fun c2 => ?_) (fun c2 => ?_)
          · have h := h.1 c2
            refine lv_iconst (v := (0)) hx hb dX12_goesOn_80 (by decide) ?_
            refine lv_istore_n (lv' := [(3, .int (0)), (0, .ref (ad 0)), (1, .int (v1)), (2, .int (v2)), (4, .int (v4)), (5, .int (v5))]) hx hb dX12_goesOn_81 rfl hl (by decide) rfl (fun ls hl => ?_)
            refine lv_iload hx hb dX12_goesOn_82 (lv_at hl 5 rfl) ?_
            refine lv_iload_n hx hb dX12_goesOn_84 rfl (lv_at hl 3 rfl) ?_
            refine lv_iadd hx hb dX12_goesOn_85 ?_
            refine lv_istore (lv' := [(5, .int (v5 + v2)), (3, .int (0)), (0, .ref (ad 0)), (1, .int (v1)), (2, .int (v2)), (4, .int (v4))]) hx hb dX12_goesOn_86 hl (by decide) rfl (fun ls hl => ?_)
            refine lv_goto (tgt := 22) hx hb dX12_goesOn_88 (by decide) ?_
            exact ih22 (0) (v5 + v2) M H locs ls G  (lv_sub hl [2, 3, 4, 1, 5, 0] rfl) h
          have h := h.2 c2
          refine lv_iload_n hx hb dX12_goesOn_37 rfl (lv_at hl 1 rfl) ?_
          refine lv_iload hx hb dX12_goesOn_38 (lv_at hl 4 rfl) ?_
          refine gq_calli G (gc_S (rest := []) X hl.1 G (m_X12_has hI  h) cw_X12_has qw_22_10 qw_22_11 rfl rfl (Nat.le_of_ble_eq_true rfl) ⟨Nat.le_of_ble_eq_true rfl, Nat.le_of_ble_eq_true rfl⟩ ⟨Nat.le_refl _, Nat.le_refl _⟩ dX12_goesOn_40) (fun r4 M3 H locs G h => ?_)
          refine lv_if_eq (tgt := 76) hx hb dX12_goesOn_43 (by decide) (fun c5 => ?_) (fun c5 => ?_)
          · have h := h.1 c5
            exact hJ76 (v5)  M3 H locs ls G  (lv_sub hl [0, 1, 2, 4, 5] rfl) h
          have h := h.2 c5
          refine lv_iload_n hx hb dX12_goesOn_46 rfl (lv_at hl 1 rfl) ?_
          refine lv_iload hx hb dX12_goesOn_47 (lv_at hl 5 rfl) ?_
          refine gq_calli G (gc_S (rest := []) X hl.1 G (m_X12_has hI  h) cw_X12_has qw_22_10 qw_22_11 rfl rfl (Nat.le_of_ble_eq_true rfl) ⟨Nat.le_of_ble_eq_true rfl, Nat.le_of_ble_eq_true rfl⟩ ⟨Nat.le_refl _, Nat.le_refl _⟩ dX12_goesOn_49) (fun r7 M6 H locs G h => ?_)
          refine lv_if_eq (tgt := 76) hx hb dX12_goesOn_52 (by decide) (fun c8 => ?_) (fun c8 => ?_)
          · have h := h.1 c8
            exact hJ76 (v5)  M6 H locs ls G  (lv_sub hl [0, 1, 2, 4, 5] rfl) h
          have h := h.2 c8
          refine lv_aload_n hx hb dX12_goesOn_55 rfl (lv_at hl 0 rfl) ?_
          refine gf_Model_told X G qw_5_13 dX12_goesOn_56 ?_
          refine lv_iconst (v := (4)) hx hb dX12_goesOn_59 (by decide) ?_
          refine lv_iload hx hb dX12_goesOn_60 (lv_at hl 4 rfl) ?_
          refine lv_iadd hx hb dX12_goesOn_62 ?_
          obtain ⟨q9, h⟩ := h
          refine gq_iald X G rr_7 q9 dX12_goesOn_63 ?_
          refine lv_aload_n hx hb dX12_goesOn_64 rfl (lv_at hl 0 rfl) ?_
          refine gf_Model_told X G qw_5_13 dX12_goesOn_65 ?_
          refine lv_iconst (v := (4)) hx hb dX12_goesOn_68 (by decide) ?_
          refine lv_iload hx hb dX12_goesOn_69 (lv_at hl 5 rfl) ?_
          refine lv_iadd hx hb dX12_goesOn_71 ?_
          obtain ⟨q10, h⟩ := h
          refine gq_iald X G rr_7 q10 dX12_goesOn_72 ?_
          refine lv_icmp_ne (tgt := 80) hx hb dX12_goesOn_73 (by decide) (fun c11 => ?_) (fun c11 => ?_)
          · have h := h.2 c11
            refine lv_iconst (v := (0)) hx hb dX12_goesOn_80 (by decide) ?_
            refine lv_istore_n (lv' := [(3, .int (0)), (0, .ref (ad 0)), (1, .int (v1)), (2, .int (v2)), (4, .int (v4)), (5, .int (v5))]) hx hb dX12_goesOn_81 rfl hl (by decide) rfl (fun ls hl => ?_)
            refine lv_iload hx hb dX12_goesOn_82 (lv_at hl 5 rfl) ?_
            refine lv_iload_n hx hb dX12_goesOn_84 rfl (lv_at hl 3 rfl) ?_
            refine lv_iadd hx hb dX12_goesOn_85 ?_
            refine lv_istore (lv' := [(5, .int (v5 + v2)), (3, .int (0)), (0, .ref (ad 0)), (1, .int (v1)), (2, .int (v2)), (4, .int (v4))]) hx hb dX12_goesOn_86 hl (by decide) rfl (fun ls hl => ?_)
            refine lv_goto (tgt := 22) hx hb dX12_goesOn_88 (by decide) ?_
            exact ih22 (0) (v5 + v2) M6 H locs ls G  (lv_sub hl [2, 3, 4, 1, 5, 0] rfl) h
          have h := h.1 c11
          exact hJ76 (v5)  M6 H locs ls G  (lv_sub hl [0, 1, 2, 4, 5] rfl) h
      intro v3 v4 M H locs ls G hl h
      rw [l_X12_goesOn_5] at h
      refine lv_iload hx hb dX12_goesOn_5 (lv_at hl 4 rfl) ?_
      refine lv_aload_n hx hb dX12_goesOn_7 rfl (lv_at hl 0 rfl) ?_
      refine gf_Model_told X G qw_5_13 dX12_goesOn_8 ?_
      refine lv_iconst (v := (0)) hx hb dX12_goesOn_11 (by decide) ?_
      refine gq_iald X G rr_7 (by unfold vp_in; decide) dX12_goesOn_12 ?_
      refine lv_icmp_ge (tgt := 97) hx hb dX12_goesOn_13 (by decide) (fun c12 => ?_) (fun c12 => ?_)
      · have h := h.1 c12
        refine lv_iload_n hx hb dX12_goesOn_97 rfl (lv_at hl 3 rfl) ?_
        exact gq_zret X G h.1 h.2 dX12_goesOn_98
      have h := h.2 c12
      refine lv_iload hx hb dX12_goesOn_16 (lv_at hl 4 rfl) ?_
      refine lv_iload_n hx hb dX12_goesOn_18 rfl (lv_at hl 2 rfl) ?_
      refine lv_iadd hx hb dX12_goesOn_19 ?_
      refine lv_istore (lv' := [(5, .int (v4 + v2)), (0, .ref (ad 0)), (1, .int (v1)), (2, .int (v2)), (3, .int (v3)), (4, .int (v4))]) hx hb dX12_goesOn_20 hl (by decide) rfl (fun ls hl => ?_)
      obtain ⟨n13, h⟩ := h
      exact hL22 (v4)  n13 (v3) (v4 + v2) M H locs ls G  (lv_sub hl [1, 2, 3, 4, 5, 0] rfl) h
  unfold f_X12_goesOn at h
  refine lv_iconst (v := (1)) hx hb dX12_goesOn_0 (by decide) ?_
  refine lv_istore_n (lv' := [(3, .int (1)), (0, .ref (ad 0)), (1, .int (v1)), (2, .int (v2))]) hx hb dX12_goesOn_1 rfl hl (by decide) rfl (fun ls hl => ?_)
  refine lv_iconst (v := (0)) hx hb dX12_goesOn_2 (by decide) ?_
  refine lv_istore (lv' := [(4, .int (0)), (3, .int (1)), (0, .ref (ad 0)), (1, .int (v1)), (2, .int (v2))]) hx hb dX12_goesOn_3 hl (by decide) rfl (fun ls hl => ?_)
  obtain ⟨n14, h⟩ := h
  exact hL5   n14 (1) (0) M H locs ls G  (lv_sub hl [2, 3, 4, 1, 0] rfl) h
def l_X12_periodOf_2 (K : Int32 → Mm → Prop) (v1 : Int32) : Nat → Int32 → Mm → Prop
  | 0, _, _ => False
  | n + 1, v2, M => (vp_in (17 + v1) 22 ∧ (f_X12_goesOn (M 9 (17 + v1 : Int32).toNatClampNeg) (v2) M (fun r3 M2 => ((((r3 : Int32) = 0 : Prop) → (l_X12_periodOf_2 K v1 n) (v2 + 1) M2) ∧ (¬ ((r3 : Int32) = 0 : Prop) → K (v2) M2)))))
def f_X12_periodOf (v1 : Int32) (M : Mm) (K : Int32 → Mm → Prop) : Prop := ∃ z, l_X12_periodOf_2 K (v1) z (1) M
set_option maxHeartbeats 4000000 in
set_option maxRecDepth 100000 in
theorem m_X12_periodOf (hI : gI 17 ad) {v1 : Int32} {M : Mm} {K : Int32 → Mm → Prop} (h : f_X12_periodOf v1 M K) : gM l D cy 17 ad (shR ad cy) yX12_periodOf cX12_periodOf 3 (some .int) 2 46 [.ref (ad 0), .int (v1)] M (gQi D 17 ad (shR ad cy) K) := by
  refine gM.of (own := RX12) (lv := [(0, .ref (ad 0)), (1, .int (v1))]) (by decide) rfl hI (Nat.le_of_ble_eq_true rfl) rfl ?_
  intro p e s m below meth c ls H locs X G hl
  have hx := X.1
  have hb := X.2.1
  have hL2 : ∀ (n : Nat) (v2 : Int32) (M : Mm) (H : Heap) (locs : List Loc) (ls : Array Slot), gS D s 17 ad (shR ad cy) H locs M → lv_has ls 3 [(0, .ref (ad 0)), (1, .int (v1)), (2, .int (v2))] → l_X12_periodOf_2 K v1 n v2 M → gWk p l e 2 46 s m ([.ref (ad 0), .int (v1)] : List Value).toArray below meth c H locs (gQi D 17 ad (shR ad cy) K) 17 ad 2 ls [] := by
    intro n2
    induction n2 with
    | zero =>
      intro v2 M H locs ls G hl h
      exact False.elim h
    | succ n2 ih2 =>
      intro v2 M H locs ls G hl h
      rw [l_X12_periodOf_2] at h
      refine lv_aload_n hx hb dX12_periodOf_2 rfl (lv_at hl 0 rfl) ?_
      refine lv_aload_n hx hb dX12_periodOf_3 rfl (lv_at hl 0 rfl) ?_
      refine gf_Model_now X G qw_5_15 dX12_periodOf_4 ?_
      refine lv_bipush (v := (17)) hx hb dX12_periodOf_7 (by decide) ?_
      refine lv_iload_n hx hb dX12_periodOf_9 rfl (lv_at hl 1 rfl) ?_
      refine lv_iadd hx hb dX12_periodOf_10 ?_
      obtain ⟨q1, h⟩ := h
      refine gq_iald X G rr_9 q1 dX12_periodOf_11 ?_
      refine lv_iload_n hx hb dX12_periodOf_12 rfl (lv_at hl 2 rfl) ?_
      refine gq_calli G (gc_V (C := RX12) (rest := []) X hl.1 G (m_X12_goesOn hI  h) cw_X12_goesOn qw_26_1 qw_26_2 qw_26_3 ob_Model rfl rfl rfl rfl (Nat.le_of_ble_eq_true rfl) ⟨Nat.le_of_ble_eq_true rfl, Nat.le_of_ble_eq_true rfl⟩ ⟨Nat.le_refl _, Nat.le_refl _⟩ dX12_periodOf_13) (fun r3 M2 H locs G h => ?_)
      refine lv_if_ne (tgt := 25) hx hb dX12_periodOf_16 (by decide) (fun c4 => ?_) (fun c4 => ?_)
      · have h := h.2 c4
        refine lv_iload_n hx hb dX12_periodOf_25 rfl (lv_at hl 2 rfl) ?_
        exact gq_iret X G h dX12_periodOf_26
      have h := h.1 c4
      refine lv_iinc (v := v2 + 1) (lv' := [(2, .int (v2 + 1)), (0, .ref (ad 0)), (1, .int (v1))]) hx hb dX12_periodOf_19 hl (k := 2) rfl rfl (by decide) rfl (fun ls hl => ?_)
      refine lv_goto (tgt := 2) hx hb dX12_periodOf_22 (by decide) ?_
      exact ih2 (v2 + 1) M2 H locs ls G  (lv_sub hl [1, 2, 0] rfl) h
  unfold f_X12_periodOf at h
  refine lv_iconst (v := (1)) hx hb dX12_periodOf_0 (by decide) ?_
  refine lv_istore_n (lv' := [(2, .int (1)), (0, .ref (ad 0)), (1, .int (v1))]) hx hb dX12_periodOf_1 rfl hl (by decide) rfl (fun ls hl => ?_)
  obtain ⟨n5, h⟩ := h
  exact hL2   n5 (1) M H locs ls G  (lv_sub hl [1, 2, 0] rfl) h
def f_X12_folk (v1 : Int32) (v2 : Int32) (M : Mm) (K : Int32 → Mm → Prop) : Prop := (f_X12_isOne (v1) M (fun r2 M1 => ((((r2 : Int32) = 0 : Prop) → K (-1000001) M1) ∧ (¬ ((r2 : Int32) = 0 : Prop) → (((v2 : Int32) = 0 → (vp_in (7 + v1) 22 ∧ K (M1 9 (7 + v1 : Int32).toNatClampNeg) M1)) ∧ (¬ (v2 : Int32) = 0 → (((v2 : Int32) = 1 → (vp_in (12 + v1) 22 ∧ K (M1 9 (12 + v1 : Int32).toNatClampNeg) M1)) ∧ (¬ (v2 : Int32) = 1 → (((v2 : Int32) = 2 → (vp_in (17 + v1) 22 ∧ K (M1 9 (17 + v1 : Int32).toNatClampNeg) M1)) ∧ (¬ (v2 : Int32) = 2 → (((v2 : Int32) = 3 → (vp_in (7 + v1) 22 ∧ (vp_in (28 + v1) 33 ∧ (f_X12_sees 9 (M1 9 (7 + v1 : Int32).toNatClampNeg) (M1 7 (28 + v1 : Int32).toNatClampNeg) M1 (fun r14 M13 => K (r14) M13))))) ∧ (¬ (v2 : Int32) = 3 → (((v2 : Int32) = 4 → (f_X12_periodOf (v1) M1 (fun r17 M16 => K (r17) M16))) ∧ (¬ (v2 : Int32) = 4 → K (-1000001) M1))))))))))))))
set_option maxHeartbeats 4000000 in
set_option maxRecDepth 100000 in
theorem m_X12_folk (hI : gI 17 ad) {v1 : Int32} {v2 : Int32} {M : Mm} {K : Int32 → Mm → Prop} (h : f_X12_folk v1 v2 M K) : gM l D cy 17 ad (shR ad cy) yX12_folk cX12_folk 3 (some .int) 3 68 [.ref (ad 0), .int (v1), .int (v2)] M (gQi D 17 ad (shR ad cy) K) := by
  refine gM.of (own := RX12) (lv := [(0, .ref (ad 0)), (1, .int (v1)), (2, .int (v2))]) (by decide) rfl hI (Nat.le_of_ble_eq_true rfl) rfl ?_
  intro p e s m below meth c ls H locs X G hl
  have hx := X.1
  have hb := X.2.1
  unfold f_X12_folk at h
  refine lv_aload_n hx hb dX12_folk_0 rfl (lv_at hl 0 rfl) ?_
  refine lv_iload_n hx hb dX12_folk_1 rfl (lv_at hl 1 rfl) ?_
  refine gq_calli G (gc_V (C := RX12) (rest := []) X hl.1 G (m_X12_isOne hI  h) cw_X12_isOne qw_23_3 qw_23_4 qw_23_5 ob_Model rfl rfl rfl rfl (Nat.le_of_ble_eq_true rfl) ⟨Nat.le_of_ble_eq_true rfl, Nat.le_of_ble_eq_true rfl⟩ ⟨Nat.le_refl _, Nat.le_refl _⟩ dX12_folk_2) (fun r2 M1 H locs G h => ?_)
  refine lv_if_ne (tgt := 11) hx hb dX12_folk_5 (by decide) (fun c3 => ?_) (fun c3 => ?_)
  · have h := h.2 c3
    refine lv_iload_n hx hb dX12_folk_11 rfl (lv_at hl 2 rfl) ?_
    by_cases c4 : (v2 : Int32) = 0
    · refine gq_tabIn (v := 0) (tgt := 48) hx hb dX12_folk_12 c4 (by decide) (by decide) rfl (by decide) ?_
      have h := h.1 c4
      refine lv_aload_n hx hb dX12_folk_48 rfl (lv_at hl 0 rfl) ?_
      refine gf_Model_now X G qw_5_15 dX12_folk_49 ?_
      refine lv_bipush (v := (7)) hx hb dX12_folk_52 (by decide) ?_
      refine lv_iload_n hx hb dX12_folk_54 rfl (lv_at hl 1 rfl) ?_
      refine lv_iadd hx hb dX12_folk_55 ?_
      obtain ⟨q5, h⟩ := h
      refine gq_iald X G rr_9 q5 dX12_folk_56 ?_
      exact gq_iret X G h dX12_folk_57
    have h := h.2 c4
    by_cases c6 : (v2 : Int32) = 1
    · refine gq_tabIn (v := 1) (tgt := 58) hx hb dX12_folk_12 c6 (by decide) (by decide) rfl (by decide) ?_
      have h := h.1 c6
      refine lv_aload_n hx hb dX12_folk_58 rfl (lv_at hl 0 rfl) ?_
      refine gf_Model_now X G qw_5_15 dX12_folk_59 ?_
      refine lv_bipush (v := (12)) hx hb dX12_folk_62 (by decide) ?_
      refine lv_iload_n hx hb dX12_folk_64 rfl (lv_at hl 1 rfl) ?_
      refine lv_iadd hx hb dX12_folk_65 ?_
      obtain ⟨q7, h⟩ := h
      refine gq_iald X G rr_9 q7 dX12_folk_66 ?_
      exact gq_iret X G h dX12_folk_67
    have h := h.2 c6
    by_cases c8 : (v2 : Int32) = 2
    · refine gq_tabIn (v := 2) (tgt := 68) hx hb dX12_folk_12 c8 (by decide) (by decide) rfl (by decide) ?_
      have h := h.1 c8
      refine lv_aload_n hx hb dX12_folk_68 rfl (lv_at hl 0 rfl) ?_
      refine gf_Model_now X G qw_5_15 dX12_folk_69 ?_
      refine lv_bipush (v := (17)) hx hb dX12_folk_72 (by decide) ?_
      refine lv_iload_n hx hb dX12_folk_74 rfl (lv_at hl 1 rfl) ?_
      refine lv_iadd hx hb dX12_folk_75 ?_
      obtain ⟨q9, h⟩ := h
      refine gq_iald X G rr_9 q9 dX12_folk_76 ?_
      exact gq_iret X G h dX12_folk_77
    have h := h.2 c8
    by_cases c10 : (v2 : Int32) = 3
    · refine gq_tabIn (v := 3) (tgt := 78) hx hb dX12_folk_12 c10 (by decide) (by decide) rfl (by decide) ?_
      have h := h.1 c10
      refine lv_aload_n hx hb dX12_folk_78 rfl (lv_at hl 0 rfl) ?_
      refine lv_aload_n hx hb dX12_folk_79 rfl (lv_at hl 0 rfl) ?_
      refine gf_Model_now X G qw_5_15 dX12_folk_80 ?_
      refine lv_aload_n hx hb dX12_folk_83 rfl (lv_at hl 0 rfl) ?_
      refine gf_Model_now X G qw_5_15 dX12_folk_84 ?_
      refine lv_bipush (v := (7)) hx hb dX12_folk_87 (by decide) ?_
      refine lv_iload_n hx hb dX12_folk_89 rfl (lv_at hl 1 rfl) ?_
      refine lv_iadd hx hb dX12_folk_90 ?_
      obtain ⟨q11, h⟩ := h
      refine gq_iald X G rr_9 q11 dX12_folk_91 ?_
      refine lv_aload_n hx hb dX12_folk_92 rfl (lv_at hl 0 rfl) ?_
      refine gf_Model_told X G qw_5_13 dX12_folk_93 ?_
      refine lv_bipush (v := (28)) hx hb dX12_folk_96 (by decide) ?_
      refine lv_iload_n hx hb dX12_folk_98 rfl (lv_at hl 1 rfl) ?_
      refine lv_iadd hx hb dX12_folk_99 ?_
      obtain ⟨q12, h⟩ := h
      refine gq_iald X G rr_7 q12 dX12_folk_100 ?_
      refine gq_calli G (gc_V (C := RX12) (rest := []) X hl.1 G (m_X12_sees hI isC_9 h) cw_X12_sees qw_20_3 qw_20_4 qw_20_5 ob_Model rfl rfl rfl rfl (Nat.le_of_ble_eq_true rfl) ⟨Nat.le_of_ble_eq_true rfl, Nat.le_of_ble_eq_true rfl⟩ ⟨Nat.le_refl _, Nat.le_refl _⟩ dX12_folk_101) (fun r14 M13 H locs G h => ?_)
      exact gq_iret X G h dX12_folk_104
    have h := h.2 c10
    by_cases c15 : (v2 : Int32) = 4
    · refine gq_tabIn (v := 4) (tgt := 105) hx hb dX12_folk_12 c15 (by decide) (by decide) rfl (by decide) ?_
      have h := h.1 c15
      refine lv_aload_n hx hb dX12_folk_105 rfl (lv_at hl 0 rfl) ?_
      refine lv_iload_n hx hb dX12_folk_106 rfl (lv_at hl 1 rfl) ?_
      refine gq_calli G (gc_V (C := RX12) (rest := []) X hl.1 G (m_X12_periodOf hI  h) cw_X12_periodOf qw_25_21 qw_25_22 qw_25_23 ob_Model rfl rfl rfl rfl (Nat.le_of_ble_eq_true rfl) ⟨Nat.le_of_ble_eq_true rfl, Nat.le_of_ble_eq_true rfl⟩ ⟨Nat.le_refl _, Nat.le_refl _⟩ dX12_folk_107) (fun r17 M16 H locs G h => ?_)
      exact gq_iret X G h dX12_folk_110
    have h := h.2 c15
    refine lv_tableOut (tgt := 111) hx hb dX12_folk_12 (by have := gq_ne (v := 0) (z := 0) c4 rfl; have := gq_ne (v := 1) (z := 1) c6 rfl; have := gq_ne (v := 2) (z := 2) c8 rfl; have := gq_ne (v := 3) (z := 3) c10 rfl; have := gq_ne (v := 4) (z := 4) c15 rfl; omega) (by decide) ?_
    refine gq_ldc (v := (-1000001)) X qw_7_8 dX12_folk_111 ?_
    exact gq_iret X G h dX12_folk_113
  have h := h.1 c3
  refine gq_ldc (v := (-1000001)) X qw_7_8 dX12_folk_8 ?_
  exact gq_iret X G h dX12_folk_10
def l_X12_take_2 (K : Mm → Prop) : Nat → Int32 → Mm → Prop
  | 0, _, _ => False
  | n + 1, v1, M => ((((22 : Int32) ≤ v1 : Prop) → K M) ∧ (¬ ((22 : Int32) ≤ v1 : Prop) → (vp_in (v1) 22 ∧ (∀ M3 : Mm, M3 = gU M 10 (v1 : Int32).toNatClampNeg (M 9 (v1 : Int32).toNatClampNeg) → (l_X12_take_2 K n) (v1 + 1) M3))))
def f_X12_take  (M : Mm) (K : Mm → Prop) : Prop := ∃ z, l_X12_take_2 K z (0) M
set_option maxHeartbeats 4000000 in
set_option maxRecDepth 100000 in
theorem m_X12_take (hI : gI 17 ad)  {M : Mm} {K : Mm → Prop} (h : f_X12_take  M K) : gM l D cy 17 ad (shR ad cy) yX12_take cX12_take 2 none 0 0 [.ref (ad 0)] M (gQv D 17 ad (shR ad cy) K) := by
  refine gM.of (own := RX12) (lv := [(0, .ref (ad 0))]) (by decide) rfl hI (Nat.le_of_ble_eq_true rfl) rfl ?_
  intro p e s m below meth c ls H locs X G hl
  have hx := X.1
  have hb := X.2.1
  have hL2 : ∀ (n : Nat) (v1 : Int32) (M : Mm) (H : Heap) (locs : List Loc) (ls : Array Slot), gS D s 17 ad (shR ad cy) H locs M → lv_has ls 2 [(0, .ref (ad 0)), (1, .int (v1))] → l_X12_take_2 K n v1 M → gWk p l e 0 0 s m ([.ref (ad 0)] : List Value).toArray below meth c H locs (gQv D 17 ad (shR ad cy) K) 17 ad 2 ls [] := by
    intro n2
    induction n2 with
    | zero =>
      intro v1 M H locs ls G hl h
      exact False.elim h
    | succ n2 ih2 =>
      intro v1 M H locs ls G hl h
      rw [l_X12_take_2] at h
      refine lv_iload_n hx hb dX12_take_2 rfl (lv_at hl 1 rfl) ?_
      refine lv_bipush (v := (22)) hx hb dX12_take_3 (by decide) ?_
      refine lv_icmp_ge (tgt := 26) hx hb dX12_take_5 (by decide) (fun c1 => ?_) (fun c1 => ?_)
      · have h := h.1 c1
        exact gq_vret X G h dX12_take_26
      have h := h.2 c1
      refine lv_aload_n hx hb dX12_take_8 rfl (lv_at hl 0 rfl) ?_
      refine gf_Model_tried X G qw_5_16 dX12_take_9 ?_
      refine lv_iload_n hx hb dX12_take_12 rfl (lv_at hl 1 rfl) ?_
      refine lv_aload_n hx hb dX12_take_13 rfl (lv_at hl 0 rfl) ?_
      refine gf_Model_now X G qw_5_15 dX12_take_14 ?_
      refine lv_iload_n hx hb dX12_take_17 rfl (lv_at hl 1 rfl) ?_
      obtain ⟨q2, h⟩ := h
      refine gq_iald X G rr_9 q2 dX12_take_18 ?_
      refine gq_iast X G rr_10 q2 dX12_take_19 (fun M3 H locs e4 G => ?_)
      have h := h M3 e4
      refine lv_iinc (v := v1 + 1) (lv' := [(1, .int (v1 + 1)), (0, .ref (ad 0))]) hx hb dX12_take_20 hl (k := 1) rfl rfl (by decide) rfl (fun ls hl => ?_)
      refine lv_goto (tgt := 2) hx hb dX12_take_23 (by decide) ?_
      exact ih2 (v1 + 1) M3 H locs ls G  (lv_sub hl [1, 0] rfl) h
  unfold f_X12_take at h
  refine lv_iconst (v := (0)) hx hb dX12_take_0 (by decide) ?_
  refine lv_istore_n (lv' := [(1, .int (0)), (0, .ref (ad 0))]) hx hb dX12_take_1 rfl hl (by decide) rfl (fun ls hl => ?_)
  obtain ⟨n5, h⟩ := h
  exact hL2   n5 (0) M H locs ls G  (lv_sub hl [1, 0] rfl) h
def l_X12_ahead_37 (K : Int32 → Mm → Prop) (v1 : Int32) (v2 : Int32) (v3 : Int32) : Nat → Int32 → Mm → Prop
  | 0, _, _ => False
  | n + 1, v4, M => ((((v2 : Int32) ≤ v4 : Prop) → ((((v3 : Int32) = 0 : Prop) → (vp_in (7 + v1) 22 ∧ K (M 10 (7 + v1 : Int32).toNatClampNeg) M)) ∧ (¬ ((v3 : Int32) = 0 : Prop) → (vp_in (17 + v1) 22 ∧ K (M 10 (17 + v1 : Int32).toNatClampNeg) M)))) ∧ (¬ ((v2 : Int32) ≤ v4 : Prop) → (f_X12_pass 10 M (fun M5 => (l_X12_ahead_37 K v1 v2 v3 n) (v4 + 1) M5))))
def f_X12_ahead (v1 : Int32) (v2 : Int32) (v3 : Int32) (M : Mm) (K : Int32 → Mm → Prop) : Prop := (f_X12_isOne (v1) M (fun r7 M6 => ((((r7 : Int32) = 0 : Prop) → K (-1000001) M6) ∧ (¬ ((r7 : Int32) = 0 : Prop) → (f_X12_in (v2) (0) (60) M6 (fun r10 M9 => ((((r10 : Int32) = 0 : Prop) → K (-1000001) M9) ∧ (¬ ((r10 : Int32) = 0 : Prop) → (f_X12_in (v3) (0) (1) M9 (fun r13 M12 => ((((r13 : Int32) = 0 : Prop) → K (-1000001) M12) ∧ (¬ ((r13 : Int32) = 0 : Prop) → (f_X12_take  M12 (fun M15 => ∃ z, l_X12_ahead_37 K (v1) (v2) (v3) z (0) M15))))))))))))))
set_option maxHeartbeats 4000000 in
set_option maxRecDepth 100000 in
theorem m_X12_ahead (hI : gI 17 ad) {v1 : Int32} {v2 : Int32} {v3 : Int32} {M : Mm} {K : Int32 → Mm → Prop} (h : f_X12_ahead v1 v2 v3 M K) : gM l D cy 17 ad (shR ad cy) yX12_ahead cX12_ahead 5 (some .int) 4 96 [.ref (ad 0), .int (v1), .int (v2), .int (v3)] M (gQi D 17 ad (shR ad cy) K) := by
  refine gM.of (own := RX12) (lv := [(0, .ref (ad 0)), (1, .int (v1)), (2, .int (v2)), (3, .int (v3))]) (by decide) rfl hI (Nat.le_of_ble_eq_true rfl) rfl ?_
  intro p e s m below meth c ls H locs X G hl
  have hx := X.1
  have hb := X.2.1
  have hL37 : ∀ (n : Nat) (v4 : Int32) (M : Mm) (H : Heap) (locs : List Loc) (ls : Array Slot), gS D s 17 ad (shR ad cy) H locs M → lv_has ls 5 [(0, .ref (ad 0)), (1, .int (v1)), (2, .int (v2)), (3, .int (v3)), (4, .int (v4))] → l_X12_ahead_37 K v1 v2 v3 n v4 M → gWk p l e 4 96 s m ([.ref (ad 0), .int (v1), .int (v2), .int (v3)] : List Value).toArray below meth c H locs (gQi D 17 ad (shR ad cy) K) 17 ad 37 ls [] := by
    intro n37
    induction n37 with
    | zero =>
      intro v4 M H locs ls G hl h
      exact False.elim h
    | succ n37 ih37 =>
      intro v4 M H locs ls G hl h
      rw [l_X12_ahead_37] at h
      refine lv_iload hx hb dX12_ahead_37 (lv_at hl 4 rfl) ?_
      refine lv_iload_n hx hb dX12_ahead_39 rfl (lv_at hl 2 rfl) ?_
      refine lv_icmp_ge (tgt := 57) hx hb dX12_ahead_40 (by decide) (fun c1 => ?_) (fun c1 => ?_)
      · have h := h.1 c1
        refine lv_aload_n hx hb dX12_ahead_57 rfl (lv_at hl 0 rfl) ?_
        refine gf_Model_tried X G qw_5_16 dX12_ahead_58 ?_
        refine lv_iload_n hx hb dX12_ahead_61 rfl (lv_at hl 3 rfl) ?_
        refine lv_if_ne (tgt := 70) hx hb dX12_ahead_62 (by decide) (fun c2 => ?_) (fun c2 => ?_)
        · have h := h.2 c2
          refine lv_bipush (v := (17)) hx hb dX12_ahead_70 (by decide) ?_
          refine lv_iload_n hx hb dX12_ahead_72 rfl (lv_at hl 1 rfl) ?_
          refine lv_iadd hx hb dX12_ahead_73 ?_
          obtain ⟨q3, h⟩ := h
          refine gq_iald X G rr_10 q3 dX12_ahead_74 ?_
          exact gq_iret X G h dX12_ahead_75
        have h := h.1 c2
        refine lv_bipush (v := (7)) hx hb dX12_ahead_65 (by decide) ?_
        refine lv_goto (tgt := 72) hx hb dX12_ahead_67 (by decide) ?_
        refine lv_iload_n hx hb dX12_ahead_72 rfl (lv_at hl 1 rfl) ?_
        refine lv_iadd hx hb dX12_ahead_73 ?_
        obtain ⟨q4, h⟩ := h
        refine gq_iald X G rr_10 q4 dX12_ahead_74 ?_
        exact gq_iret X G h dX12_ahead_75
      have h := h.2 c1
      refine lv_aload_n hx hb dX12_ahead_43 rfl (lv_at hl 0 rfl) ?_
      refine lv_aload_n hx hb dX12_ahead_44 rfl (lv_at hl 0 rfl) ?_
      refine gf_Model_tried X G qw_5_16 dX12_ahead_45 ?_
      refine gq_callv G (gc_V (C := RX12) (rest := []) X hl.1 G (m_X12_pass hI isC_10 h) cw_X12_pass qw_19_19 qw_19_20 qw_19_21 ob_Model rfl rfl rfl rfl (Nat.le_of_ble_eq_true rfl) ⟨Nat.le_of_ble_eq_true rfl, Nat.le_of_ble_eq_true rfl⟩ ⟨Nat.le_refl _, Nat.le_refl _⟩ dX12_ahead_48) (fun M5 H locs G h => ?_)
      refine lv_iinc (v := v4 + 1) (lv' := [(4, .int (v4 + 1)), (0, .ref (ad 0)), (1, .int (v1)), (2, .int (v2)), (3, .int (v3))]) hx hb dX12_ahead_51 hl (k := 4) rfl rfl (by decide) rfl (fun ls hl => ?_)
      refine lv_goto (tgt := 37) hx hb dX12_ahead_54 (by decide) ?_
      exact ih37 (v4 + 1) M5 H locs ls G  (lv_sub hl [1, 2, 3, 4, 0] rfl) h
  unfold f_X12_ahead at h
  refine lv_aload_n hx hb dX12_ahead_0 rfl (lv_at hl 0 rfl) ?_
  refine lv_iload_n hx hb dX12_ahead_1 rfl (lv_at hl 1 rfl) ?_
  refine gq_calli G (gc_V (C := RX12) (rest := []) X hl.1 G (m_X12_isOne hI  h) cw_X12_isOne qw_23_3 qw_23_4 qw_23_5 ob_Model rfl rfl rfl rfl (Nat.le_of_ble_eq_true rfl) ⟨Nat.le_of_ble_eq_true rfl, Nat.le_of_ble_eq_true rfl⟩ ⟨Nat.le_refl _, Nat.le_refl _⟩ dX12_ahead_2) (fun r7 M6 H locs G h => ?_)
  refine lv_if_eq (tgt := 27) hx hb dX12_ahead_5 (by decide) (fun c8 => ?_) (fun c8 => ?_)
  · have h := h.1 c8
    refine gq_ldc (v := (-1000001)) X qw_7_8 dX12_ahead_27 ?_
    exact gq_iret X G h dX12_ahead_29
  have h := h.2 c8
  refine lv_iload_n hx hb dX12_ahead_8 rfl (lv_at hl 2 rfl) ?_
  refine lv_iconst (v := (0)) hx hb dX12_ahead_9 (by decide) ?_
  refine lv_bipush (v := (60)) hx hb dX12_ahead_10 (by decide) ?_
  refine gq_calli G (gc_S (rest := []) X hl.1 G (m_X12_in hI  h) cw_X12_in qw_7_12 qw_7_13 rfl rfl (Nat.le_of_ble_eq_true rfl) ⟨Nat.le_of_ble_eq_true rfl, Nat.le_of_ble_eq_true rfl⟩ ⟨Nat.le_refl _, Nat.le_refl _⟩ dX12_ahead_12) (fun r10 M9 H locs G h => ?_)
  refine lv_if_eq (tgt := 27) hx hb dX12_ahead_15 (by decide) (fun c11 => ?_) (fun c11 => ?_)
  · have h := h.1 c11
    refine gq_ldc (v := (-1000001)) X qw_7_8 dX12_ahead_27 ?_
    exact gq_iret X G h dX12_ahead_29
  have h := h.2 c11
  refine lv_iload_n hx hb dX12_ahead_18 rfl (lv_at hl 3 rfl) ?_
  refine lv_iconst (v := (0)) hx hb dX12_ahead_19 (by decide) ?_
  refine lv_iconst (v := (1)) hx hb dX12_ahead_20 (by decide) ?_
  refine gq_calli G (gc_S (rest := []) X hl.1 G (m_X12_in hI  h) cw_X12_in qw_7_12 qw_7_13 rfl rfl (Nat.le_of_ble_eq_true rfl) ⟨Nat.le_of_ble_eq_true rfl, Nat.le_of_ble_eq_true rfl⟩ ⟨Nat.le_refl _, Nat.le_refl _⟩ dX12_ahead_21) (fun r13 M12 H locs G h => ?_)
  refine lv_if_ne (tgt := 30) hx hb dX12_ahead_24 (by decide) (fun c14 => ?_) (fun c14 => ?_)
  · have h := h.2 c14
    refine lv_aload_n hx hb dX12_ahead_30 rfl (lv_at hl 0 rfl) ?_
    refine gq_callv G (gc_V (C := RX12) (rest := []) X hl.1 G (m_X12_take hI  h) cw_X12_take qw_26_20 qw_26_21 qw_26_22 ob_Model rfl rfl rfl rfl (Nat.le_of_ble_eq_true rfl) ⟨Nat.le_of_ble_eq_true rfl, Nat.le_of_ble_eq_true rfl⟩ ⟨Nat.le_refl _, Nat.le_refl _⟩ dX12_ahead_31) (fun M15 H locs G h => ?_)
    refine lv_iconst (v := (0)) hx hb dX12_ahead_34 (by decide) ?_
    refine lv_istore (lv' := [(4, .int (0)), (0, .ref (ad 0)), (1, .int (v1)), (2, .int (v2)), (3, .int (v3))]) hx hb dX12_ahead_35 hl (by decide) rfl (fun ls hl => ?_)
    obtain ⟨n16, h⟩ := h
    exact hL37   n16 (0) M15 H locs ls G  (lv_sub hl [1, 2, 3, 4, 0] rfl) h
  have h := h.1 c14
  refine gq_ldc (v := (-1000001)) X qw_7_8 dX12_ahead_27 ?_
  exact gq_iret X G h dX12_ahead_29
def f_X12_allCells  (M : Mm) (K : Int32 → Mm → Prop) : Prop := K ((1 <<< ((M 7 (0 : Int32).toNatClampNeg) &&& 31)) - 1) M
set_option maxHeartbeats 4000000 in
set_option maxRecDepth 100000 in
theorem m_X12_allCells (hI : gI 17 ad)  {M : Mm} {K : Int32 → Mm → Prop} (h : f_X12_allCells  M K) : gM l D cy 17 ad (shR ad cy) yX12_allCells cX12_allCells 1 (some .int) 0 0 [.ref (ad 0)] M (gQi D 17 ad (shR ad cy) K) := by
  refine gM.of (own := RX12) (lv := [(0, .ref (ad 0))]) (by decide) rfl hI (Nat.le_of_ble_eq_true rfl) rfl ?_
  intro p e s m below meth c ls H locs X G hl
  have hx := X.1
  have hb := X.2.1
  unfold f_X12_allCells at h
  refine lv_iconst (v := (1)) hx hb dX12_allCells_0 (by decide) ?_
  refine lv_aload_n hx hb dX12_allCells_1 rfl (lv_at hl 0 rfl) ?_
  refine gf_Model_told X G qw_5_13 dX12_allCells_2 ?_
  refine lv_iconst (v := (0)) hx hb dX12_allCells_5 (by decide) ?_
  refine gq_iald X G rr_7 (by unfold vp_in; decide) dX12_allCells_6 ?_
  refine lv_ishl hx hb dX12_allCells_7 ?_
  refine lv_iconst (v := (1)) hx hb dX12_allCells_8 (by decide) ?_
  refine lv_isub hx hb dX12_allCells_9 ?_
  exact gq_iret X G h dX12_allCells_10
def l_X12_allBy_6 (K : Int32 → Mm → Prop) (v1 : Int32) : Nat → Int32 → Mm → Prop
  | 0, _, _ => False
  | n + 1, v2, M => ((((60 : Int32) < v2 : Prop) → K (-1000000) M) ∧ (¬ ((60 : Int32) < v2 : Prop) → (vp_in (17 + v1) 22 ∧ (f_X12_allCells  M (fun r4 M3 => ((((M 10 (17 + v1 : Int32).toNatClampNeg : Int32) = r4 : Prop) → K (v2) M3) ∧ (¬ ((M 10 (17 + v1 : Int32).toNatClampNeg : Int32) = r4 : Prop) → (f_X12_pass 10 M3 (fun M6 => (l_X12_allBy_6 K v1 n) (v2 + 1) M6)))))))))
def f_X12_allBy (v1 : Int32) (M : Mm) (K : Int32 → Mm → Prop) : Prop := (f_X12_take  M (fun M7 => ∃ z, l_X12_allBy_6 K (v1) z (0) M7))
set_option maxHeartbeats 4000000 in
set_option maxRecDepth 100000 in
theorem m_X12_allBy (hI : gI 17 ad) {v1 : Int32} {M : Mm} {K : Int32 → Mm → Prop} (h : f_X12_allBy v1 M K) : gM l D cy 17 ad (shR ad cy) yX12_allBy cX12_allBy 3 (some .int) 4 96 [.ref (ad 0), .int (v1)] M (gQi D 17 ad (shR ad cy) K) := by
  refine gM.of (own := RX12) (lv := [(0, .ref (ad 0)), (1, .int (v1))]) (by decide) rfl hI (Nat.le_of_ble_eq_true rfl) rfl ?_
  intro p e s m below meth c ls H locs X G hl
  have hx := X.1
  have hb := X.2.1
  have hL6 : ∀ (n : Nat) (v2 : Int32) (M : Mm) (H : Heap) (locs : List Loc) (ls : Array Slot), gS D s 17 ad (shR ad cy) H locs M → lv_has ls 3 [(0, .ref (ad 0)), (1, .int (v1)), (2, .int (v2))] → l_X12_allBy_6 K v1 n v2 M → gWk p l e 4 96 s m ([.ref (ad 0), .int (v1)] : List Value).toArray below meth c H locs (gQi D 17 ad (shR ad cy) K) 17 ad 6 ls [] := by
    intro n6
    induction n6 with
    | zero =>
      intro v2 M H locs ls G hl h
      exact False.elim h
    | succ n6 ih6 =>
      intro v2 M H locs ls G hl h
      rw [l_X12_allBy_6] at h
      refine lv_iload_n hx hb dX12_allBy_6 rfl (lv_at hl 2 rfl) ?_
      refine lv_bipush (v := (60)) hx hb dX12_allBy_7 (by decide) ?_
      refine lv_icmp_gt (tgt := 44) hx hb dX12_allBy_9 (by decide) (fun c1 => ?_) (fun c1 => ?_)
      · have h := h.1 c1
        refine gq_ldc (v := (-1000000)) X qw_6_0 dX12_allBy_44 ?_
        exact gq_iret X G h dX12_allBy_46
      have h := h.2 c1
      refine lv_aload_n hx hb dX12_allBy_12 rfl (lv_at hl 0 rfl) ?_
      refine gf_Model_tried X G qw_5_16 dX12_allBy_13 ?_
      refine lv_bipush (v := (17)) hx hb dX12_allBy_16 (by decide) ?_
      refine lv_iload_n hx hb dX12_allBy_18 rfl (lv_at hl 1 rfl) ?_
      refine lv_iadd hx hb dX12_allBy_19 ?_
      obtain ⟨q2, h⟩ := h
      refine gq_iald X G rr_10 q2 dX12_allBy_20 ?_
      refine lv_aload_n hx hb dX12_allBy_21 rfl (lv_at hl 0 rfl) ?_
      refine gq_calli G (gc_V (C := RX12) (rest := [.int (M 10 (17 + v1 : Int32).toNatClampNeg)]) X hl.1 G (m_X12_allCells hI  h) cw_X12_allCells qw_27_16 qw_27_17 qw_27_18 ob_Model rfl rfl rfl rfl (Nat.le_of_ble_eq_true rfl) ⟨Nat.le_of_ble_eq_true rfl, Nat.le_of_ble_eq_true rfl⟩ ⟨Nat.le_refl _, Nat.le_refl _⟩ dX12_allBy_22) (fun r4 M3 H locs G h => ?_)
      refine lv_icmp_ne (tgt := 30) hx hb dX12_allBy_25 (by decide) (fun c5 => ?_) (fun c5 => ?_)
      · have h := h.2 c5
        refine lv_aload_n hx hb dX12_allBy_30 rfl (lv_at hl 0 rfl) ?_
        refine lv_aload_n hx hb dX12_allBy_31 rfl (lv_at hl 0 rfl) ?_
        refine gf_Model_tried X G qw_5_16 dX12_allBy_32 ?_
        refine gq_callv G (gc_V (C := RX12) (rest := []) X hl.1 G (m_X12_pass hI isC_10 h) cw_X12_pass qw_19_19 qw_19_20 qw_19_21 ob_Model rfl rfl rfl rfl (Nat.le_of_ble_eq_true rfl) ⟨Nat.le_of_ble_eq_true rfl, Nat.le_of_ble_eq_true rfl⟩ ⟨Nat.le_refl _, Nat.le_refl _⟩ dX12_allBy_35) (fun M6 H locs G h => ?_)
        refine lv_iinc (v := v2 + 1) (lv' := [(2, .int (v2 + 1)), (0, .ref (ad 0)), (1, .int (v1))]) hx hb dX12_allBy_38 hl (k := 2) rfl rfl (by decide) rfl (fun ls hl => ?_)
        refine lv_goto (tgt := 6) hx hb dX12_allBy_41 (by decide) ?_
        exact ih6 (v2 + 1) M6 H locs ls G  (lv_sub hl [1, 2, 0] rfl) h
      have h := h.1 c5
      refine lv_iload_n hx hb dX12_allBy_28 rfl (lv_at hl 2 rfl) ?_
      exact gq_iret X G h dX12_allBy_29
  unfold f_X12_allBy at h
  refine lv_aload_n hx hb dX12_allBy_0 rfl (lv_at hl 0 rfl) ?_
  refine gq_callv G (gc_V (C := RX12) (rest := []) X hl.1 G (m_X12_take hI  h) cw_X12_take qw_26_20 qw_26_21 qw_26_22 ob_Model rfl rfl rfl rfl (Nat.le_of_ble_eq_true rfl) ⟨Nat.le_of_ble_eq_true rfl, Nat.le_of_ble_eq_true rfl⟩ ⟨Nat.le_refl _, Nat.le_refl _⟩ dX12_allBy_1) (fun M7 H locs G h => ?_)
  refine lv_iconst (v := (0)) hx hb dX12_allBy_4 (by decide) ?_
  refine lv_istore_n (lv' := [(2, .int (0)), (0, .ref (ad 0)), (1, .int (v1))]) hx hb dX12_allBy_5 rfl hl (by decide) rfl (fun ls hl => ?_)
  obtain ⟨n8, h⟩ := h
  exact hL6   n8 (0) M7 H locs ls G  (lv_sub hl [1, 2, 0] rfl) h
end GEN07
