section GEN08
variable {l : Launch} {D : va_G} {cy : Nat → ClassId} {ad : Nat → Nat}
def f_X12_all (v1 : Int32) (M : Mm) (K : Int32 → Mm → Prop) : Prop := (f_X12_isOne (v1) M (fun r2 M1 => ((((r2 : Int32) = 0 : Prop) → K (-1000001) M1) ∧ (¬ ((r2 : Int32) = 0 : Prop) → (f_X12_allBy (v1) M1 (fun r5 M4 => K (r5) M4))))))
set_option maxHeartbeats 4000000 in
set_option maxRecDepth 100000 in
theorem m_X12_all (hI : gI 17 ad) {v1 : Int32} {M : Mm} {K : Int32 → Mm → Prop} (h : f_X12_all v1 M K) : gM l D cy 17 ad (shR ad cy) yX12_all cX12_all 2 (some .int) 5 118 [.ref (ad 0), .int (v1)] M (gQi D 17 ad (shR ad cy) K) := by
  refine gM.of (own := RX12) (lv := [(0, .ref (ad 0)), (1, .int (v1))]) (by decide) rfl hI (Nat.le_of_ble_eq_true rfl) rfl ?_
  intro p e s m below meth c ls H locs X G hl
  have hx := X.1
  have hb := X.2.1
  unfold f_X12_all at h
  refine lv_aload_n hx hb dX12_all_0 rfl (lv_at hl 0 rfl) ?_
  refine lv_iload_n hx hb dX12_all_1 rfl (lv_at hl 1 rfl) ?_
  refine gq_calli G (gc_V (C := RX12) (rest := []) X hl.1 G (m_X12_isOne hI  h) cw_X12_isOne qw_23_3 qw_23_4 qw_23_5 ob_Model rfl rfl rfl rfl (Nat.le_of_ble_eq_true rfl) ⟨Nat.le_of_ble_eq_true rfl, Nat.le_of_ble_eq_true rfl⟩ ⟨Nat.le_refl _, Nat.le_refl _⟩ dX12_all_2) (fun r2 M1 H locs G h => ?_)
  refine lv_if_eq (tgt := 16) hx hb dX12_all_5 (by decide) (fun c3 => ?_) (fun c3 => ?_)
  · have h := h.1 c3
    refine gq_ldc (v := (-1000001)) X qw_7_8 dX12_all_16 ?_
    exact gq_iret X G h dX12_all_18
  have h := h.2 c3
  refine lv_aload_n hx hb dX12_all_8 rfl (lv_at hl 0 rfl) ?_
  refine lv_iload_n hx hb dX12_all_9 rfl (lv_at hl 1 rfl) ?_
  refine gq_calli G (gc_V (C := RX12) (rest := []) X hl.1 G (m_X12_allBy hI  h) cw_X12_allBy qw_27_12 qw_27_13 qw_27_14 ob_Model rfl rfl rfl rfl (Nat.le_of_ble_eq_true rfl) ⟨Nat.le_of_ble_eq_true rfl, Nat.le_of_ble_eq_true rfl⟩ ⟨Nat.le_refl _, Nat.le_refl _⟩ dX12_all_10) (fun r5 M4 H locs G h => ?_)
  refine lv_goto (tgt := 18) hx hb dX12_all_13 (by decide) ?_
  exact gq_iret X G h dX12_all_18
def l_X12_first_31 (K : Int32 → Mm → Prop) (v1 : Int32) : Nat → Int32 → Int32 → Int32 → Mm → Prop
  | 0, _, _, _, _ => False
  | n + 1, v2, v3, v4, M => ((((M 7 (3 : Int32).toNatClampNeg : Int32) ≤ v4 : Prop) → ((((v1 : Int32) = 0 : Prop) → K (v2) M) ∧ (¬ ((v1 : Int32) = 0 : Prop) → K (v3) M))) ∧ (¬ ((M 7 (3 : Int32).toNatClampNeg : Int32) ≤ v4 : Prop) → (f_X12_allBy (v4) M (fun r4 M3 => ((((r4 : Int32) = -1000000 : Prop) → (l_X12_first_31 K v1 n) (v2) (v3) (v4 + 1) M3) ∧ (¬ ((r4 : Int32) = -1000000 : Prop) → ((((v3 : Int32) = -1000000 : Prop) → (l_X12_first_31 K v1 n) (v4) (r4) (v4 + 1) M3) ∧ (¬ ((v3 : Int32) = -1000000 : Prop) → ((((v3 : Int32) ≤ r4 : Prop) → (l_X12_first_31 K v1 n) (v2) (v3) (v4 + 1) M3) ∧ (¬ ((v3 : Int32) ≤ r4 : Prop) → (l_X12_first_31 K v1 n) (v4) (r4) (v4 + 1) M3))))))))))
def f_X12_first (v1 : Int32) (M : Mm) (K : Int32 → Mm → Prop) : Prop := ((((M 0 20 : Int32) = 0 : Prop) → K (-1000002) M) ∧ (¬ ((M 0 20 : Int32) = 0 : Prop) → (f_X12_in (v1) (0) (1) M (fun r10 M9 => ((((r10 : Int32) = 0 : Prop) → K (-1000001) M9) ∧ (¬ ((r10 : Int32) = 0 : Prop) → ∃ z, l_X12_first_31 K (v1) z (-1000000) (-1000000) (0) M9))))))
set_option maxHeartbeats 4000000 in
set_option maxRecDepth 100000 in
theorem m_X12_first (hI : gI 17 ad) {v1 : Int32} {M : Mm} {K : Int32 → Mm → Prop} (h : f_X12_first v1 M K) : gM l D cy 17 ad (shR ad cy) yX12_first cX12_first 6 (some .int) 5 118 [.ref (ad 0), .int (v1)] M (gQi D 17 ad (shR ad cy) K) := by
  refine gM.of (own := RX12) (lv := [(0, .ref (ad 0)), (1, .int (v1))]) (by decide) rfl hI (Nat.le_of_ble_eq_true rfl) rfl ?_
  intro p e s m below meth c ls H locs X G hl
  have hx := X.1
  have hb := X.2.1
  have hL31 : ∀ (n : Nat) (v2 : Int32) (v3 : Int32) (v4 : Int32) (M : Mm) (H : Heap) (locs : List Loc) (ls : Array Slot), gS D s 17 ad (shR ad cy) H locs M → lv_has ls 6 [(0, .ref (ad 0)), (1, .int (v1)), (2, .int (v2)), (3, .int (v3)), (4, .int (v4))] → l_X12_first_31 K v1 n v2 v3 v4 M → gWk p l e 5 118 s m ([.ref (ad 0), .int (v1)] : List Value).toArray below meth c H locs (gQi D 17 ad (shR ad cy) K) 17 ad 31 ls [] := by
    intro n31
    induction n31 with
    | zero =>
      intro v2 v3 v4 M H locs ls G hl h
      exact False.elim h
    | succ n31 ih31 =>
      intro v2 v3 v4 M H locs ls G hl h
      rw [l_X12_first_31] at h
      refine lv_iload hx hb dX12_first_31 (lv_at hl 4 rfl) ?_
      refine lv_aload_n hx hb dX12_first_33 rfl (lv_at hl 0 rfl) ?_
      refine gf_Model_told X G qw_5_13 dX12_first_34 ?_
      refine lv_iconst (v := (3)) hx hb dX12_first_37 (by decide) ?_
      refine gq_iald X G rr_7 (by unfold vp_in; decide) dX12_first_38 ?_
      refine lv_icmp_ge (tgt := 81) hx hb dX12_first_39 (by decide) (fun c1 => ?_) (fun c1 => ?_)
      · have h := h.1 c1
        refine lv_iload_n hx hb dX12_first_81 rfl (lv_at hl 1 rfl) ?_
        refine lv_if_ne (tgt := 89) hx hb dX12_first_82 (by decide) (fun c2 => ?_) (fun c2 => ?_)
        · have h := h.2 c2
          refine lv_iload_n hx hb dX12_first_89 rfl (lv_at hl 3 rfl) ?_
          exact gq_iret X G h dX12_first_90
        have h := h.1 c2
        refine lv_iload_n hx hb dX12_first_85 rfl (lv_at hl 2 rfl) ?_
        refine lv_goto (tgt := 90) hx hb dX12_first_86 (by decide) ?_
        exact gq_iret X G h dX12_first_90
      have h := h.2 c1
      refine lv_aload_n hx hb dX12_first_42 rfl (lv_at hl 0 rfl) ?_
      refine lv_iload hx hb dX12_first_43 (lv_at hl 4 rfl) ?_
      refine gq_calli G (gc_V (C := RX12) (rest := []) X hl.1 G (m_X12_allBy hI  h) cw_X12_allBy qw_27_12 qw_27_13 qw_27_14 ob_Model rfl rfl rfl rfl (Nat.le_of_ble_eq_true rfl) ⟨Nat.le_of_ble_eq_true rfl, Nat.le_of_ble_eq_true rfl⟩ ⟨Nat.le_refl _, Nat.le_refl _⟩ dX12_first_45) (fun r4 M3 H locs G h => ?_)
      refine lv_istore (lv' := [(5, .int (r4)), (0, .ref (ad 0)), (1, .int (v1)), (2, .int (v2)), (3, .int (v3)), (4, .int (v4))]) hx hb dX12_first_48 hl (by decide) rfl (fun ls hl => ?_)
      refine lv_iload hx hb dX12_first_50 (lv_at hl 0 rfl) ?_
      refine gq_ldc (v := (-1000000)) X qw_6_0 dX12_first_52 ?_
      refine lv_icmp_eq (tgt := 75) hx hb dX12_first_54 (by decide) (fun c5 => ?_) (fun c5 => ?_)
      · have h := h.1 c5
        refine lv_iinc (v := v4 + 1) (lv' := [(4, .int (v4 + 1)), (5, .int (r4)), (0, .ref (ad 0)), (1, .int (v1)), (2, .int (v2)), (3, .int (v3))]) hx hb dX12_first_75 hl (k := 5) rfl rfl (by decide) rfl (fun ls hl => ?_)
        refine lv_goto (tgt := 31) hx hb dX12_first_78 (by decide) ?_
        exact ih31 (v2) (v3) (v4 + 1) M3 H locs ls G  (lv_sub hl [2, 3, 4, 5, 0] rfl) h
      have h := h.2 c5
      refine lv_iload_n hx hb dX12_first_57 rfl (lv_at hl 4 rfl) ?_
      refine gq_ldc (v := (-1000000)) X qw_6_0 dX12_first_58 ?_
      refine lv_icmp_eq (tgt := 69) hx hb dX12_first_60 (by decide) (fun c6 => ?_) (fun c6 => ?_)
      · have h := h.1 c6
        refine lv_iload hx hb dX12_first_69 (lv_at hl 5 rfl) ?_
        refine lv_istore_n (lv' := [(2, .int (v4)), (5, .int (r4)), (0, .ref (ad 0)), (1, .int (v1)), (3, .int (v3)), (4, .int (v4))]) hx hb dX12_first_71 rfl hl (by decide) rfl (fun ls hl => ?_)
        refine lv_iload hx hb dX12_first_72 (lv_at hl 1 rfl) ?_
        refine lv_istore_n (lv' := [(3, .int (r4)), (2, .int (v4)), (5, .int (r4)), (0, .ref (ad 0)), (1, .int (v1)), (4, .int (v4))]) hx hb dX12_first_74 rfl hl (by decide) rfl (fun ls hl => ?_)
        refine lv_iinc (v := v4 + 1) (lv' := [(4, .int (v4 + 1)), (3, .int (r4)), (2, .int (v4)), (5, .int (r4)), (0, .ref (ad 0)), (1, .int (v1))]) hx hb dX12_first_75 hl (k := 5) rfl rfl (by decide) rfl (fun ls hl => ?_)
        refine lv_goto (tgt := 31) hx hb dX12_first_78 (by decide) ?_
        exact ih31 (v4) (r4) (v4 + 1) M3 H locs ls G  (lv_sub hl [4, 5, 2, 1, 0] rfl) h
      have h := h.2 c6
      refine lv_iload hx hb dX12_first_63 (lv_at hl 0 rfl) ?_
      refine lv_iload_n hx hb dX12_first_65 rfl (lv_at hl 4 rfl) ?_
      refine lv_icmp_ge (tgt := 75) hx hb dX12_first_66 (by decide) (fun c7 => ?_) (fun c7 => ?_)
      · have h := h.1 c7
        refine lv_iinc (v := v4 + 1) (lv' := [(4, .int (v4 + 1)), (5, .int (r4)), (0, .ref (ad 0)), (1, .int (v1)), (2, .int (v2)), (3, .int (v3))]) hx hb dX12_first_75 hl (k := 5) rfl rfl (by decide) rfl (fun ls hl => ?_)
        refine lv_goto (tgt := 31) hx hb dX12_first_78 (by decide) ?_
        exact ih31 (v2) (v3) (v4 + 1) M3 H locs ls G  (lv_sub hl [2, 3, 4, 5, 0] rfl) h
      have h := h.2 c7
      refine lv_iload hx hb dX12_first_69 (lv_at hl 5 rfl) ?_
      refine lv_istore_n (lv' := [(2, .int (v4)), (5, .int (r4)), (0, .ref (ad 0)), (1, .int (v1)), (3, .int (v3)), (4, .int (v4))]) hx hb dX12_first_71 rfl hl (by decide) rfl (fun ls hl => ?_)
      refine lv_iload hx hb dX12_first_72 (lv_at hl 1 rfl) ?_
      refine lv_istore_n (lv' := [(3, .int (r4)), (2, .int (v4)), (5, .int (r4)), (0, .ref (ad 0)), (1, .int (v1)), (4, .int (v4))]) hx hb dX12_first_74 rfl hl (by decide) rfl (fun ls hl => ?_)
      refine lv_iinc (v := v4 + 1) (lv' := [(4, .int (v4 + 1)), (3, .int (r4)), (2, .int (v4)), (5, .int (r4)), (0, .ref (ad 0)), (1, .int (v1))]) hx hb dX12_first_75 hl (k := 5) rfl rfl (by decide) rfl (fun ls hl => ?_)
      refine lv_goto (tgt := 31) hx hb dX12_first_78 (by decide) ?_
      exact ih31 (v4) (r4) (v4 + 1) M3 H locs ls G  (lv_sub hl [4, 5, 2, 1, 0] rfl) h
  unfold f_X12_first at h
  refine lv_aload_n hx hb dX12_first_0 rfl (lv_at hl 0 rfl) ?_
  refine gf_Model_isRead X G qw_14_8 dX12_first_1 ?_
  refine lv_if_ne (tgt := 10) hx hb dX12_first_4 (by decide) (fun c8 => ?_) (fun c8 => ?_)
  · have h := h.2 c8
    refine lv_iload_n hx hb dX12_first_10 rfl (lv_at hl 1 rfl) ?_
    refine lv_iconst (v := (0)) hx hb dX12_first_11 (by decide) ?_
    refine lv_iconst (v := (1)) hx hb dX12_first_12 (by decide) ?_
    refine gq_calli G (gc_S (rest := []) X hl.1 G (m_X12_in hI  h) cw_X12_in qw_7_12 qw_7_13 rfl rfl (Nat.le_of_ble_eq_true rfl) ⟨Nat.le_of_ble_eq_true rfl, Nat.le_of_ble_eq_true rfl⟩ ⟨Nat.le_refl _, Nat.le_refl _⟩ dX12_first_13) (fun r10 M9 H locs G h => ?_)
    refine lv_if_ne (tgt := 22) hx hb dX12_first_16 (by decide) (fun c11 => ?_) (fun c11 => ?_)
    · have h := h.2 c11
      refine gq_ldc (v := (-1000000)) X qw_6_0 dX12_first_22 ?_
      refine lv_istore_n (lv' := [(2, .int (-1000000)), (0, .ref (ad 0)), (1, .int (v1))]) hx hb dX12_first_24 rfl hl (by decide) rfl (fun ls hl => ?_)
      refine gq_ldc (v := (-1000000)) X qw_6_0 dX12_first_25 ?_
      refine lv_istore_n (lv' := [(3, .int (-1000000)), (2, .int (-1000000)), (0, .ref (ad 0)), (1, .int (v1))]) hx hb dX12_first_27 rfl hl (by decide) rfl (fun ls hl => ?_)
      refine lv_iconst (v := (0)) hx hb dX12_first_28 (by decide) ?_
      refine lv_istore (lv' := [(4, .int (0)), (3, .int (-1000000)), (2, .int (-1000000)), (0, .ref (ad 0)), (1, .int (v1))]) hx hb dX12_first_29 hl (by decide) rfl (fun ls hl => ?_)
      obtain ⟨n12, h⟩ := h
      exact hL31   n12 (-1000000) (-1000000) (0) M9 H locs ls G  (lv_sub hl [3, 4, 2, 1, 0] rfl) h
    have h := h.1 c11
    refine gq_ldc (v := (-1000001)) X qw_7_8 dX12_first_19 ?_
    exact gq_iret X G h dX12_first_21
  have h := h.1 c8
  refine gq_ldc (v := (-1000002)) X qw_19_14 dX12_first_7 ?_
  exact gq_iret X G h dX12_first_9
def l_X12_bitsOf_4 (K : Int32 → Mm → Prop) (v0 : Int32) : Nat → Int32 → Int32 → Mm → Prop
  | 0, _, _, _ => False
  | n + 1, v1, v2, M => ((((24 : Int32) ≤ v2 : Prop) → K (v1) M) ∧ (¬ ((24 : Int32) ≤ v2 : Prop) → (l_X12_bitsOf_4 K v0 n) (v1 + ((v0 >>> (v2 &&& 31)) &&& 1)) (v2 + 1) M))
def f_X12_bitsOf (v0 : Int32) (M : Mm) (K : Int32 → Mm → Prop) : Prop := ∃ z, l_X12_bitsOf_4 K (v0) z (0) (0) M
set_option maxHeartbeats 4000000 in
set_option maxRecDepth 100000 in
theorem m_X12_bitsOf (hI : gI 17 ad) {v0 : Int32} {M : Mm} {K : Int32 → Mm → Prop} (h : f_X12_bitsOf v0 M K) : gM l D cy 17 ad (shR ad cy) yX12_bitsOf cX12_bitsOf 3 (some .int) 0 0 [.int (v0)] M (gQi D 17 ad (shR ad cy) K) := by
  refine gM.of (own := RX12) (lv := [(0, .int (v0))]) (by decide) rfl hI (Nat.le_of_ble_eq_true rfl) rfl ?_
  intro p e s m below meth c ls H locs X G hl
  have hx := X.1
  have hb := X.2.1
  have hL4 : ∀ (n : Nat) (v1 : Int32) (v2 : Int32) (M : Mm) (H : Heap) (locs : List Loc) (ls : Array Slot), gS D s 17 ad (shR ad cy) H locs M → lv_has ls 3 [(0, .int (v0)), (1, .int (v1)), (2, .int (v2))] → l_X12_bitsOf_4 K v0 n v1 v2 M → gWk p l e 0 0 s m ([.int (v0)] : List Value).toArray below meth c H locs (gQi D 17 ad (shR ad cy) K) 17 ad 4 ls [] := by
    intro n4
    induction n4 with
    | zero =>
      intro v1 v2 M H locs ls G hl h
      exact False.elim h
    | succ n4 ih4 =>
      intro v1 v2 M H locs ls G hl h
      rw [l_X12_bitsOf_4] at h
      refine lv_iload_n hx hb dX12_bitsOf_4 rfl (lv_at hl 2 rfl) ?_
      refine lv_bipush (v := (24)) hx hb dX12_bitsOf_5 (by decide) ?_
      refine lv_icmp_ge (tgt := 24) hx hb dX12_bitsOf_7 (by decide) (fun c1 => ?_) (fun c1 => ?_)
      · have h := h.1 c1
        refine lv_iload_n hx hb dX12_bitsOf_24 rfl (lv_at hl 1 rfl) ?_
        exact gq_iret X G h dX12_bitsOf_25
      have h := h.2 c1
      refine lv_iload_n hx hb dX12_bitsOf_10 rfl (lv_at hl 1 rfl) ?_
      refine lv_iload_n hx hb dX12_bitsOf_11 rfl (lv_at hl 0 rfl) ?_
      refine lv_iload_n hx hb dX12_bitsOf_12 rfl (lv_at hl 2 rfl) ?_
      refine lv_ishr hx hb dX12_bitsOf_13 ?_
      refine lv_iconst (v := (1)) hx hb dX12_bitsOf_14 (by decide) ?_
      refine lv_iand hx hb dX12_bitsOf_15 ?_
      refine lv_iadd hx hb dX12_bitsOf_16 ?_
      refine lv_istore_n (lv' := [(1, .int (v1 + ((v0 >>> (v2 &&& 31)) &&& 1))), (0, .int (v0)), (2, .int (v2))]) hx hb dX12_bitsOf_17 rfl hl (by decide) rfl (fun ls hl => ?_)
      refine lv_iinc (v := v2 + 1) (lv' := [(2, .int (v2 + 1)), (1, .int (v1 + ((v0 >>> (v2 &&& 31)) &&& 1))), (0, .int (v0))]) hx hb dX12_bitsOf_18 hl (k := 2) rfl rfl (by decide) rfl (fun ls hl => ?_)
      refine lv_goto (tgt := 4) hx hb dX12_bitsOf_21 (by decide) ?_
      exact ih4 (v1 + ((v0 >>> (v2 &&& 31)) &&& 1)) (v2 + 1) M H locs ls G  (lv_sub hl [2, 1, 0] rfl) h
  unfold f_X12_bitsOf at h
  refine lv_iconst (v := (0)) hx hb dX12_bitsOf_0 (by decide) ?_
  refine lv_istore_n (lv' := [(1, .int (0)), (0, .int (v0))]) hx hb dX12_bitsOf_1 rfl hl (by decide) rfl (fun ls hl => ?_)
  refine lv_iconst (v := (0)) hx hb dX12_bitsOf_2 (by decide) ?_
  refine lv_istore_n (lv' := [(2, .int (0)), (1, .int (0)), (0, .int (v0))]) hx hb dX12_bitsOf_3 rfl hl (by decide) rfl (fun ls hl => ?_)
  obtain ⟨n2, h⟩ := h
  exact hL4   n2 (0) (0) M H locs ls G  (lv_sub hl [2, 1, 0] rfl) h
def f_X12_both (v1 : Int32) (v2 : Int32) (v3 : Int32) (M : Mm) (K : Int32 → Mm → Prop) : Prop := (f_X12_isOne (v1) M (fun r2 M1 => ((((r2 : Int32) = 0 : Prop) → K (-1000001) M1) ∧ (¬ ((r2 : Int32) = 0 : Prop) → (f_X12_isOne (v2) M1 (fun r5 M4 => ((((r5 : Int32) = 0 : Prop) → K (-1000001) M4) ∧ (¬ ((r5 : Int32) = 0 : Prop) → ((((v1 : Int32) = v2 : Prop) → K (-1000001) M4) ∧ (¬ ((v1 : Int32) = v2 : Prop) → (f_X12_in (v3) (0) (1) M4 (fun r9 M8 => ((((r9 : Int32) = 0 : Prop) → K (-1000001) M8) ∧ (¬ ((r9 : Int32) = 0 : Prop) → (vp_in (17 + v1) 22 ∧ (vp_in (17 + v2) 22 ∧ ((((v3 : Int32) = 0 : Prop) → K ((M8 9 (17 + v1 : Int32).toNatClampNeg) &&& (M8 9 (17 + v2 : Int32).toNatClampNeg)) M8) ∧ (¬ ((v3 : Int32) = 0 : Prop) → (f_X12_bitsOf (((M8 9 (17 + v1 : Int32).toNatClampNeg) &&& ((M8 9 (17 + v2 : Int32).toNatClampNeg) >>> (1 &&& 31))) &&& (((M8 9 (17 + v1 : Int32).toNatClampNeg) >>> (1 &&& 31)) ^^^ (-1))) M8 (fun r15 M14 => K (r15) M14))))))))))))))))))))
set_option maxHeartbeats 4000000 in
set_option maxRecDepth 100000 in
theorem m_X12_both (hI : gI 17 ad) {v1 : Int32} {v2 : Int32} {v3 : Int32} {M : Mm} {K : Int32 → Mm → Prop} (h : f_X12_both v1 v2 v3 M K) : gM l D cy 17 ad (shR ad cy) yX12_both cX12_both 6 (some .int) 2 43 [.ref (ad 0), .int (v1), .int (v2), .int (v3)] M (gQi D 17 ad (shR ad cy) K) := by
  refine gM.of (own := RX12) (lv := [(0, .ref (ad 0)), (1, .int (v1)), (2, .int (v2)), (3, .int (v3))]) (by decide) rfl hI (Nat.le_of_ble_eq_true rfl) rfl ?_
  intro p e s m below meth c ls H locs X G hl
  have hx := X.1
  have hb := X.2.1
  unfold f_X12_both at h
  refine lv_aload_n hx hb dX12_both_0 rfl (lv_at hl 0 rfl) ?_
  refine lv_iload_n hx hb dX12_both_1 rfl (lv_at hl 1 rfl) ?_
  refine gq_calli G (gc_V (C := RX12) (rest := []) X hl.1 G (m_X12_isOne hI  h) cw_X12_isOne qw_23_3 qw_23_4 qw_23_5 ob_Model rfl rfl rfl rfl (Nat.le_of_ble_eq_true rfl) ⟨Nat.le_of_ble_eq_true rfl, Nat.le_of_ble_eq_true rfl⟩ ⟨Nat.le_refl _, Nat.le_refl _⟩ dX12_both_2) (fun r2 M1 H locs G h => ?_)
  refine lv_if_eq (tgt := 30) hx hb dX12_both_5 (by decide) (fun c3 => ?_) (fun c3 => ?_)
  · have h := h.1 c3
    refine gq_ldc (v := (-1000001)) X qw_7_8 dX12_both_30 ?_
    exact gq_iret X G h dX12_both_32
  have h := h.2 c3
  refine lv_aload_n hx hb dX12_both_8 rfl (lv_at hl 0 rfl) ?_
  refine lv_iload_n hx hb dX12_both_9 rfl (lv_at hl 2 rfl) ?_
  refine gq_calli G (gc_V (C := RX12) (rest := []) X hl.1 G (m_X12_isOne hI  h) cw_X12_isOne qw_23_3 qw_23_4 qw_23_5 ob_Model rfl rfl rfl rfl (Nat.le_of_ble_eq_true rfl) ⟨Nat.le_of_ble_eq_true rfl, Nat.le_of_ble_eq_true rfl⟩ ⟨Nat.le_refl _, Nat.le_refl _⟩ dX12_both_10) (fun r5 M4 H locs G h => ?_)
  refine lv_if_eq (tgt := 30) hx hb dX12_both_13 (by decide) (fun c6 => ?_) (fun c6 => ?_)
  · have h := h.1 c6
    refine gq_ldc (v := (-1000001)) X qw_7_8 dX12_both_30 ?_
    exact gq_iret X G h dX12_both_32
  have h := h.2 c6
  refine lv_iload_n hx hb dX12_both_16 rfl (lv_at hl 1 rfl) ?_
  refine lv_iload_n hx hb dX12_both_17 rfl (lv_at hl 2 rfl) ?_
  refine lv_icmp_eq (tgt := 30) hx hb dX12_both_18 (by decide) (fun c7 => ?_) (fun c7 => ?_)
  · have h := h.1 c7
    refine gq_ldc (v := (-1000001)) X qw_7_8 dX12_both_30 ?_
    exact gq_iret X G h dX12_both_32
  have h := h.2 c7
  refine lv_iload_n hx hb dX12_both_21 rfl (lv_at hl 3 rfl) ?_
  refine lv_iconst (v := (0)) hx hb dX12_both_22 (by decide) ?_
  refine lv_iconst (v := (1)) hx hb dX12_both_23 (by decide) ?_
  refine gq_calli G (gc_S (rest := []) X hl.1 G (m_X12_in hI  h) cw_X12_in qw_7_12 qw_7_13 rfl rfl (Nat.le_of_ble_eq_true rfl) ⟨Nat.le_of_ble_eq_true rfl, Nat.le_of_ble_eq_true rfl⟩ ⟨Nat.le_refl _, Nat.le_refl _⟩ dX12_both_24) (fun r9 M8 H locs G h => ?_)
  refine lv_if_ne (tgt := 33) hx hb dX12_both_27 (by decide) (fun c10 => ?_) (fun c10 => ?_)
  · have h := h.2 c10
    refine lv_aload_n hx hb dX12_both_33 rfl (lv_at hl 0 rfl) ?_
    refine gf_Model_now X G qw_5_15 dX12_both_34 ?_
    refine lv_bipush (v := (17)) hx hb dX12_both_37 (by decide) ?_
    refine lv_iload_n hx hb dX12_both_39 rfl (lv_at hl 1 rfl) ?_
    refine lv_iadd hx hb dX12_both_40 ?_
    obtain ⟨q11, h⟩ := h
    refine gq_iald X G rr_9 q11 dX12_both_41 ?_
    refine lv_istore (lv' := [(4, .int (M8 9 (17 + v1 : Int32).toNatClampNeg)), (0, .ref (ad 0)), (1, .int (v1)), (2, .int (v2)), (3, .int (v3))]) hx hb dX12_both_42 hl (by decide) rfl (fun ls hl => ?_)
    refine lv_aload_n hx hb dX12_both_44 rfl (lv_at hl 1 rfl) ?_
    refine gf_Model_now X G qw_5_15 dX12_both_45 ?_
    refine lv_bipush (v := (17)) hx hb dX12_both_48 (by decide) ?_
    refine lv_iload_n hx hb dX12_both_50 rfl (lv_at hl 3 rfl) ?_
    refine lv_iadd hx hb dX12_both_51 ?_
    obtain ⟨q12, h⟩ := h
    refine gq_iald X G rr_9 q12 dX12_both_52 ?_
    refine lv_istore (lv' := [(5, .int (M8 9 (17 + v2 : Int32).toNatClampNeg)), (4, .int (M8 9 (17 + v1 : Int32).toNatClampNeg)), (0, .ref (ad 0)), (1, .int (v1)), (2, .int (v2)), (3, .int (v3))]) hx hb dX12_both_53 hl (by decide) rfl (fun ls hl => ?_)
    refine lv_iload_n hx hb dX12_both_55 rfl (lv_at hl 5 rfl) ?_
    refine lv_if_ne (tgt := 67) hx hb dX12_both_56 (by decide) (fun c13 => ?_) (fun c13 => ?_)
    · have h := h.2 c13
      refine lv_iload hx hb dX12_both_67 (lv_at hl 1 rfl) ?_
      refine lv_iload hx hb dX12_both_69 (lv_at hl 0 rfl) ?_
      refine lv_iconst (v := (1)) hx hb dX12_both_71 (by decide) ?_
      refine lv_ishr hx hb dX12_both_72 ?_
      refine lv_iand hx hb dX12_both_73 ?_
      refine lv_iload hx hb dX12_both_74 (lv_at hl 1 rfl) ?_
      refine lv_iconst (v := (1)) hx hb dX12_both_76 (by decide) ?_
      refine lv_ishr hx hb dX12_both_77 ?_
      refine lv_iconst (v := (-1)) hx hb dX12_both_78 (by decide) ?_
      refine lv_ixor hx hb dX12_both_79 ?_
      refine lv_iand hx hb dX12_both_80 ?_
      refine gq_calli G (gc_S (rest := []) X hl.1 G (m_X12_bitsOf hI  h) cw_X12_bitsOf qw_28_23 qw_29_0 rfl rfl (Nat.le_of_ble_eq_true rfl) ⟨Nat.le_of_ble_eq_true rfl, Nat.le_of_ble_eq_true rfl⟩ ⟨Nat.le_refl _, Nat.le_refl _⟩ dX12_both_81) (fun r15 M14 H locs G h => ?_)
      exact gq_iret X G h dX12_both_84
    have h := h.1 c13
    refine lv_iload hx hb dX12_both_59 (lv_at hl 1 rfl) ?_
    refine lv_iload hx hb dX12_both_61 (lv_at hl 0 rfl) ?_
    refine lv_iand hx hb dX12_both_63 ?_
    refine lv_goto (tgt := 84) hx hb dX12_both_64 (by decide) ?_
    exact gq_iret X G h dX12_both_84
  have h := h.1 c10
  refine gq_ldc (v := (-1000001)) X qw_7_8 dX12_both_30 ?_
  exact gq_iret X G h dX12_both_32
def f_X12_together_121 (K : Int32 → Mm → Prop) (k27 : Int32 → Int32 → Mm → Prop) (v1 : Int32) (v2 : Int32) (v3 : Int32) (s0 : Int32) (M : Mm) : Prop := ((((s0 : Int32) = 0 : Prop) → k27 (v2) (v3 + 1) M) ∧ (¬ ((s0 : Int32) = 0 : Prop) → k27 (v3) (v3 + 1) M))
def f_X12_together_120 (K : Int32 → Mm → Prop) (k27 : Int32 → Int32 → Mm → Prop) (v1 : Int32) (v2 : Int32) (v3 : Int32) (M : Mm) : Prop := f_X12_together_121 K k27 (v1) (v2) (v3) (0) M
def f_X12_together_116 (K : Int32 → Mm → Prop) (k27 : Int32 → Int32 → Mm → Prop) (v1 : Int32) (v2 : Int32) (v3 : Int32) (M : Mm) : Prop := f_X12_together_121 K k27 (v1) (v2) (v3) (1) M
def l_X12_together_45 (K : Int32 → Mm → Prop) (k27 : Int32 → Int32 → Mm → Prop) (v1 : Int32) (v2 : Int32) (v3 : Int32) : Nat → Int32 → Int32 → Mm → Prop
  | 0, _, _, _ => False
  | n + 1, v4, v5, M => ((((M 7 (3 : Int32).toNatClampNeg : Int32) ≤ v5 : Prop) → (f_X12_allCells  M (fun r4 M3 => ((((v4 : Int32) = r4 : Prop) → ((((v2 : Int32) = -1000000 : Prop) → f_X12_together_116 K k27 (v1) (v2) (v3) M3) ∧ (¬ ((v2 : Int32) = -1000000 : Prop) → (f_X12_bitsOf (v3) M3 (fun r8 M7 => (f_X12_bitsOf (v2) M7 (fun r10 M9 => ((((r10 : Int32) ≤ r8 : Prop) → f_X12_together_120 K k27 (v1) (v2) (v3) M9) ∧ (¬ ((r10 : Int32) ≤ r8 : Prop) → f_X12_together_116 K k27 (v1) (v2) (v3) M9))))))))) ∧ (¬ ((v4 : Int32) = r4 : Prop) → f_X12_together_120 K k27 (v1) (v2) (v3) M3))))) ∧ (¬ ((M 7 (3 : Int32).toNatClampNeg : Int32) ≤ v5 : Prop) → (f_X12_has (v3) (v5) M (fun r13 M12 => ((((r13 : Int32) = 0 : Prop) → (l_X12_together_45 K k27 v1 v2 v3 n) (v4 ||| 0) (v5 + 1) M12) ∧ (¬ ((r13 : Int32) = 0 : Prop) → (vp_in (17 + v5) 22 ∧ (l_X12_together_45 K k27 v1 v2 v3 n) (v4 ||| (M12 9 (17 + v5 : Int32).toNatClampNeg)) (v5 + 1) M12)))))))
def l_X12_together_27 (K : Int32 → Mm → Prop) (v1 : Int32) : Nat → Int32 → Int32 → Mm → Prop
  | 0, _, _, _ => False
  | n + 1, v2, v3, M => ((((1 <<< ((M 7 (3 : Int32).toNatClampNeg) &&& 31) : Int32) ≤ v3 : Prop) → ((((v2 : Int32) = -1000000 : Prop) → K (v2) M) ∧ (¬ ((v2 : Int32) = -1000000 : Prop) → ((((v1 : Int32) = 1 : Prop) → K (v2) M) ∧ (¬ ((v1 : Int32) = 1 : Prop) → (f_X12_bitsOf (v2) M (fun r20 M19 => K (r20) M19))))))) ∧ (¬ ((1 <<< ((M 7 (3 : Int32).toNatClampNeg) &&& 31) : Int32) ≤ v3 : Prop) → ∃ z, l_X12_together_45 K (fun a0 a1 a => (l_X12_together_27 K v1 n) a0 a1 a) (v1) (v2) (v3) z (0) (0) M))
def f_X12_together (v1 : Int32) (M : Mm) (K : Int32 → Mm → Prop) : Prop := ((((M 0 20 : Int32) = 0 : Prop) → K (-1000002) M) ∧ (¬ ((M 0 20 : Int32) = 0 : Prop) → (f_X12_in (v1) (0) (1) M (fun r24 M23 => ((((r24 : Int32) = 0 : Prop) → K (-1000001) M23) ∧ (¬ ((r24 : Int32) = 0 : Prop) → ∃ z, l_X12_together_27 K (v1) z (-1000000) (0) M23))))))
set_option maxHeartbeats 4000000 in
set_option maxRecDepth 100000 in
theorem m_X12_together (hI : gI 17 ad) {v1 : Int32} {M : Mm} {K : Int32 → Mm → Prop} (h : f_X12_together v1 M K) : gM l D cy 17 ad (shR ad cy) yX12_together cX12_together 6 (some .int) 1 22 [.ref (ad 0), .int (v1)] M (gQi D 17 ad (shR ad cy) K) := by
  refine gM.of (own := RX12) (lv := [(0, .ref (ad 0)), (1, .int (v1))]) (by decide) rfl hI (Nat.le_of_ble_eq_true rfl) rfl ?_
  intro p e s m below meth c ls H locs X G hl
  have hx := X.1
  have hb := X.2.1
  have hL27 : ∀ (n : Nat) (v2 : Int32) (v3 : Int32) (M : Mm) (H : Heap) (locs : List Loc) (ls : Array Slot), gS D s 17 ad (shR ad cy) H locs M → lv_has ls 6 [(0, .ref (ad 0)), (1, .int (v1)), (2, .int (v2)), (3, .int (v3))] → l_X12_together_27 K v1 n v2 v3 M → gWk p l e 1 22 s m ([.ref (ad 0), .int (v1)] : List Value).toArray below meth c H locs (gQi D 17 ad (shR ad cy) K) 17 ad 27 ls [] := by
    intro n27
    induction n27 with
    | zero =>
      intro v2 v3 M H locs ls G hl h
      exact False.elim h
    | succ n27 ih27 =>
      have hJ121 : ∀ (v2 : Int32) (v3 : Int32) (s0 : Int32) (M : Mm) (H : Heap) (locs : List Loc) (ls : Array Slot), gS D s 17 ad (shR ad cy) H locs M → lv_has ls 6 [(0, .ref (ad 0)), (1, .int (v1)), (2, .int (v2)), (3, .int (v3))] → f_X12_together_121 K (fun a0 a1 a => (l_X12_together_27 K v1 n27) a0 a1 a) v1 v2 v3 s0 M → gWk p l e 1 22 s m ([.ref (ad 0), .int (v1)] : List Value).toArray below meth c H locs (gQi D 17 ad (shR ad cy) K) 17 ad 121 ls [.int (s0)] := by
        intro v2 v3 s0 M H locs ls G hl h
        unfold f_X12_together_121 at h
        refine lv_istore (lv' := [(5, .int (s0)), (0, .ref (ad 0)), (1, .int (v1)), (2, .int (v2)), (3, .int (v3))]) hx hb dX12_together_121 hl (by decide) rfl (fun ls hl => ?_)
        refine lv_iload hx hb dX12_together_123 (lv_at hl 0 rfl) ?_
        refine lv_if_eq (tgt := 132) hx hb dX12_together_125 (by decide) (fun c1 => ?_) (fun c1 => ?_)
        · have h := h.1 c1
          refine lv_iload_n hx hb dX12_together_132 rfl (lv_at hl 3 rfl) ?_
          refine lv_istore_n (lv' := [(2, .int (v2)), (5, .int (s0)), (0, .ref (ad 0)), (1, .int (v1)), (3, .int (v3))]) hx hb dX12_together_133 rfl hl (by decide) rfl (fun ls hl => ?_)
          refine lv_iinc (v := v3 + 1) (lv' := [(3, .int (v3 + 1)), (2, .int (v2)), (5, .int (s0)), (0, .ref (ad 0)), (1, .int (v1))]) hx hb dX12_together_134 hl (k := 4) rfl rfl (by decide) rfl (fun ls hl => ?_)
          refine lv_goto (tgt := 27) hx hb dX12_together_137 (by decide) ?_
          exact ih27 (v2) (v3 + 1) M H locs ls G  (lv_sub hl [3, 4, 1, 0] rfl) h
        have h := h.2 c1
        refine lv_iload_n hx hb dX12_together_128 rfl (lv_at hl 4 rfl) ?_
        refine lv_goto (tgt := 133) hx hb dX12_together_129 (by decide) ?_
        refine lv_istore_n (lv' := [(2, .int (v3)), (5, .int (s0)), (0, .ref (ad 0)), (1, .int (v1)), (3, .int (v3))]) hx hb dX12_together_133 rfl hl (by decide) rfl (fun ls hl => ?_)
        refine lv_iinc (v := v3 + 1) (lv' := [(3, .int (v3 + 1)), (2, .int (v3)), (5, .int (s0)), (0, .ref (ad 0)), (1, .int (v1))]) hx hb dX12_together_134 hl (k := 4) rfl rfl (by decide) rfl (fun ls hl => ?_)
        refine lv_goto (tgt := 27) hx hb dX12_together_137 (by decide) ?_
        exact ih27 (v3) (v3 + 1) M H locs ls G  (lv_sub hl [3, 4, 1, 0] rfl) h
      have hJ120 : ∀ (v2 : Int32) (v3 : Int32) (M : Mm) (H : Heap) (locs : List Loc) (ls : Array Slot), gS D s 17 ad (shR ad cy) H locs M → lv_has ls 6 [(0, .ref (ad 0)), (1, .int (v1)), (2, .int (v2)), (3, .int (v3))] → f_X12_together_120 K (fun a0 a1 a => (l_X12_together_27 K v1 n27) a0 a1 a) v1 v2 v3 M → gWk p l e 1 22 s m ([.ref (ad 0), .int (v1)] : List Value).toArray below meth c H locs (gQi D 17 ad (shR ad cy) K) 17 ad 120 ls [] := by
        intro v2 v3 M H locs ls G hl h
        unfold f_X12_together_120 at h
        refine lv_iconst (v := (0)) hx hb dX12_together_120 (by decide) ?_
        exact hJ121 (v2) (v3) (0) M H locs ls G  (lv_sub hl [0, 1, 2, 3] rfl) h
      have hJ116 : ∀ (v2 : Int32) (v3 : Int32) (M : Mm) (H : Heap) (locs : List Loc) (ls : Array Slot), gS D s 17 ad (shR ad cy) H locs M → lv_has ls 6 [(0, .ref (ad 0)), (1, .int (v1)), (2, .int (v2)), (3, .int (v3))] → f_X12_together_116 K (fun a0 a1 a => (l_X12_together_27 K v1 n27) a0 a1 a) v1 v2 v3 M → gWk p l e 1 22 s m ([.ref (ad 0), .int (v1)] : List Value).toArray below meth c H locs (gQi D 17 ad (shR ad cy) K) 17 ad 116 ls [] := by
        intro v2 v3 M H locs ls G hl h
        unfold f_X12_together_116 at h
        refine lv_iconst (v := (1)) hx hb dX12_together_116 (by decide) ?_
        refine lv_goto (tgt := 121) hx hb dX12_together_117 (by decide) ?_
        exact hJ121 (v2) (v3) (1) M H locs ls G  (lv_sub hl [0, 1, 2, 3] rfl) h
      have hL45 : ∀ (v2 : Int32) (v3 : Int32) (n : Nat) (v4 : Int32) (v5 : Int32) (M : Mm) (H : Heap) (locs : List Loc) (ls : Array Slot), gS D s 17 ad (shR ad cy) H locs M → lv_has ls 6 [(0, .ref (ad 0)), (1, .int (v1)), (2, .int (v2)), (3, .int (v3)), (4, .int (v4)), (5, .int (v5))] → l_X12_together_45 K (fun a0 a1 a => (l_X12_together_27 K v1 n27) a0 a1 a) v1 v2 v3 n v4 v5 M → gWk p l e 1 22 s m ([.ref (ad 0), .int (v1)] : List Value).toArray below meth c H locs (gQi D 17 ad (shR ad cy) K) 17 ad 45 ls [] := by
        intro v2 v3 n45
        induction n45 with
        | zero =>
          intro v4 v5 M H locs ls G hl h
          exact False.elim h
        | succ n45 ih45 =>
          intro v4 v5 M H locs ls G hl h
          rw [l_X12_together_45] at h
          refine lv_iload hx hb dX12_together_45 (lv_at hl 5 rfl) ?_
          refine lv_aload_n hx hb dX12_together_47 rfl (lv_at hl 0 rfl) ?_
          refine gf_Model_told X G qw_5_13 dX12_together_48 ?_
          refine lv_iconst (v := (3)) hx hb dX12_together_51 (by decide) ?_
          refine gq_iald X G rr_7 (by unfold vp_in; decide) dX12_together_52 ?_
          refine lv_icmp_ge (tgt := 90) hx hb dX12_together_53 (by decide) (fun c2 => ?_) (fun c2 => ?_)
          · have h := h.1 c2
            refine lv_iload hx hb dX12_together_90 (lv_at hl 4 rfl) ?_
            refine lv_aload_n hx hb dX12_together_92 rfl (lv_at hl 0 rfl) ?_
            refine gq_calli G (gc_V (C := RX12) (rest := [.int (v4)]) X hl.1 G (m_X12_allCells hI  h) cw_X12_allCells qw_27_16 qw_27_17 qw_27_18 ob_Model rfl rfl rfl rfl (Nat.le_of_ble_eq_true rfl) ⟨Nat.le_of_ble_eq_true rfl, Nat.le_of_ble_eq_true rfl⟩ ⟨Nat.le_refl _, Nat.le_refl _⟩ dX12_together_93) (fun r4 M3 H locs G h => ?_)
            refine lv_icmp_ne (tgt := 120) hx hb dX12_together_96 (by decide) (fun c5 => ?_) (fun c5 => ?_)
            · have h := h.2 c5
              exact hJ120 (v2) (v3)  M3 H locs ls G  (lv_sub hl [0, 1, 2, 3] rfl) h
            have h := h.1 c5
            refine lv_iload_n hx hb dX12_together_99 rfl (lv_at hl 2 rfl) ?_
            refine gq_ldc (v := (-1000000)) X qw_6_0 dX12_together_100 ?_
            refine lv_icmp_eq (tgt := 116) hx hb dX12_together_102 (by decide) (fun c6 => ?_) (fun c6 => ?_)
            · have h := h.1 c6
              exact hJ116 (v2) (v3)  M3 H locs ls G  (lv_sub hl [0, 1, 2, 3] rfl) h
            have h := h.2 c6
            refine lv_iload_n hx hb dX12_together_105 rfl (lv_at hl 3 rfl) ?_
            refine gq_calli G (gc_S (rest := []) X hl.1 G (m_X12_bitsOf hI  h) cw_X12_bitsOf qw_28_23 qw_29_0 rfl rfl (Nat.le_of_ble_eq_true rfl) ⟨Nat.le_of_ble_eq_true rfl, Nat.le_of_ble_eq_true rfl⟩ ⟨Nat.le_refl _, Nat.le_refl _⟩ dX12_together_106) (fun r8 M7 H locs G h => ?_)
            refine lv_iload_n hx hb dX12_together_109 rfl (lv_at hl 2 rfl) ?_
            refine gq_calli G (gc_S (rest := [.int (r8)]) X hl.1 G (m_X12_bitsOf hI  h) cw_X12_bitsOf qw_28_23 qw_29_0 rfl rfl (Nat.le_of_ble_eq_true rfl) ⟨Nat.le_of_ble_eq_true rfl, Nat.le_of_ble_eq_true rfl⟩ ⟨Nat.le_refl _, Nat.le_refl _⟩ dX12_together_110) (fun r10 M9 H locs G h => ?_)
            refine lv_icmp_ge (tgt := 120) hx hb dX12_together_113 (by decide) (fun c11 => ?_) (fun c11 => ?_)
            · have h := h.1 c11
              exact hJ120 (v2) (v3)  M9 H locs ls G  (lv_sub hl [0, 1, 2, 3] rfl) h
            have h := h.2 c11
            exact hJ116 (v2) (v3)  M9 H locs ls G  (lv_sub hl [0, 1, 2, 3] rfl) h
          have h := h.2 c2
          refine lv_iload hx hb dX12_together_56 (lv_at hl 4 rfl) ?_
          refine lv_iload_n hx hb dX12_together_58 rfl (lv_at hl 3 rfl) ?_
          refine lv_iload hx hb dX12_together_59 (lv_at hl 5 rfl) ?_
          refine gq_calli G (gc_S (rest := [.int (v4)]) X hl.1 G (m_X12_has hI  h) cw_X12_has qw_22_10 qw_22_11 rfl rfl (Nat.le_of_ble_eq_true rfl) ⟨Nat.le_of_ble_eq_true rfl, Nat.le_of_ble_eq_true rfl⟩ ⟨Nat.le_refl _, Nat.le_refl _⟩ dX12_together_61) (fun r13 M12 H locs G h => ?_)
          refine lv_if_eq (tgt := 80) hx hb dX12_together_64 (by decide) (fun c14 => ?_) (fun c14 => ?_)
          · have h := h.1 c14
            refine lv_iconst (v := (0)) hx hb dX12_together_80 (by decide) ?_
            refine lv_ior hx hb dX12_together_81 ?_
            refine lv_istore (lv' := [(4, .int (v4 ||| 0)), (0, .ref (ad 0)), (1, .int (v1)), (2, .int (v2)), (3, .int (v3)), (5, .int (v5))]) hx hb dX12_together_82 hl (by decide) rfl (fun ls hl => ?_)
            refine lv_iinc (v := v5 + 1) (lv' := [(5, .int (v5 + 1)), (4, .int (v4 ||| 0)), (0, .ref (ad 0)), (1, .int (v1)), (2, .int (v2)), (3, .int (v3))]) hx hb dX12_together_84 hl (k := 5) rfl rfl (by decide) rfl (fun ls hl => ?_)
            refine lv_goto (tgt := 45) hx hb dX12_together_87 (by decide) ?_
            exact ih45 (v4 ||| 0) (v5 + 1) M12 H locs ls G  (lv_sub hl [2, 3, 4, 5, 1, 0] rfl) h
          have h := h.2 c14
          refine lv_aload_n hx hb dX12_together_67 rfl (lv_at hl 0 rfl) ?_
          refine gf_Model_now X G qw_5_15 dX12_together_68 ?_
          refine lv_bipush (v := (17)) hx hb dX12_together_71 (by decide) ?_
          refine lv_iload hx hb dX12_together_73 (lv_at hl 5 rfl) ?_
          refine lv_iadd hx hb dX12_together_75 ?_
          obtain ⟨q15, h⟩ := h
          refine gq_iald X G rr_9 q15 dX12_together_76 ?_
          refine lv_goto (tgt := 81) hx hb dX12_together_77 (by decide) ?_
          refine lv_ior hx hb dX12_together_81 ?_
          refine lv_istore (lv' := [(4, .int (v4 ||| (M12 9 (17 + v5 : Int32).toNatClampNeg))), (0, .ref (ad 0)), (1, .int (v1)), (2, .int (v2)), (3, .int (v3)), (5, .int (v5))]) hx hb dX12_together_82 hl (by decide) rfl (fun ls hl => ?_)
          refine lv_iinc (v := v5 + 1) (lv' := [(5, .int (v5 + 1)), (4, .int (v4 ||| (M12 9 (17 + v5 : Int32).toNatClampNeg))), (0, .ref (ad 0)), (1, .int (v1)), (2, .int (v2)), (3, .int (v3))]) hx hb dX12_together_84 hl (k := 5) rfl rfl (by decide) rfl (fun ls hl => ?_)
          refine lv_goto (tgt := 45) hx hb dX12_together_87 (by decide) ?_
          exact ih45 (v4 ||| (M12 9 (17 + v5 : Int32).toNatClampNeg)) (v5 + 1) M12 H locs ls G  (lv_sub hl [2, 3, 4, 5, 1, 0] rfl) h
      intro v2 v3 M H locs ls G hl h
      rw [l_X12_together_27] at h
      refine lv_iload_n hx hb dX12_together_27 rfl (lv_at hl 3 rfl) ?_
      refine lv_iconst (v := (1)) hx hb dX12_together_28 (by decide) ?_
      refine lv_aload_n hx hb dX12_together_29 rfl (lv_at hl 0 rfl) ?_
      refine gf_Model_told X G qw_5_13 dX12_together_30 ?_
      refine lv_iconst (v := (3)) hx hb dX12_together_33 (by decide) ?_
      refine gq_iald X G rr_7 (by unfold vp_in; decide) dX12_together_34 ?_
      refine lv_ishl hx hb dX12_together_35 ?_
      refine lv_icmp_ge (tgt := 140) hx hb dX12_together_36 (by decide) (fun c16 => ?_) (fun c16 => ?_)
      · have h := h.1 c16
        refine lv_iload_n hx hb dX12_together_140 rfl (lv_at hl 2 rfl) ?_
        refine gq_ldc (v := (-1000000)) X qw_6_0 dX12_together_141 ?_
        refine lv_icmp_eq (tgt := 151) hx hb dX12_together_143 (by decide) (fun c17 => ?_) (fun c17 => ?_)
        · have h := h.1 c17
          refine lv_iload_n hx hb dX12_together_151 rfl (lv_at hl 2 rfl) ?_
          refine lv_goto (tgt := 159) hx hb dX12_together_152 (by decide) ?_
          exact gq_iret X G h dX12_together_159
        have h := h.2 c17
        refine lv_iload_n hx hb dX12_together_146 rfl (lv_at hl 1 rfl) ?_
        refine lv_iconst (v := (1)) hx hb dX12_together_147 (by decide) ?_
        refine lv_icmp_ne (tgt := 155) hx hb dX12_together_148 (by decide) (fun c18 => ?_) (fun c18 => ?_)
        · have h := h.2 c18
          refine lv_iload_n hx hb dX12_together_155 rfl (lv_at hl 2 rfl) ?_
          refine gq_calli G (gc_S (rest := []) X hl.1 G (m_X12_bitsOf hI  h) cw_X12_bitsOf qw_28_23 qw_29_0 rfl rfl (Nat.le_of_ble_eq_true rfl) ⟨Nat.le_of_ble_eq_true rfl, Nat.le_of_ble_eq_true rfl⟩ ⟨Nat.le_refl _, Nat.le_refl _⟩ dX12_together_156) (fun r20 M19 H locs G h => ?_)
          exact gq_iret X G h dX12_together_159
        have h := h.1 c18
        refine lv_iload_n hx hb dX12_together_151 rfl (lv_at hl 2 rfl) ?_
        refine lv_goto (tgt := 159) hx hb dX12_together_152 (by decide) ?_
        exact gq_iret X G h dX12_together_159
      have h := h.2 c16
      refine lv_iconst (v := (0)) hx hb dX12_together_39 (by decide) ?_
      refine lv_istore (lv' := [(4, .int (0)), (0, .ref (ad 0)), (1, .int (v1)), (2, .int (v2)), (3, .int (v3))]) hx hb dX12_together_40 hl (by decide) rfl (fun ls hl => ?_)
      refine lv_iconst (v := (0)) hx hb dX12_together_42 (by decide) ?_
      refine lv_istore (lv' := [(5, .int (0)), (4, .int (0)), (0, .ref (ad 0)), (1, .int (v1)), (2, .int (v2)), (3, .int (v3))]) hx hb dX12_together_43 hl (by decide) rfl (fun ls hl => ?_)
      obtain ⟨n21, h⟩ := h
      exact hL45 (v2) (v3)  n21 (0) (0) M H locs ls G  (lv_sub hl [2, 3, 4, 5, 1, 0] rfl) h
  unfold f_X12_together at h
  refine lv_aload_n hx hb dX12_together_0 rfl (lv_at hl 0 rfl) ?_
  refine gf_Model_isRead X G qw_14_8 dX12_together_1 ?_
  refine lv_if_ne (tgt := 10) hx hb dX12_together_4 (by decide) (fun c22 => ?_) (fun c22 => ?_)
  · have h := h.2 c22
    refine lv_iload_n hx hb dX12_together_10 rfl (lv_at hl 1 rfl) ?_
    refine lv_iconst (v := (0)) hx hb dX12_together_11 (by decide) ?_
    refine lv_iconst (v := (1)) hx hb dX12_together_12 (by decide) ?_
    refine gq_calli G (gc_S (rest := []) X hl.1 G (m_X12_in hI  h) cw_X12_in qw_7_12 qw_7_13 rfl rfl (Nat.le_of_ble_eq_true rfl) ⟨Nat.le_of_ble_eq_true rfl, Nat.le_of_ble_eq_true rfl⟩ ⟨Nat.le_refl _, Nat.le_refl _⟩ dX12_together_13) (fun r24 M23 H locs G h => ?_)
    refine lv_if_ne (tgt := 22) hx hb dX12_together_16 (by decide) (fun c25 => ?_) (fun c25 => ?_)
    · have h := h.2 c25
      refine gq_ldc (v := (-1000000)) X qw_6_0 dX12_together_22 ?_
      refine lv_istore_n (lv' := [(2, .int (-1000000)), (0, .ref (ad 0)), (1, .int (v1))]) hx hb dX12_together_24 rfl hl (by decide) rfl (fun ls hl => ?_)
      refine lv_iconst (v := (0)) hx hb dX12_together_25 (by decide) ?_
      refine lv_istore_n (lv' := [(3, .int (0)), (2, .int (-1000000)), (0, .ref (ad 0)), (1, .int (v1))]) hx hb dX12_together_26 rfl hl (by decide) rfl (fun ls hl => ?_)
      obtain ⟨n26, h⟩ := h
      exact hL27   n26 (-1000000) (0) M23 H locs ls G  (lv_sub hl [2, 3, 1, 0] rfl) h
    have h := h.1 c25
    refine gq_ldc (v := (-1000001)) X qw_7_8 dX12_together_19 ?_
    exact gq_iret X G h dX12_together_21
  have h := h.1 c22
  refine gq_ldc (v := (-1000002)) X qw_19_14 dX12_together_7 ?_
  exact gq_iret X G h dX12_together_9
def l_X12_beyond_34 (K : Int32 → Mm → Prop) (v1 : Int32) (v2 : Int32) (v3 : Int32) : Nat → Int32 → Int32 → Mm → Prop
  | 0, _, _, _ => False
  | n + 1, v4, v5, M => ((((M 7 (0 : Int32).toNatClampNeg : Int32) ≤ v5 : Prop) → K (v4) M) ∧ (¬ ((M 7 (0 : Int32).toNatClampNeg : Int32) ≤ v5 : Prop) → (vp_in (17 + v1) 22 ∧ (f_X12_has (M 9 (17 + v1 : Int32).toNatClampNeg) (v5) M (fun r4 M3 => ((((r4 : Int32) = 0 : Prop) → (l_X12_beyond_34 K v1 v2 v3 n) (v4) (v5 + 1) M3) ∧ (¬ ((r4 : Int32) = 0 : Prop) → (¬ v3 = 0 ∧ (¬ v3 = 0 ∧ ((((v5 - v5 / v3 * v3 : Int32) = v2 - v2 / v3 * v3 : Prop) → (vp_in (4 + v5) 33 ∧ (l_X12_beyond_34 K v1 v2 v3 n) (M3 7 (4 + v5 : Int32).toNatClampNeg) (v5 + 1) M3)) ∧ (¬ ((v5 - v5 / v3 * v3 : Int32) = v2 - v2 / v3 * v3 : Prop) → (l_X12_beyond_34 K v1 v2 v3 n) (v4) (v5 + 1) M3)))))))))))
def f_X12_beyond (v1 : Int32) (v2 : Int32) (M : Mm) (K : Int32 → Mm → Prop) : Prop := (f_X12_isOne (v1) M (fun r11 M10 => ((((r11 : Int32) = 0 : Prop) → K (-1000001) M10) ∧ (¬ ((r11 : Int32) = 0 : Prop) → (f_X12_in (v2) (0) (99) M10 (fun r14 M13 => ((((r14 : Int32) = 0 : Prop) → K (-1000001) M13) ∧ (¬ ((r14 : Int32) = 0 : Prop) → (f_X12_periodOf (v1) M13 (fun r17 M16 => ∃ z, l_X12_beyond_34 K (v1) (v2) (r17) z (-1000000) (0) M16))))))))))
set_option maxHeartbeats 4000000 in
set_option maxRecDepth 100000 in
theorem m_X12_beyond (hI : gI 17 ad) {v1 : Int32} {v2 : Int32} {M : Mm} {K : Int32 → Mm → Prop} (h : f_X12_beyond v1 v2 M K) : gM l D cy 17 ad (shR ad cy) yX12_beyond cX12_beyond 6 (some .int) 3 68 [.ref (ad 0), .int (v1), .int (v2)] M (gQi D 17 ad (shR ad cy) K) := by
  refine gM.of (own := RX12) (lv := [(0, .ref (ad 0)), (1, .int (v1)), (2, .int (v2))]) (by decide) rfl hI (Nat.le_of_ble_eq_true rfl) rfl ?_
  intro p e s m below meth c ls H locs X G hl
  have hx := X.1
  have hb := X.2.1
  have hL34 : ∀ (v3 : Int32) (n : Nat) (v4 : Int32) (v5 : Int32) (M : Mm) (H : Heap) (locs : List Loc) (ls : Array Slot), gS D s 17 ad (shR ad cy) H locs M → lv_has ls 6 [(0, .ref (ad 0)), (1, .int (v1)), (2, .int (v2)), (3, .int (v3)), (4, .int (v4)), (5, .int (v5))] → l_X12_beyond_34 K v1 v2 v3 n v4 v5 M → gWk p l e 3 68 s m ([.ref (ad 0), .int (v1), .int (v2)] : List Value).toArray below meth c H locs (gQi D 17 ad (shR ad cy) K) 17 ad 34 ls [] := by
    intro v3 n34
    induction n34 with
    | zero =>
      intro v4 v5 M H locs ls G hl h
      exact False.elim h
    | succ n34 ih34 =>
      intro v4 v5 M H locs ls G hl h
      rw [l_X12_beyond_34] at h
      refine lv_iload hx hb dX12_beyond_34 (lv_at hl 5 rfl) ?_
      refine lv_aload_n hx hb dX12_beyond_36 rfl (lv_at hl 0 rfl) ?_
      refine gf_Model_told X G qw_5_13 dX12_beyond_37 ?_
      refine lv_iconst (v := (0)) hx hb dX12_beyond_40 (by decide) ?_
      refine gq_iald X G rr_7 (by unfold vp_in; decide) dX12_beyond_41 ?_
      refine lv_icmp_ge (tgt := 94) hx hb dX12_beyond_42 (by decide) (fun c1 => ?_) (fun c1 => ?_)
      · have h := h.1 c1
        refine lv_iload hx hb dX12_beyond_94 (lv_at hl 4 rfl) ?_
        exact gq_iret X G h dX12_beyond_96
      have h := h.2 c1
      refine lv_aload_n hx hb dX12_beyond_45 rfl (lv_at hl 0 rfl) ?_
      refine gf_Model_now X G qw_5_15 dX12_beyond_46 ?_
      refine lv_bipush (v := (17)) hx hb dX12_beyond_49 (by decide) ?_
      refine lv_iload_n hx hb dX12_beyond_51 rfl (lv_at hl 1 rfl) ?_
      refine lv_iadd hx hb dX12_beyond_52 ?_
      obtain ⟨q2, h⟩ := h
      refine gq_iald X G rr_9 q2 dX12_beyond_53 ?_
      refine lv_iload hx hb dX12_beyond_54 (lv_at hl 5 rfl) ?_
      refine gq_calli G (gc_S (rest := []) X hl.1 G (m_X12_has hI  h) cw_X12_has qw_22_10 qw_22_11 rfl rfl (Nat.le_of_ble_eq_true rfl) ⟨Nat.le_of_ble_eq_true rfl, Nat.le_of_ble_eq_true rfl⟩ ⟨Nat.le_refl _, Nat.le_refl _⟩ dX12_beyond_56) (fun r4 M3 H locs G h => ?_)
      refine lv_if_eq (tgt := 84) hx hb dX12_beyond_59 (by decide) (fun c5 => ?_) (fun c5 => ?_)
      · have h := h.1 c5
        refine lv_iload hx hb dX12_beyond_84 (lv_at hl 4 rfl) ?_
        refine lv_istore (lv' := [(4, .int (v4)), (0, .ref (ad 0)), (1, .int (v1)), (2, .int (v2)), (3, .int (v3)), (5, .int (v5))]) hx hb dX12_beyond_86 hl (by decide) rfl (fun ls hl => ?_)
        refine lv_iinc (v := v5 + 1) (lv' := [(5, .int (v5 + 1)), (4, .int (v4)), (0, .ref (ad 0)), (1, .int (v1)), (2, .int (v2)), (3, .int (v3))]) hx hb dX12_beyond_88 hl (k := 5) rfl rfl (by decide) rfl (fun ls hl => ?_)
        refine lv_goto (tgt := 34) hx hb dX12_beyond_91 (by decide) ?_
        exact ih34 (v4) (v5 + 1) M3 H locs ls G  (lv_sub hl [2, 3, 4, 5, 1, 0] rfl) h
      have h := h.2 c5
      refine lv_iload hx hb dX12_beyond_62 (lv_at hl 5 rfl) ?_
      refine lv_iload_n hx hb dX12_beyond_64 rfl (lv_at hl 3 rfl) ?_
      obtain ⟨q6, h⟩ := h
      refine lv_irem hx hb dX12_beyond_65 q6 ?_
      refine lv_iload_n hx hb dX12_beyond_66 rfl (lv_at hl 2 rfl) ?_
      refine lv_iload_n hx hb dX12_beyond_67 rfl (lv_at hl 3 rfl) ?_
      obtain ⟨q7, h⟩ := h
      refine lv_irem hx hb dX12_beyond_68 q7 ?_
      refine lv_icmp_ne (tgt := 84) hx hb dX12_beyond_69 (by decide) (fun c8 => ?_) (fun c8 => ?_)
      · have h := h.2 c8
        refine lv_iload hx hb dX12_beyond_84 (lv_at hl 4 rfl) ?_
        refine lv_istore (lv' := [(4, .int (v4)), (0, .ref (ad 0)), (1, .int (v1)), (2, .int (v2)), (3, .int (v3)), (5, .int (v5))]) hx hb dX12_beyond_86 hl (by decide) rfl (fun ls hl => ?_)
        refine lv_iinc (v := v5 + 1) (lv' := [(5, .int (v5 + 1)), (4, .int (v4)), (0, .ref (ad 0)), (1, .int (v1)), (2, .int (v2)), (3, .int (v3))]) hx hb dX12_beyond_88 hl (k := 5) rfl rfl (by decide) rfl (fun ls hl => ?_)
        refine lv_goto (tgt := 34) hx hb dX12_beyond_91 (by decide) ?_
        exact ih34 (v4) (v5 + 1) M3 H locs ls G  (lv_sub hl [2, 3, 4, 5, 1, 0] rfl) h
      have h := h.1 c8
      refine lv_aload_n hx hb dX12_beyond_72 rfl (lv_at hl 0 rfl) ?_
      refine gf_Model_told X G qw_5_13 dX12_beyond_73 ?_
      refine lv_iconst (v := (4)) hx hb dX12_beyond_76 (by decide) ?_
      refine lv_iload hx hb dX12_beyond_77 (lv_at hl 5 rfl) ?_
      refine lv_iadd hx hb dX12_beyond_79 ?_
      obtain ⟨q9, h⟩ := h
      refine gq_iald X G rr_7 q9 dX12_beyond_80 ?_
      refine lv_goto (tgt := 86) hx hb dX12_beyond_81 (by decide) ?_
      refine lv_istore (lv' := [(4, .int (M3 7 (4 + v5 : Int32).toNatClampNeg)), (0, .ref (ad 0)), (1, .int (v1)), (2, .int (v2)), (3, .int (v3)), (5, .int (v5))]) hx hb dX12_beyond_86 hl (by decide) rfl (fun ls hl => ?_)
      refine lv_iinc (v := v5 + 1) (lv' := [(5, .int (v5 + 1)), (4, .int (M3 7 (4 + v5 : Int32).toNatClampNeg)), (0, .ref (ad 0)), (1, .int (v1)), (2, .int (v2)), (3, .int (v3))]) hx hb dX12_beyond_88 hl (k := 5) rfl rfl (by decide) rfl (fun ls hl => ?_)
      refine lv_goto (tgt := 34) hx hb dX12_beyond_91 (by decide) ?_
      exact ih34 (M3 7 (4 + v5 : Int32).toNatClampNeg) (v5 + 1) M3 H locs ls G  (lv_sub hl [2, 3, 4, 5, 1, 0] rfl) h
  unfold f_X12_beyond at h
  refine lv_aload_n hx hb dX12_beyond_0 rfl (lv_at hl 0 rfl) ?_
  refine lv_iload_n hx hb dX12_beyond_1 rfl (lv_at hl 1 rfl) ?_
  refine gq_calli G (gc_V (C := RX12) (rest := []) X hl.1 G (m_X12_isOne hI  h) cw_X12_isOne qw_23_3 qw_23_4 qw_23_5 ob_Model rfl rfl rfl rfl (Nat.le_of_ble_eq_true rfl) ⟨Nat.le_of_ble_eq_true rfl, Nat.le_of_ble_eq_true rfl⟩ ⟨Nat.le_refl _, Nat.le_refl _⟩ dX12_beyond_2) (fun r11 M10 H locs G h => ?_)
  refine lv_if_eq (tgt := 18) hx hb dX12_beyond_5 (by decide) (fun c12 => ?_) (fun c12 => ?_)
  · have h := h.1 c12
    refine gq_ldc (v := (-1000001)) X qw_7_8 dX12_beyond_18 ?_
    exact gq_iret X G h dX12_beyond_20
  have h := h.2 c12
  refine lv_iload_n hx hb dX12_beyond_8 rfl (lv_at hl 2 rfl) ?_
  refine lv_iconst (v := (0)) hx hb dX12_beyond_9 (by decide) ?_
  refine lv_bipush (v := (99)) hx hb dX12_beyond_10 (by decide) ?_
  refine gq_calli G (gc_S (rest := []) X hl.1 G (m_X12_in hI  h) cw_X12_in qw_7_12 qw_7_13 rfl rfl (Nat.le_of_ble_eq_true rfl) ⟨Nat.le_of_ble_eq_true rfl, Nat.le_of_ble_eq_true rfl⟩ ⟨Nat.le_refl _, Nat.le_refl _⟩ dX12_beyond_12) (fun r14 M13 H locs G h => ?_)
  refine lv_if_ne (tgt := 21) hx hb dX12_beyond_15 (by decide) (fun c15 => ?_) (fun c15 => ?_)
  · have h := h.2 c15
    refine lv_aload_n hx hb dX12_beyond_21 rfl (lv_at hl 0 rfl) ?_
    refine lv_iload_n hx hb dX12_beyond_22 rfl (lv_at hl 1 rfl) ?_
    refine gq_calli G (gc_V (C := RX12) (rest := []) X hl.1 G (m_X12_periodOf hI  h) cw_X12_periodOf qw_25_21 qw_25_22 qw_25_23 ob_Model rfl rfl rfl rfl (Nat.le_of_ble_eq_true rfl) ⟨Nat.le_of_ble_eq_true rfl, Nat.le_of_ble_eq_true rfl⟩ ⟨Nat.le_refl _, Nat.le_refl _⟩ dX12_beyond_23) (fun r17 M16 H locs G h => ?_)
    refine lv_istore_n (lv' := [(3, .int (r17)), (0, .ref (ad 0)), (1, .int (v1)), (2, .int (v2))]) hx hb dX12_beyond_26 rfl hl (by decide) rfl (fun ls hl => ?_)
    refine gq_ldc (v := (-1000000)) X qw_6_0 dX12_beyond_27 ?_
    refine lv_istore (lv' := [(4, .int (-1000000)), (3, .int (r17)), (0, .ref (ad 0)), (1, .int (v1)), (2, .int (v2))]) hx hb dX12_beyond_29 hl (by decide) rfl (fun ls hl => ?_)
    refine lv_iconst (v := (0)) hx hb dX12_beyond_31 (by decide) ?_
    refine lv_istore (lv' := [(5, .int (0)), (4, .int (-1000000)), (3, .int (r17)), (0, .ref (ad 0)), (1, .int (v1)), (2, .int (v2))]) hx hb dX12_beyond_32 hl (by decide) rfl (fun ls hl => ?_)
    obtain ⟨n18, h⟩ := h
    exact hL34 (r17)  n18 (-1000000) (0) M16 H locs ls G  (lv_sub hl [3, 4, 5, 2, 1, 0] rfl) h
  have h := h.1 c15
  refine gq_ldc (v := (-1000001)) X qw_7_8 dX12_beyond_18 ?_
  exact gq_iret X G h dX12_beyond_20
def f_X12_piece_208 (K : Int32 → Mm → Prop) (s0 : Int32) (s1 : Nat) (M : Mm) : Prop := (f_X12_well (s0) M (fun r2 M1 => K (r2) M1))
def f_X12_piece_172 (K : Int32 → Mm → Prop) (k83 : Int32 → Int32 → Int32 → Mm → Prop) (v1 : Int32) (v2 : Int32) (v3 : Int32) (v4 : Int32) (v5 : Int32) (v7 : Int32) (v8 : Int32) (s0 : Int32) (M : Mm) : Prop := ((((v8 : Int32) = 0 : Prop) → k83 (v5 + 0) (s0) (v7 + 1) M) ∧ (¬ ((v8 : Int32) = 0 : Prop) → k83 (v5 + 1) (s0) (v7 + 1) M))
def f_X12_piece_170 (K : Int32 → Mm → Prop) (k83 : Int32 → Int32 → Int32 → Mm → Prop) (v1 : Int32) (v2 : Int32) (v3 : Int32) (v4 : Int32) (v5 : Int32) (v6 : Int32) (v7 : Int32) (v8 : Int32) (M : Mm) : Prop := f_X12_piece_172 K k83 (v1) (v2) (v3) (v4) (v5) (v7) (v8) (v6) M
def l_X12_piece_102 (K : Int32 → Mm → Prop) (k83 : Int32 → Int32 → Int32 → Mm → Prop) (v1 : Int32) (v2 : Int32) (v3 : Int32) (v4 : Int32) (v5 : Int32) (v6 : Int32) (v7 : Int32) : Nat → Int32 → Int32 → Mm → Prop
  | 0, _, _, _ => False
  | n + 1, v8, v9, M => ((((v3 : Int32) ≤ v9 : Prop) → ((((v8 : Int32) = 0 : Prop) → f_X12_piece_170 K k83 (v1) (v2) (v3) (v4) (v5) (v6) (v7) (v8) M) ∧ (¬ ((v8 : Int32) = 0 : Prop) → ((((v5 : Int32) = 0 : Prop) → f_X12_piece_172 K k83 (v1) (v2) (v3) (v4) (v5) (v7) (v8) (v7) M) ∧ (¬ ((v5 : Int32) = 0 : Prop) → f_X12_piece_170 K k83 (v1) (v2) (v3) (v4) (v5) (v6) (v7) (v8) M))))) ∧ (¬ ((v3 : Int32) ≤ v9 : Prop) → ((((v8 : Int32) = 0 : Prop) → (l_X12_piece_102 K k83 v1 v2 v3 v4 v5 v6 v7 n) (0) (v9 + 1) M) ∧ (¬ ((v8 : Int32) = 0 : Prop) → (vp_in ((4 + v7) + v9) 33 ∧ (vp_in (((40 * v1) + v2) + v9) 320 ∧ ((((M 7 ((4 + v7) + v9 : Int32).toNatClampNeg : Int32) = M 3 (((40 * v1) + v2) + v9 : Int32).toNatClampNeg : Prop) → (l_X12_piece_102 K k83 v1 v2 v3 v4 v5 v6 v7 n) (1) (v9 + 1) M) ∧ (¬ ((M 7 ((4 + v7) + v9 : Int32).toNatClampNeg : Int32) = M 3 (((40 * v1) + v2) + v9 : Int32).toNatClampNeg : Prop) → (l_X12_piece_102 K k83 v1 v2 v3 v4 v5 v6 v7 n) (0) (v9 + 1) M))))))))
def l_X12_piece_83 (K : Int32 → Mm → Prop) (v1 : Int32) (v2 : Int32) (v3 : Int32) (v4 : Int32) : Nat → Int32 → Int32 → Int32 → Mm → Prop
  | 0, _, _, _, _ => False
  | n + 1, v5, v6, v7, M => ((((M 7 (0 : Int32).toNatClampNeg : Int32) < v7 + v3 : Prop) → ((((v4 : Int32) = 0 : Prop) → f_X12_piece_208 K (v5) (0) M) ∧ (¬ ((v4 : Int32) = 0 : Prop) → f_X12_piece_208 K (v6) (0) M))) ∧ (¬ ((M 7 (0 : Int32).toNatClampNeg : Int32) < v7 + v3 : Prop) → ∃ z, l_X12_piece_102 K (fun a0 a1 a2 a => (l_X12_piece_83 K v1 v2 v3 v4 n) a0 a1 a2 a) (v1) (v2) (v3) (v4) (v5) (v6) (v7) z (1) (0) M))
def f_X12_piece (v1 : Int32) (v2 : Int32) (v3 : Int32) (v4 : Int32) (M : Mm) (K : Int32 → Mm → Prop) : Prop := ((((M 0 20 : Int32) = 0 : Prop) → K (-1000002) M) ∧ (¬ ((M 0 20 : Int32) = 0 : Prop) → (f_X12_isRow (v1) M (fun r16 M15 => ((((r16 : Int32) = 0 : Prop) → K (-1000001) M15) ∧ (¬ ((r16 : Int32) = 0 : Prop) → (f_X12_in (v3) (1) (12) M15 (fun r19 M18 => ((((r19 : Int32) = 0 : Prop) → K (-1000001) M18) ∧ (¬ ((r19 : Int32) = 0 : Prop) → (f_X12_in (v4) (0) (1) M18 (fun r22 M21 => ((((r22 : Int32) = 0 : Prop) → K (-1000001) M21) ∧ (¬ ((r22 : Int32) = 0 : Prop) → (vp_in (v1) 8 ∧ ((((M21 1 (v1 : Int32).toNatClampNeg : Int32) = -1000000 : Prop) → (f_X12_found (1) M21 (fun r33 M32 => K (r33) M32))) ∧ (¬ ((M21 1 (v1 : Int32).toNatClampNeg : Int32) = -1000000 : Prop) → (f_X12_isIn (v1) (v2) (v3) M21 (fun r27 M26 => ((((r27 : Int32) = 0 : Prop) → (f_X12_found (2) M26 (fun r31 M30 => K (r31) M30))) ∧ (¬ ((r27 : Int32) = 0 : Prop) → ∃ z, l_X12_piece_83 K (v1) (v2) (v3) (v4) z (0) (-1000000) (0) M26)))))))))))))))))))))
set_option maxHeartbeats 4000000 in
set_option maxRecDepth 100000 in
theorem m_X12_piece (hI : gI 17 ad) {v1 : Int32} {v2 : Int32} {v3 : Int32} {v4 : Int32} {M : Mm} {K : Int32 → Mm → Prop} (h : f_X12_piece v1 v2 v3 v4 M K) : gM l D cy 17 ad (shR ad cy) yX12_piece cX12_piece 10 (some .int) 2 42 [.ref (ad 0), .int (v1), .int (v2), .int (v3), .int (v4)] M (gQi D 17 ad (shR ad cy) K) := by
  refine gM.of (own := RX12) (lv := [(0, .ref (ad 0)), (1, .int (v1)), (2, .int (v2)), (3, .int (v3)), (4, .int (v4))]) (by decide) rfl hI (Nat.le_of_ble_eq_true rfl) rfl ?_
  intro p e s m below meth c ls H locs X G hl
  have hx := X.1
  have hb := X.2.1
  have hJ208 : ∀ (s0 : Int32) (s1 : Nat) (M : Mm) (H : Heap) (locs : List Loc) (ls : Array Slot), gS D s 17 ad (shR ad cy) H locs M → lv_has ls 10 [] → f_X12_piece_208 K s0 s1 M → gWk p l e 2 42 s m ([.ref (ad 0), .int (v1), .int (v2), .int (v3), .int (v4)] : List Value).toArray below meth c H locs (gQi D 17 ad (shR ad cy) K) 17 ad 208 ls [.int (s0), .ref (ad 0)] := by
    intro s0 s1 M H locs ls G hl h
    unfold f_X12_piece_208 at h
    refine gq_calli G (gc_V (C := RX12) (rest := []) X hl.1 G (m_X12_well hI  h) cw_X12_well qw_7_21 qw_7_22 qw_7_23 ob_Model rfl rfl rfl rfl (Nat.le_of_ble_eq_true rfl) ⟨Nat.le_of_ble_eq_true rfl, Nat.le_of_ble_eq_true rfl⟩ ⟨Nat.le_refl _, Nat.le_refl _⟩ dX12_piece_208) (fun r2 M1 H locs G h => ?_)
    exact gq_iret X G h dX12_piece_211
  have hL83 : ∀ (n : Nat) (v5 : Int32) (v6 : Int32) (v7 : Int32) (M : Mm) (H : Heap) (locs : List Loc) (ls : Array Slot), gS D s 17 ad (shR ad cy) H locs M → lv_has ls 10 [(0, .ref (ad 0)), (1, .int (v1)), (2, .int (v2)), (3, .int (v3)), (4, .int (v4)), (5, .int (v5)), (6, .int (v6)), (7, .int (v7))] → l_X12_piece_83 K v1 v2 v3 v4 n v5 v6 v7 M → gWk p l e 2 42 s m ([.ref (ad 0), .int (v1), .int (v2), .int (v3), .int (v4)] : List Value).toArray below meth c H locs (gQi D 17 ad (shR ad cy) K) 17 ad 83 ls [] := by
    intro n83
    induction n83 with
    | zero =>
      intro v5 v6 v7 M H locs ls G hl h
      exact False.elim h
    | succ n83 ih83 =>
      have hJ172 : ∀ (v5 : Int32) (v7 : Int32) (v8 : Int32) (s0 : Int32) (M : Mm) (H : Heap) (locs : List Loc) (ls : Array Slot), gS D s 17 ad (shR ad cy) H locs M → lv_has ls 10 [(0, .ref (ad 0)), (1, .int (v1)), (2, .int (v2)), (3, .int (v3)), (4, .int (v4)), (5, .int (v5)), (7, .int (v7)), (8, .int (v8))] → f_X12_piece_172 K (fun a0 a1 a2 a => (l_X12_piece_83 K v1 v2 v3 v4 n83) a0 a1 a2 a) v1 v2 v3 v4 v5 v7 v8 s0 M → gWk p l e 2 42 s m ([.ref (ad 0), .int (v1), .int (v2), .int (v3), .int (v4)] : List Value).toArray below meth c H locs (gQi D 17 ad (shR ad cy) K) 17 ad 172 ls [.int (s0)] := by
        intro v5 v7 v8 s0 M H locs ls G hl h
        unfold f_X12_piece_172 at h
        refine lv_istore (lv' := [(6, .int (s0)), (0, .ref (ad 0)), (1, .int (v1)), (2, .int (v2)), (3, .int (v3)), (4, .int (v4)), (5, .int (v5)), (7, .int (v7)), (8, .int (v8))]) hx hb dX12_piece_172 hl (by decide) rfl (fun ls hl => ?_)
        refine lv_iload hx hb dX12_piece_174 (lv_at hl 6 rfl) ?_
        refine lv_iload hx hb dX12_piece_176 (lv_at hl 8 rfl) ?_
        refine lv_if_eq (tgt := 185) hx hb dX12_piece_178 (by decide) (fun c3 => ?_) (fun c3 => ?_)
        · have h := h.1 c3
          refine lv_iconst (v := (0)) hx hb dX12_piece_185 (by decide) ?_
          refine lv_iadd hx hb dX12_piece_186 ?_
          refine lv_istore (lv' := [(5, .int (v5 + 0)), (6, .int (s0)), (0, .ref (ad 0)), (1, .int (v1)), (2, .int (v2)), (3, .int (v3)), (4, .int (v4)), (7, .int (v7)), (8, .int (v8))]) hx hb dX12_piece_187 hl (by decide) rfl (fun ls hl => ?_)
          refine lv_iinc (v := v7 + 1) (lv' := [(7, .int (v7 + 1)), (5, .int (v5 + 0)), (6, .int (s0)), (0, .ref (ad 0)), (1, .int (v1)), (2, .int (v2)), (3, .int (v3)), (4, .int (v4)), (8, .int (v8))]) hx hb dX12_piece_189 hl (k := 7) rfl rfl (by decide) rfl (fun ls hl => ?_)
          refine lv_goto (tgt := 83) hx hb dX12_piece_192 (by decide) ?_
          exact ih83 (v5 + 0) (s0) (v7 + 1) M H locs ls G  (lv_sub hl [3, 4, 5, 6, 7, 1, 2, 0] rfl) h
        have h := h.2 c3
        refine lv_iconst (v := (1)) hx hb dX12_piece_181 (by decide) ?_
        refine lv_goto (tgt := 186) hx hb dX12_piece_182 (by decide) ?_
        refine lv_iadd hx hb dX12_piece_186 ?_
        refine lv_istore (lv' := [(5, .int (v5 + 1)), (6, .int (s0)), (0, .ref (ad 0)), (1, .int (v1)), (2, .int (v2)), (3, .int (v3)), (4, .int (v4)), (7, .int (v7)), (8, .int (v8))]) hx hb dX12_piece_187 hl (by decide) rfl (fun ls hl => ?_)
        refine lv_iinc (v := v7 + 1) (lv' := [(7, .int (v7 + 1)), (5, .int (v5 + 1)), (6, .int (s0)), (0, .ref (ad 0)), (1, .int (v1)), (2, .int (v2)), (3, .int (v3)), (4, .int (v4)), (8, .int (v8))]) hx hb dX12_piece_189 hl (k := 7) rfl rfl (by decide) rfl (fun ls hl => ?_)
        refine lv_goto (tgt := 83) hx hb dX12_piece_192 (by decide) ?_
        exact ih83 (v5 + 1) (s0) (v7 + 1) M H locs ls G  (lv_sub hl [3, 4, 5, 6, 7, 1, 2, 0] rfl) h
      have hJ170 : ∀ (v5 : Int32) (v6 : Int32) (v7 : Int32) (v8 : Int32) (M : Mm) (H : Heap) (locs : List Loc) (ls : Array Slot), gS D s 17 ad (shR ad cy) H locs M → lv_has ls 10 [(0, .ref (ad 0)), (1, .int (v1)), (2, .int (v2)), (3, .int (v3)), (4, .int (v4)), (5, .int (v5)), (6, .int (v6)), (7, .int (v7)), (8, .int (v8))] → f_X12_piece_170 K (fun a0 a1 a2 a => (l_X12_piece_83 K v1 v2 v3 v4 n83) a0 a1 a2 a) v1 v2 v3 v4 v5 v6 v7 v8 M → gWk p l e 2 42 s m ([.ref (ad 0), .int (v1), .int (v2), .int (v3), .int (v4)] : List Value).toArray below meth c H locs (gQi D 17 ad (shR ad cy) K) 17 ad 170 ls [] := by
        intro v5 v6 v7 v8 M H locs ls G hl h
        unfold f_X12_piece_170 at h
        refine lv_iload hx hb dX12_piece_170 (lv_at hl 6 rfl) ?_
        exact hJ172 (v5) (v7) (v8) (v6) M H locs ls G  (lv_sub hl [0, 1, 2, 3, 4, 5, 7, 8] rfl) h
      have hL102 : ∀ (v5 : Int32) (v6 : Int32) (v7 : Int32) (n : Nat) (v8 : Int32) (v9 : Int32) (M : Mm) (H : Heap) (locs : List Loc) (ls : Array Slot), gS D s 17 ad (shR ad cy) H locs M → lv_has ls 10 [(0, .ref (ad 0)), (1, .int (v1)), (2, .int (v2)), (3, .int (v3)), (4, .int (v4)), (5, .int (v5)), (6, .int (v6)), (7, .int (v7)), (8, .int (v8)), (9, .int (v9))] → l_X12_piece_102 K (fun a0 a1 a2 a => (l_X12_piece_83 K v1 v2 v3 v4 n83) a0 a1 a2 a) v1 v2 v3 v4 v5 v6 v7 n v8 v9 M → gWk p l e 2 42 s m ([.ref (ad 0), .int (v1), .int (v2), .int (v3), .int (v4)] : List Value).toArray below meth c H locs (gQi D 17 ad (shR ad cy) K) 17 ad 102 ls [] := by
        intro v5 v6 v7 n102
        induction n102 with
        | zero =>
          intro v8 v9 M H locs ls G hl h
          exact False.elim h
        | succ n102 ih102 =>
          intro v8 v9 M H locs ls G hl h
          rw [l_X12_piece_102] at h
          refine lv_iload hx hb dX12_piece_102 (lv_at hl 9 rfl) ?_
          refine lv_iload_n hx hb dX12_piece_104 rfl (lv_at hl 3 rfl) ?_
          refine lv_icmp_ge (tgt := 155) hx hb dX12_piece_105 (by decide) (fun c4 => ?_) (fun c4 => ?_)
          · have h := h.1 c4
            refine lv_iload hx hb dX12_piece_155 (lv_at hl 8 rfl) ?_
            refine lv_if_eq (tgt := 170) hx hb dX12_piece_157 (by decide) (fun c5 => ?_) (fun c5 => ?_)
            · have h := h.1 c5
              exact hJ170 (v5) (v6) (v7) (v8)  M H locs ls G  (lv_sub hl [0, 1, 2, 3, 4, 5, 6, 7, 8] rfl) h
            have h := h.2 c5
            refine lv_iload hx hb dX12_piece_160 (lv_at hl 5 rfl) ?_
            refine lv_if_ne (tgt := 170) hx hb dX12_piece_162 (by decide) (fun c6 => ?_) (fun c6 => ?_)
            · have h := h.2 c6
              exact hJ170 (v5) (v6) (v7) (v8)  M H locs ls G  (lv_sub hl [0, 1, 2, 3, 4, 5, 6, 7, 8] rfl) h
            have h := h.1 c6
            refine lv_iload hx hb dX12_piece_165 (lv_at hl 7 rfl) ?_
            refine lv_goto (tgt := 172) hx hb dX12_piece_167 (by decide) ?_
            exact hJ172 (v5) (v7) (v8) (v7) M H locs ls G  (lv_sub hl [0, 1, 2, 3, 4, 5, 7, 8] rfl) h
          have h := h.2 c4
          refine lv_iload hx hb dX12_piece_108 (lv_at hl 8 rfl) ?_
          refine lv_if_eq (tgt := 146) hx hb dX12_piece_110 (by decide) (fun c7 => ?_) (fun c7 => ?_)
          · have h := h.1 c7
            refine lv_iconst (v := (0)) hx hb dX12_piece_146 (by decide) ?_
            refine lv_istore (lv' := [(8, .int (0)), (0, .ref (ad 0)), (1, .int (v1)), (2, .int (v2)), (3, .int (v3)), (4, .int (v4)), (5, .int (v5)), (6, .int (v6)), (7, .int (v7)), (9, .int (v9))]) hx hb dX12_piece_147 hl (by decide) rfl (fun ls hl => ?_)
            refine lv_iinc (v := v9 + 1) (lv' := [(9, .int (v9 + 1)), (8, .int (0)), (0, .ref (ad 0)), (1, .int (v1)), (2, .int (v2)), (3, .int (v3)), (4, .int (v4)), (5, .int (v5)), (6, .int (v6)), (7, .int (v7))]) hx hb dX12_piece_149 hl (k := 9) rfl rfl (by decide) rfl (fun ls hl => ?_)
            refine lv_goto (tgt := 102) hx hb dX12_piece_152 (by decide) ?_
            exact ih102 (0) (v9 + 1) M H locs ls G  (lv_sub hl [2, 3, 4, 5, 6, 7, 8, 9, 1, 0] rfl) h
          have h := h.2 c7
          refine lv_aload_n hx hb dX12_piece_113 rfl (lv_at hl 0 rfl) ?_
          refine gf_Model_told X G qw_5_13 dX12_piece_114 ?_
          refine lv_iconst (v := (4)) hx hb dX12_piece_117 (by decide) ?_
          refine lv_iload hx hb dX12_piece_118 (lv_at hl 7 rfl) ?_
          refine lv_iadd hx hb dX12_piece_120 ?_
          refine lv_iload hx hb dX12_piece_121 (lv_at hl 9 rfl) ?_
          refine lv_iadd hx hb dX12_piece_123 ?_
          obtain ⟨q8, h⟩ := h
          refine gq_iald X G rr_7 q8 dX12_piece_124 ?_
          refine lv_aload_n hx hb dX12_piece_125 rfl (lv_at hl 0 rfl) ?_
          refine gf_Model_items X G qw_5_8 dX12_piece_126 ?_
          refine lv_bipush (v := (40)) hx hb dX12_piece_129 (by decide) ?_
          refine lv_iload_n hx hb dX12_piece_131 rfl (lv_at hl 1 rfl) ?_
          refine lv_imul hx hb dX12_piece_132 ?_
          refine lv_iload_n hx hb dX12_piece_133 rfl (lv_at hl 2 rfl) ?_
          refine lv_iadd hx hb dX12_piece_134 ?_
          refine lv_iload hx hb dX12_piece_135 (lv_at hl 9 rfl) ?_
          refine lv_iadd hx hb dX12_piece_137 ?_
          obtain ⟨q9, h⟩ := h
          refine gq_iald X G rr_3 q9 dX12_piece_138 ?_
          refine lv_icmp_ne (tgt := 146) hx hb dX12_piece_139 (by decide) (fun c10 => ?_) (fun c10 => ?_)
          · have h := h.2 c10
            refine lv_iconst (v := (0)) hx hb dX12_piece_146 (by decide) ?_
            refine lv_istore (lv' := [(8, .int (0)), (0, .ref (ad 0)), (1, .int (v1)), (2, .int (v2)), (3, .int (v3)), (4, .int (v4)), (5, .int (v5)), (6, .int (v6)), (7, .int (v7)), (9, .int (v9))]) hx hb dX12_piece_147 hl (by decide) rfl (fun ls hl => ?_)
            refine lv_iinc (v := v9 + 1) (lv' := [(9, .int (v9 + 1)), (8, .int (0)), (0, .ref (ad 0)), (1, .int (v1)), (2, .int (v2)), (3, .int (v3)), (4, .int (v4)), (5, .int (v5)), (6, .int (v6)), (7, .int (v7))]) hx hb dX12_piece_149 hl (k := 9) rfl rfl (by decide) rfl (fun ls hl => ?_)
            refine lv_goto (tgt := 102) hx hb dX12_piece_152 (by decide) ?_
            exact ih102 (0) (v9 + 1) M H locs ls G  (lv_sub hl [2, 3, 4, 5, 6, 7, 8, 9, 1, 0] rfl) h
          have h := h.1 c10
          refine lv_iconst (v := (1)) hx hb dX12_piece_142 (by decide) ?_
          refine lv_goto (tgt := 147) hx hb dX12_piece_143 (by decide) ?_
          refine lv_istore (lv' := [(8, .int (1)), (0, .ref (ad 0)), (1, .int (v1)), (2, .int (v2)), (3, .int (v3)), (4, .int (v4)), (5, .int (v5)), (6, .int (v6)), (7, .int (v7)), (9, .int (v9))]) hx hb dX12_piece_147 hl (by decide) rfl (fun ls hl => ?_)
          refine lv_iinc (v := v9 + 1) (lv' := [(9, .int (v9 + 1)), (8, .int (1)), (0, .ref (ad 0)), (1, .int (v1)), (2, .int (v2)), (3, .int (v3)), (4, .int (v4)), (5, .int (v5)), (6, .int (v6)), (7, .int (v7))]) hx hb dX12_piece_149 hl (k := 9) rfl rfl (by decide) rfl (fun ls hl => ?_)
          refine lv_goto (tgt := 102) hx hb dX12_piece_152 (by decide) ?_
          exact ih102 (1) (v9 + 1) M H locs ls G  (lv_sub hl [2, 3, 4, 5, 6, 7, 8, 9, 1, 0] rfl) h
      intro v5 v6 v7 M H locs ls G hl h
      rw [l_X12_piece_83] at h
      refine lv_iload hx hb dX12_piece_83 (lv_at hl 7 rfl) ?_
      refine lv_iload_n hx hb dX12_piece_85 rfl (lv_at hl 3 rfl) ?_
      refine lv_iadd hx hb dX12_piece_86 ?_
      refine lv_aload_n hx hb dX12_piece_87 rfl (lv_at hl 0 rfl) ?_
      refine gf_Model_told X G qw_5_13 dX12_piece_88 ?_
      refine lv_iconst (v := (0)) hx hb dX12_piece_91 (by decide) ?_
      refine gq_iald X G rr_7 (by unfold vp_in; decide) dX12_piece_92 ?_
      refine lv_icmp_gt (tgt := 195) hx hb dX12_piece_93 (by decide) (fun c11 => ?_) (fun c11 => ?_)
      · have h := h.1 c11
        refine lv_aload_n hx hb dX12_piece_195 rfl (lv_at hl 0 rfl) ?_
        refine lv_iload hx hb dX12_piece_196 (lv_at hl 4 rfl) ?_
        refine lv_if_ne (tgt := 206) hx hb dX12_piece_198 (by decide) (fun c12 => ?_) (fun c12 => ?_)
        · have h := h.2 c12
          refine lv_iload hx hb dX12_piece_206 (lv_at hl 6 rfl) ?_
          exact hJ208  (v6) (0) M H locs ls G  (lv_sub hl [] rfl) h
        have h := h.1 c12
        refine lv_iload hx hb dX12_piece_201 (lv_at hl 5 rfl) ?_
        refine lv_goto (tgt := 208) hx hb dX12_piece_203 (by decide) ?_
        exact hJ208  (v5) (0) M H locs ls G  (lv_sub hl [] rfl) h
      have h := h.2 c11
      refine lv_iconst (v := (1)) hx hb dX12_piece_96 (by decide) ?_
      refine lv_istore (lv' := [(8, .int (1)), (0, .ref (ad 0)), (1, .int (v1)), (2, .int (v2)), (3, .int (v3)), (4, .int (v4)), (5, .int (v5)), (6, .int (v6)), (7, .int (v7))]) hx hb dX12_piece_97 hl (by decide) rfl (fun ls hl => ?_)
      refine lv_iconst (v := (0)) hx hb dX12_piece_99 (by decide) ?_
      refine lv_istore (lv' := [(9, .int (0)), (8, .int (1)), (0, .ref (ad 0)), (1, .int (v1)), (2, .int (v2)), (3, .int (v3)), (4, .int (v4)), (5, .int (v5)), (6, .int (v6)), (7, .int (v7))]) hx hb dX12_piece_100 hl (by decide) rfl (fun ls hl => ?_)
      obtain ⟨n13, h⟩ := h
      exact hL102 (v5) (v6) (v7)  n13 (1) (0) M H locs ls G  (lv_sub hl [2, 3, 4, 5, 6, 7, 8, 9, 1, 0] rfl) h
  unfold f_X12_piece at h
  refine lv_aload_n hx hb dX12_piece_0 rfl (lv_at hl 0 rfl) ?_
  refine gf_Model_isRead X G qw_14_8 dX12_piece_1 ?_
  refine lv_if_ne (tgt := 10) hx hb dX12_piece_4 (by decide) (fun c14 => ?_) (fun c14 => ?_)
  · have h := h.2 c14
    refine lv_iload_n hx hb dX12_piece_10 rfl (lv_at hl 1 rfl) ?_
    refine gq_calli G (gc_S (rest := []) X hl.1 G (m_X12_isRow hI  h) cw_X12_isRow qw_7_9 qw_7_10 rfl rfl (Nat.le_of_ble_eq_true rfl) ⟨Nat.le_of_ble_eq_true rfl, Nat.le_of_ble_eq_true rfl⟩ ⟨Nat.le_refl _, Nat.le_refl _⟩ dX12_piece_11) (fun r16 M15 H locs G h => ?_)
    refine lv_if_eq (tgt := 37) hx hb dX12_piece_14 (by decide) (fun c17 => ?_) (fun c17 => ?_)
    · have h := h.1 c17
      refine gq_ldc (v := (-1000001)) X qw_7_8 dX12_piece_37 ?_
      exact gq_iret X G h dX12_piece_39
    have h := h.2 c17
    refine lv_iload_n hx hb dX12_piece_17 rfl (lv_at hl 3 rfl) ?_
    refine lv_iconst (v := (1)) hx hb dX12_piece_18 (by decide) ?_
    refine lv_bipush (v := (12)) hx hb dX12_piece_19 (by decide) ?_
    refine gq_calli G (gc_S (rest := []) X hl.1 G (m_X12_in hI  h) cw_X12_in qw_7_12 qw_7_13 rfl rfl (Nat.le_of_ble_eq_true rfl) ⟨Nat.le_of_ble_eq_true rfl, Nat.le_of_ble_eq_true rfl⟩ ⟨Nat.le_refl _, Nat.le_refl _⟩ dX12_piece_21) (fun r19 M18 H locs G h => ?_)
    refine lv_if_eq (tgt := 37) hx hb dX12_piece_24 (by decide) (fun c20 => ?_) (fun c20 => ?_)
    · have h := h.1 c20
      refine gq_ldc (v := (-1000001)) X qw_7_8 dX12_piece_37 ?_
      exact gq_iret X G h dX12_piece_39
    have h := h.2 c20
    refine lv_iload hx hb dX12_piece_27 (lv_at hl 4 rfl) ?_
    refine lv_iconst (v := (0)) hx hb dX12_piece_29 (by decide) ?_
    refine lv_iconst (v := (1)) hx hb dX12_piece_30 (by decide) ?_
    refine gq_calli G (gc_S (rest := []) X hl.1 G (m_X12_in hI  h) cw_X12_in qw_7_12 qw_7_13 rfl rfl (Nat.le_of_ble_eq_true rfl) ⟨Nat.le_of_ble_eq_true rfl, Nat.le_of_ble_eq_true rfl⟩ ⟨Nat.le_refl _, Nat.le_refl _⟩ dX12_piece_31) (fun r22 M21 H locs G h => ?_)
    refine lv_if_ne (tgt := 40) hx hb dX12_piece_34 (by decide) (fun c23 => ?_) (fun c23 => ?_)
    · have h := h.2 c23
      refine lv_aload_n hx hb dX12_piece_40 rfl (lv_at hl 0 rfl) ?_
      refine gf_Model_lanes X G qw_5_6 dX12_piece_41 ?_
      refine lv_iload_n hx hb dX12_piece_44 rfl (lv_at hl 1 rfl) ?_
      obtain ⟨q24, h⟩ := h
      refine gq_iald X G rr_1 q24 dX12_piece_45 ?_
      refine gq_ldc (v := (-1000000)) X qw_6_0 dX12_piece_46 ?_
      refine lv_icmp_ne (tgt := 57) hx hb dX12_piece_48 (by decide) (fun c25 => ?_) (fun c25 => ?_)
      · have h := h.2 c25
        refine lv_aload_n hx hb dX12_piece_57 rfl (lv_at hl 0 rfl) ?_
        refine lv_iload_n hx hb dX12_piece_58 rfl (lv_at hl 1 rfl) ?_
        refine lv_iload_n hx hb dX12_piece_59 rfl (lv_at hl 2 rfl) ?_
        refine lv_iload_n hx hb dX12_piece_60 rfl (lv_at hl 3 rfl) ?_
        refine gq_calli G (gc_V (C := RX12) (rest := []) X hl.1 G (m_X12_isIn hI  h) cw_X12_isIn qw_9_6 qw_9_7 qw_9_8 ob_Model rfl rfl rfl rfl (Nat.le_of_ble_eq_true rfl) ⟨Nat.le_of_ble_eq_true rfl, Nat.le_of_ble_eq_true rfl⟩ ⟨Nat.le_refl _, Nat.le_refl _⟩ dX12_piece_61) (fun r27 M26 H locs G h => ?_)
        refine lv_if_ne (tgt := 73) hx hb dX12_piece_64 (by decide) (fun c28 => ?_) (fun c28 => ?_)
        · have h := h.2 c28
          refine lv_iconst (v := (0)) hx hb dX12_piece_73 (by decide) ?_
          refine lv_istore (lv' := [(5, .int (0)), (0, .ref (ad 0)), (1, .int (v1)), (2, .int (v2)), (3, .int (v3)), (4, .int (v4))]) hx hb dX12_piece_74 hl (by decide) rfl (fun ls hl => ?_)
          refine gq_ldc (v := (-1000000)) X qw_6_0 dX12_piece_76 ?_
          refine lv_istore (lv' := [(6, .int (-1000000)), (5, .int (0)), (0, .ref (ad 0)), (1, .int (v1)), (2, .int (v2)), (3, .int (v3)), (4, .int (v4))]) hx hb dX12_piece_78 hl (by decide) rfl (fun ls hl => ?_)
          refine lv_iconst (v := (0)) hx hb dX12_piece_80 (by decide) ?_
          refine lv_istore (lv' := [(7, .int (0)), (6, .int (-1000000)), (5, .int (0)), (0, .ref (ad 0)), (1, .int (v1)), (2, .int (v2)), (3, .int (v3)), (4, .int (v4))]) hx hb dX12_piece_81 hl (by decide) rfl (fun ls hl => ?_)
          obtain ⟨n29, h⟩ := h
          exact hL83   n29 (0) (-1000000) (0) M26 H locs ls G  (lv_sub hl [3, 4, 5, 6, 7, 2, 1, 0] rfl) h
        have h := h.1 c28
        refine lv_aload_n hx hb dX12_piece_67 rfl (lv_at hl 0 rfl) ?_
        refine lv_iconst (v := (2)) hx hb dX12_piece_68 (by decide) ?_
        refine gq_calli G (gc_V (C := RX12) (rest := []) X hl.1 G (m_X12_found hI  h) cw_X12_found qw_7_15 qw_7_16 qw_7_17 ob_Model rfl rfl rfl rfl (Nat.le_of_ble_eq_true rfl) ⟨Nat.le_of_ble_eq_true rfl, Nat.le_of_ble_eq_true rfl⟩ ⟨Nat.le_refl _, Nat.le_refl _⟩ dX12_piece_69) (fun r31 M30 H locs G h => ?_)
        exact gq_iret X G h dX12_piece_72
      have h := h.1 c25
      refine lv_aload_n hx hb dX12_piece_51 rfl (lv_at hl 0 rfl) ?_
      refine lv_iconst (v := (1)) hx hb dX12_piece_52 (by decide) ?_
      refine gq_calli G (gc_V (C := RX12) (rest := []) X hl.1 G (m_X12_found hI  h) cw_X12_found qw_7_15 qw_7_16 qw_7_17 ob_Model rfl rfl rfl rfl (Nat.le_of_ble_eq_true rfl) ⟨Nat.le_of_ble_eq_true rfl, Nat.le_of_ble_eq_true rfl⟩ ⟨Nat.le_refl _, Nat.le_refl _⟩ dX12_piece_53) (fun r33 M32 H locs G h => ?_)
      exact gq_iret X G h dX12_piece_56
    have h := h.1 c23
    refine gq_ldc (v := (-1000001)) X qw_7_8 dX12_piece_37 ?_
    exact gq_iret X G h dX12_piece_39
  have h := h.1 c14
  refine gq_ldc (v := (-1000002)) X qw_19_14 dX12_piece_7 ?_
  exact gq_iret X G h dX12_piece_9
def f_X12_room_150 (K : Int32 → Mm → Prop) (k77 : Int32 → Mm → Prop) (k84 : Int32 → Mm → Prop) (k101 : Int32 → Int32 → Mm → Prop) (v1 : Int32) (v3 : Int32) (v4 : Int32) (v5 : Int32) (v6 : Int32) (s0 : Int32) (M : Mm) : Prop := (vp_in ((25 * (v3 + 1)) + v6) 150 ∧ ((((v5 : Int32) ≤ s0 + (M 15 ((25 * (v3 + 1)) + v6 : Int32).toNatClampNeg) : Prop) → k101 (v5) (v6 + 1) M) ∧ (¬ ((v5 : Int32) ≤ s0 + (M 15 ((25 * (v3 + 1)) + v6 : Int32).toNatClampNeg) : Prop) → k101 (s0 + (M 15 ((25 * (v3 + 1)) + v6 : Int32).toNatClampNeg)) (v6 + 1) M)))
def l_X12_room_101 (K : Int32 → Mm → Prop) (k77 : Int32 → Mm → Prop) (k84 : Int32 → Mm → Prop) (v1 : Int32) (v3 : Int32) (v4 : Int32) : Nat → Int32 → Int32 → Mm → Prop
  | 0, _, _, _ => False
  | n + 1, v5, v6, M => ((((M 7 (0 : Int32).toNatClampNeg : Int32) ≤ v6 : Prop) → (vp_in ((25 * v3) + v4) 150 ∧ (∀ M5 : Mm, M5 = gU M 15 ((25 * v3) + v4 : Int32).toNatClampNeg (v5) → k84 (v4 + 1) M5))) ∧ (¬ ((M 7 (0 : Int32).toNatClampNeg : Int32) ≤ v6 : Prop) → (vp_in (1 + v3) 22 ∧ ((((v6 : Int32) ≤ M 9 (1 + v3 : Int32).toNatClampNeg : Prop) → f_X12_room_150 K k77 k84 (fun a0 a1 a => (l_X12_room_101 K k77 k84 v1 v3 v4 n) a0 a1 a) (v1) (v3) (v4) (v5) (v6) ((M 9 (1 + v3 : Int32).toNatClampNeg) - v6) M) ∧ (¬ ((v6 : Int32) ≤ M 9 (1 + v3 : Int32).toNatClampNeg : Prop) → f_X12_room_150 K k77 k84 (fun a0 a1 a => (l_X12_room_101 K k77 k84 v1 v3 v4 n) a0 a1 a) (v1) (v3) (v4) (v5) (v6) (v6 - (M 9 (1 + v3 : Int32).toNatClampNeg)) M)))))
def l_X12_room_84 (K : Int32 → Mm → Prop) (k77 : Int32 → Mm → Prop) (v1 : Int32) (v3 : Int32) : Nat → Int32 → Mm → Prop
  | 0, _, _ => False
  | n + 1, v4, M => ((((25 : Int32) ≤ v4 : Prop) → k77 (v3 + (-1)) M) ∧ (¬ ((25 : Int32) ≤ v4 : Prop) → ∃ z, l_X12_room_101 K k77 (fun a0 a => (l_X12_room_84 K k77 v1 v3 n) a0 a) (v1) (v3) (v4) z (100000) (v4 + v1) M))
def l_X12_room_77 (K : Int32 → Mm → Prop) (v1 : Int32) : Nat → Int32 → Mm → Prop
  | 0, _, _ => False
  | n + 1, v3, M => ((((v3 : Int32) < 0 : Prop) → ((((M 15 (0 : Int32).toNatClampNeg : Int32) < 100000 : Prop) → K (M 15 (0 : Int32).toNatClampNeg) M) ∧ (¬ ((M 15 (0 : Int32).toNatClampNeg : Int32) < 100000 : Prop) → K (-1000000) M))) ∧ (¬ ((v3 : Int32) < 0 : Prop) → ∃ z, l_X12_room_84 K (fun a0 a => (l_X12_room_77 K v1 n) a0 a) (v1) (v3) z (0) M))
def f_X12_room_66 (K : Int32 → Mm → Prop) (k32 : Int32 → Mm → Prop) (v1 : Int32) (v2 : Int32) (v3 : Int32) (s0 : Int32) (s1 : Int32) (s2 : Nat) (M : Mm) : Prop := (vp_in (s1) 150 ∧ (∀ M15 : Mm, M15 = gU M 15 (s1 : Int32).toNatClampNeg (s0) → k32 (v3 + 1) M15))
def l_X12_room_32 (K : Int32 → Mm → Prop) (v1 : Int32) (v2 : Int32) : Nat → Int32 → Mm → Prop
  | 0, _, _ => False
  | n + 1, v3, M => ((((25 : Int32) ≤ v3 : Prop) → ∃ z, l_X12_room_77 K (v1) z (v2 - 1) M) ∧ (¬ ((25 : Int32) ≤ v3 : Prop) → (((((M 7 (0 : Int32).toNatClampNeg) - v3 : Int32) < v1 : Prop) → f_X12_room_66 K (fun a0 a => (l_X12_room_32 K v1 v2 n) a0 a) (v1) (v2) (v3) (100000) ((25 * v2) + v3) (15) M) ∧ (¬ (((M 7 (0 : Int32).toNatClampNeg) - v3 : Int32) < v1 : Prop) → f_X12_room_66 K (fun a0 a => (l_X12_room_32 K v1 v2 n) a0 a) (v1) (v2) (v3) (0) ((25 * v2) + v3) (15) M))))
def f_X12_room (v1 : Int32) (M : Mm) (K : Int32 → Mm → Prop) : Prop := ((((M 0 20 : Int32) = 0 : Prop) → K (-1000002) M) ∧ (¬ ((M 0 20 : Int32) = 0 : Prop) → (f_X12_in (v1) (1) (8) M (fun r22 M21 => ((((r22 : Int32) = 0 : Prop) → K (-1000001) M21) ∧ (¬ ((r22 : Int32) = 0 : Prop) → ∃ z, l_X12_room_32 K (v1) (M21 7 (2 : Int32).toNatClampNeg) z (0) M21))))))
set_option maxHeartbeats 4000000 in
set_option maxRecDepth 100000 in
theorem m_X12_room (hI : gI 17 ad) {v1 : Int32} {M : Mm} {K : Int32 → Mm → Prop} (h : f_X12_room v1 M K) : gM l D cy 17 ad (shR ad cy) yX12_room cX12_room 9 (some .int) 1 22 [.ref (ad 0), .int (v1)] M (gQi D 17 ad (shR ad cy) K) := by
  refine gM.of (own := RX12) (lv := [(0, .ref (ad 0)), (1, .int (v1))]) (by decide) rfl hI (Nat.le_of_ble_eq_true rfl) rfl ?_
  intro p e s m below meth c ls H locs X G hl
  have hx := X.1
  have hb := X.2.1
  have hL77 : ∀ (n : Nat) (v3 : Int32) (M : Mm) (H : Heap) (locs : List Loc) (ls : Array Slot), gS D s 17 ad (shR ad cy) H locs M → lv_has ls 9 [(0, .ref (ad 0)), (1, .int (v1)), (3, .int (v3))] → l_X12_room_77 K v1 n v3 M → gWk p l e 1 22 s m ([.ref (ad 0), .int (v1)] : List Value).toArray below meth c H locs (gQi D 17 ad (shR ad cy) K) 17 ad 77 ls [] := by
    intro n77
    induction n77 with
    | zero =>
      intro v3 M H locs ls G hl h
      exact False.elim h
    | succ n77 ih77 =>
      have hL84 : ∀ (v3 : Int32) (n : Nat) (v4 : Int32) (M : Mm) (H : Heap) (locs : List Loc) (ls : Array Slot), gS D s 17 ad (shR ad cy) H locs M → lv_has ls 9 [(0, .ref (ad 0)), (1, .int (v1)), (3, .int (v3)), (4, .int (v4))] → l_X12_room_84 K (fun a0 a => (l_X12_room_77 K v1 n77) a0 a) v1 v3 n v4 M → gWk p l e 1 22 s m ([.ref (ad 0), .int (v1)] : List Value).toArray below meth c H locs (gQi D 17 ad (shR ad cy) K) 17 ad 84 ls [] := by
        intro v3 n84
        induction n84 with
        | zero =>
          intro v4 M H locs ls G hl h
          exact False.elim h
        | succ n84 ih84 =>
          have hL101 : ∀ (v4 : Int32) (n : Nat) (v5 : Int32) (v6 : Int32) (M : Mm) (H : Heap) (locs : List Loc) (ls : Array Slot), gS D s 17 ad (shR ad cy) H locs M → lv_has ls 9 [(0, .ref (ad 0)), (1, .int (v1)), (3, .int (v3)), (4, .int (v4)), (5, .int (v5)), (6, .int (v6))] → l_X12_room_101 K (fun a0 a => (l_X12_room_77 K v1 n77) a0 a) (fun a0 a => (l_X12_room_84 K (fun a0 a => (l_X12_room_77 K v1 n77) a0 a) v1 v3 n84) a0 a) v1 v3 v4 n v5 v6 M → gWk p l e 1 22 s m ([.ref (ad 0), .int (v1)] : List Value).toArray below meth c H locs (gQi D 17 ad (shR ad cy) K) 17 ad 101 ls [] := by
            intro v4 n101
            induction n101 with
            | zero =>
              intro v5 v6 M H locs ls G hl h
              exact False.elim h
            | succ n101 ih101 =>
              have hJ150 : ∀ (v5 : Int32) (v6 : Int32) (s0 : Int32) (M : Mm) (H : Heap) (locs : List Loc) (ls : Array Slot), gS D s 17 ad (shR ad cy) H locs M → lv_has ls 9 [(0, .ref (ad 0)), (1, .int (v1)), (3, .int (v3)), (4, .int (v4)), (5, .int (v5)), (6, .int (v6))] → f_X12_room_150 K (fun a0 a => (l_X12_room_77 K v1 n77) a0 a) (fun a0 a => (l_X12_room_84 K (fun a0 a => (l_X12_room_77 K v1 n77) a0 a) v1 v3 n84) a0 a) (fun a0 a1 a => (l_X12_room_101 K (fun a0 a => (l_X12_room_77 K v1 n77) a0 a) (fun a0 a => (l_X12_room_84 K (fun a0 a => (l_X12_room_77 K v1 n77) a0 a) v1 v3 n84) a0 a) v1 v3 v4 n101) a0 a1 a) v1 v3 v4 v5 v6 s0 M → gWk p l e 1 22 s m ([.ref (ad 0), .int (v1)] : List Value).toArray below meth c H locs (gQi D 17 ad (shR ad cy) K) 17 ad 150 ls [.int (s0)] := by
                intro v5 v6 s0 M H locs ls G hl h
                unfold f_X12_room_150 at h
                refine lv_istore (lv' := [(7, .int (s0)), (0, .ref (ad 0)), (1, .int (v1)), (3, .int (v3)), (4, .int (v4)), (5, .int (v5)), (6, .int (v6))]) hx hb dX12_room_150 hl (by decide) rfl (fun ls hl => ?_)
                refine lv_iload hx hb dX12_room_152 (lv_at hl 0 rfl) ?_
                refine lv_aload_n hx hb dX12_room_154 rfl (lv_at hl 1 rfl) ?_
                refine gf_Model_fewest X G qw_5_22 dX12_room_155 ?_
                refine lv_bipush (v := (25)) hx hb dX12_room_158 (by decide) ?_
                refine lv_iload_n hx hb dX12_room_160 rfl (lv_at hl 3 rfl) ?_
                refine lv_iconst (v := (1)) hx hb dX12_room_161 (by decide) ?_
                refine lv_iadd hx hb dX12_room_162 ?_
                refine lv_imul hx hb dX12_room_163 ?_
                refine lv_iload hx hb dX12_room_164 (lv_at hl 6 rfl) ?_
                refine lv_iadd hx hb dX12_room_166 ?_
                obtain ⟨q1, h⟩ := h
                refine gq_iald X G rr_15 q1 dX12_room_167 ?_
                refine lv_iadd hx hb dX12_room_168 ?_
                refine lv_istore (lv' := [(8, .int (s0 + (M 15 ((25 * (v3 + 1)) + v6 : Int32).toNatClampNeg))), (7, .int (s0)), (0, .ref (ad 0)), (1, .int (v1)), (3, .int (v3)), (4, .int (v4)), (5, .int (v5)), (6, .int (v6))]) hx hb dX12_room_169 hl (by decide) rfl (fun ls hl => ?_)
                refine lv_iload hx hb dX12_room_171 (lv_at hl 0 rfl) ?_
                refine lv_iload hx hb dX12_room_173 (lv_at hl 6 rfl) ?_
                refine lv_icmp_ge (tgt := 183) hx hb dX12_room_175 (by decide) (fun c2 => ?_) (fun c2 => ?_)
                · have h := h.1 c2
                  refine lv_iload hx hb dX12_room_183 (lv_at hl 6 rfl) ?_
                  refine lv_istore (lv' := [(5, .int (v5)), (8, .int (s0 + (M 15 ((25 * (v3 + 1)) + v6 : Int32).toNatClampNeg))), (7, .int (s0)), (0, .ref (ad 0)), (1, .int (v1)), (3, .int (v3)), (4, .int (v4)), (6, .int (v6))]) hx hb dX12_room_185 hl (by decide) rfl (fun ls hl => ?_)
                  refine lv_iinc (v := v6 + 1) (lv' := [(6, .int (v6 + 1)), (5, .int (v5)), (8, .int (s0 + (M 15 ((25 * (v3 + 1)) + v6 : Int32).toNatClampNeg))), (7, .int (s0)), (0, .ref (ad 0)), (1, .int (v1)), (3, .int (v3)), (4, .int (v4))]) hx hb dX12_room_187 hl (k := 7) rfl rfl (by decide) rfl (fun ls hl => ?_)
                  refine lv_goto (tgt := 101) hx hb dX12_room_190 (by decide) ?_
                  exact ih101 (v5) (v6 + 1) M H locs ls G  (lv_sub hl [4, 5, 6, 7, 1, 0] rfl) h
                have h := h.2 c2
                refine lv_iload hx hb dX12_room_178 (lv_at hl 0 rfl) ?_
                refine lv_goto (tgt := 185) hx hb dX12_room_180 (by decide) ?_
                refine lv_istore (lv' := [(5, .int (s0 + (M 15 ((25 * (v3 + 1)) + v6 : Int32).toNatClampNeg))), (8, .int (s0 + (M 15 ((25 * (v3 + 1)) + v6 : Int32).toNatClampNeg))), (7, .int (s0)), (0, .ref (ad 0)), (1, .int (v1)), (3, .int (v3)), (4, .int (v4)), (6, .int (v6))]) hx hb dX12_room_185 hl (by decide) rfl (fun ls hl => ?_)
                refine lv_iinc (v := v6 + 1) (lv' := [(6, .int (v6 + 1)), (5, .int (s0 + (M 15 ((25 * (v3 + 1)) + v6 : Int32).toNatClampNeg))), (8, .int (s0 + (M 15 ((25 * (v3 + 1)) + v6 : Int32).toNatClampNeg))), (7, .int (s0)), (0, .ref (ad 0)), (1, .int (v1)), (3, .int (v3)), (4, .int (v4))]) hx hb dX12_room_187 hl (k := 7) rfl rfl (by decide) rfl (fun ls hl => ?_)
                refine lv_goto (tgt := 101) hx hb dX12_room_190 (by decide) ?_
                exact ih101 (s0 + (M 15 ((25 * (v3 + 1)) + v6 : Int32).toNatClampNeg)) (v6 + 1) M H locs ls G  (lv_sub hl [4, 5, 6, 7, 1, 0] rfl) h
              intro v5 v6 M H locs ls G hl h
              rw [l_X12_room_101] at h
              refine lv_iload hx hb dX12_room_101 (lv_at hl 5 rfl) ?_
              refine lv_aload_n hx hb dX12_room_103 rfl (lv_at hl 0 rfl) ?_
              refine gf_Model_told X G qw_5_13 dX12_room_104 ?_
              refine lv_iconst (v := (0)) hx hb dX12_room_107 (by decide) ?_
              refine gq_iald X G rr_7 (by unfold vp_in; decide) dX12_room_108 ?_
              refine lv_icmp_ge (tgt := 193) hx hb dX12_room_109 (by decide) (fun c3 => ?_) (fun c3 => ?_)
              · have h := h.1 c3
                refine lv_aload_n hx hb dX12_room_193 rfl (lv_at hl 0 rfl) ?_
                refine gf_Model_fewest X G qw_5_22 dX12_room_194 ?_
                refine lv_bipush (v := (25)) hx hb dX12_room_197 (by decide) ?_
                refine lv_iload_n hx hb dX12_room_199 rfl (lv_at hl 2 rfl) ?_
                refine lv_imul hx hb dX12_room_200 ?_
                refine lv_iload hx hb dX12_room_201 (lv_at hl 3 rfl) ?_
                refine lv_iadd hx hb dX12_room_203 ?_
                refine lv_iload hx hb dX12_room_204 (lv_at hl 4 rfl) ?_
                obtain ⟨q4, h⟩ := h
                refine gq_iast X G rr_15 q4 dX12_room_206 (fun M5 H locs e6 G => ?_)
                have h := h M5 e6
                refine lv_iinc (v := v4 + 1) (lv' := [(4, .int (v4 + 1)), (0, .ref (ad 0)), (1, .int (v1)), (3, .int (v3)), (5, .int (v5)), (6, .int (v6))]) hx hb dX12_room_207 hl (k := 3) rfl rfl (by decide) rfl (fun ls hl => ?_)
                refine lv_goto (tgt := 84) hx hb dX12_room_210 (by decide) ?_
                exact ih84 (v4 + 1) M5 H locs ls G  (lv_sub hl [1, 2, 3, 0] rfl) h
              have h := h.2 c3
              refine lv_iload hx hb dX12_room_112 (lv_at hl 5 rfl) ?_
              refine lv_aload_n hx hb dX12_room_114 rfl (lv_at hl 0 rfl) ?_
              refine gf_Model_now X G qw_5_15 dX12_room_115 ?_
              refine lv_iconst (v := (1)) hx hb dX12_room_118 (by decide) ?_
              refine lv_iload_n hx hb dX12_room_119 rfl (lv_at hl 2 rfl) ?_
              refine lv_iadd hx hb dX12_room_120 ?_
              obtain ⟨q7, h⟩ := h
              refine gq_iald X G rr_9 q7 dX12_room_121 ?_
              refine lv_icmp_le (tgt := 139) hx hb dX12_room_122 (by decide) (fun c8 => ?_) (fun c8 => ?_)
              · have h := h.1 c8
                refine lv_aload_n hx hb dX12_room_139 rfl (lv_at hl 0 rfl) ?_
                refine gf_Model_now X G qw_5_15 dX12_room_140 ?_
                refine lv_iconst (v := (1)) hx hb dX12_room_143 (by decide) ?_
                refine lv_iload_n hx hb dX12_room_144 rfl (lv_at hl 2 rfl) ?_
                refine lv_iadd hx hb dX12_room_145 ?_
                refine gq_iald X G rr_9 q7 dX12_room_146 ?_
                refine lv_iload hx hb dX12_room_147 (lv_at hl 5 rfl) ?_
                refine lv_isub hx hb dX12_room_149 ?_
                exact hJ150 (v5) (v6) ((M 9 (1 + v3 : Int32).toNatClampNeg) - v6) M H locs ls G  (lv_sub hl [0, 1, 2, 3, 4, 5] rfl) h
              have h := h.2 c8
              refine lv_iload hx hb dX12_room_125 (lv_at hl 5 rfl) ?_
              refine lv_aload_n hx hb dX12_room_127 rfl (lv_at hl 0 rfl) ?_
              refine gf_Model_now X G qw_5_15 dX12_room_128 ?_
              refine lv_iconst (v := (1)) hx hb dX12_room_131 (by decide) ?_
              refine lv_iload_n hx hb dX12_room_132 rfl (lv_at hl 2 rfl) ?_
              refine lv_iadd hx hb dX12_room_133 ?_
              refine gq_iald X G rr_9 q7 dX12_room_134 ?_
              refine lv_isub hx hb dX12_room_135 ?_
              refine lv_goto (tgt := 150) hx hb dX12_room_136 (by decide) ?_
              exact hJ150 (v5) (v6) (v6 - (M 9 (1 + v3 : Int32).toNatClampNeg)) M H locs ls G  (lv_sub hl [0, 1, 2, 3, 4, 5] rfl) h
          intro v4 M H locs ls G hl h
          rw [l_X12_room_84] at h
          refine lv_iload hx hb dX12_room_84 (lv_at hl 3 rfl) ?_
          refine lv_bipush (v := (25)) hx hb dX12_room_86 (by decide) ?_
          refine lv_icmp_ge (tgt := 213) hx hb dX12_room_88 (by decide) (fun c9 => ?_) (fun c9 => ?_)
          · have h := h.1 c9
            refine lv_iinc (v := v3 + (-1)) (lv' := [(3, .int (v3 + (-1))), (0, .ref (ad 0)), (1, .int (v1)), (4, .int (v4))]) hx hb dX12_room_213 hl (k := 2) rfl rfl (by decide) rfl (fun ls hl => ?_)
            refine lv_goto (tgt := 77) hx hb dX12_room_216 (by decide) ?_
            exact ih77 (v3 + (-1)) M H locs ls G  (lv_sub hl [1, 2, 0] rfl) h
          have h := h.2 c9
          refine gq_ldc (v := (100000)) X qw_31_23 dX12_room_91 ?_
          refine lv_istore (lv' := [(5, .int (100000)), (0, .ref (ad 0)), (1, .int (v1)), (3, .int (v3)), (4, .int (v4))]) hx hb dX12_room_93 hl (by decide) rfl (fun ls hl => ?_)
          refine lv_iload hx hb dX12_room_95 (lv_at hl 4 rfl) ?_
          refine lv_iload_n hx hb dX12_room_97 rfl (lv_at hl 2 rfl) ?_
          refine lv_iadd hx hb dX12_room_98 ?_
          refine lv_istore (lv' := [(6, .int (v4 + v1)), (5, .int (100000)), (0, .ref (ad 0)), (1, .int (v1)), (3, .int (v3)), (4, .int (v4))]) hx hb dX12_room_99 hl (by decide) rfl (fun ls hl => ?_)
          obtain ⟨n10, h⟩ := h
          exact hL101 (v4)  n10 (100000) (v4 + v1) M H locs ls G  (lv_sub hl [2, 3, 4, 5, 1, 0] rfl) h
      intro v3 M H locs ls G hl h
      rw [l_X12_room_77] at h
      refine lv_iload_n hx hb dX12_room_77 rfl (lv_at hl 2 rfl) ?_
      refine lv_if_lt (tgt := 219) hx hb dX12_room_78 (by decide) (fun c11 => ?_) (fun c11 => ?_)
      · have h := h.1 c11
        refine lv_aload_n hx hb dX12_room_219 rfl (lv_at hl 0 rfl) ?_
        refine gf_Model_fewest X G qw_5_22 dX12_room_220 ?_
        refine lv_iconst (v := (0)) hx hb dX12_room_223 (by decide) ?_
        refine gq_iald X G rr_15 (by unfold vp_in; decide) dX12_room_224 ?_
        refine gq_ldc (v := (100000)) X qw_31_23 dX12_room_225 ?_
        refine lv_icmp_lt (tgt := 235) hx hb dX12_room_227 (by decide) (fun c12 => ?_) (fun c12 => ?_)
        · have h := h.1 c12
          refine lv_aload_n hx hb dX12_room_235 rfl (lv_at hl 0 rfl) ?_
          refine gf_Model_fewest X G qw_5_22 dX12_room_236 ?_
          refine lv_iconst (v := (0)) hx hb dX12_room_239 (by decide) ?_
          refine gq_iald X G rr_15 (by unfold vp_in; decide) dX12_room_240 ?_
          exact gq_iret X G h dX12_room_241
        have h := h.2 c12
        refine gq_ldc (v := (-1000000)) X qw_6_0 dX12_room_230 ?_
        refine lv_goto (tgt := 241) hx hb dX12_room_232 (by decide) ?_
        exact gq_iret X G h dX12_room_241
      have h := h.2 c11
      refine lv_iconst (v := (0)) hx hb dX12_room_81 (by decide) ?_
      refine lv_istore (lv' := [(4, .int (0)), (0, .ref (ad 0)), (1, .int (v1)), (3, .int (v3))]) hx hb dX12_room_82 hl (by decide) rfl (fun ls hl => ?_)
      obtain ⟨n13, h⟩ := h
      exact hL84 (v3)  n13 (0) M H locs ls G  (lv_sub hl [1, 2, 3, 0] rfl) h
  have hL32 : ∀ (v2 : Int32) (n : Nat) (v3 : Int32) (M : Mm) (H : Heap) (locs : List Loc) (ls : Array Slot), gS D s 17 ad (shR ad cy) H locs M → lv_has ls 9 [(0, .ref (ad 0)), (1, .int (v1)), (2, .int (v2)), (3, .int (v3))] → l_X12_room_32 K v1 v2 n v3 M → gWk p l e 1 22 s m ([.ref (ad 0), .int (v1)] : List Value).toArray below meth c H locs (gQi D 17 ad (shR ad cy) K) 17 ad 32 ls [] := by
    intro v2 n32
    induction n32 with
    | zero =>
      intro v3 M H locs ls G hl h
      exact False.elim h
    | succ n32 ih32 =>
      have hJ66 : ∀ (v3 : Int32) (s0 : Int32) (s1 : Int32) (s2 : Nat) (M : Mm) (H : Heap) (locs : List Loc) (ls : Array Slot), gS D s 17 ad (shR ad cy) H locs M → lv_has ls 9 [(0, .ref (ad 0)), (1, .int (v1)), (2, .int (v2)), (3, .int (v3))] → f_X12_room_66 K (fun a0 a => (l_X12_room_32 K v1 v2 n32) a0 a) v1 v2 v3 s0 s1 s2 M → gWk p l e 1 22 s m ([.ref (ad 0), .int (v1)] : List Value).toArray below meth c H locs (gQi D 17 ad (shR ad cy) K) 17 ad 66 ls [.int (s0), .int (s1), .ref (ad 15)] := by
        intro v3 s0 s1 s2 M H locs ls G hl h
        unfold f_X12_room_66 at h
        obtain ⟨q14, h⟩ := h
        refine gq_iast X G rr_15 q14 dX12_room_66 (fun M15 H locs e16 G => ?_)
        have h := h M15 e16
        refine lv_iinc (v := v3 + 1) (lv' := [(3, .int (v3 + 1)), (0, .ref (ad 0)), (1, .int (v1)), (2, .int (v2))]) hx hb dX12_room_67 hl (k := 3) rfl rfl (by decide) rfl (fun ls hl => ?_)
        refine lv_goto (tgt := 32) hx hb dX12_room_70 (by decide) ?_
        exact ih32 (v3 + 1) M15 H locs ls G  (lv_sub hl [1, 2, 3, 0] rfl) h
      intro v3 M H locs ls G hl h
      rw [l_X12_room_32] at h
      refine lv_iload_n hx hb dX12_room_32 rfl (lv_at hl 3 rfl) ?_
      refine lv_bipush (v := (25)) hx hb dX12_room_33 (by decide) ?_
      refine lv_icmp_ge (tgt := 73) hx hb dX12_room_35 (by decide) (fun c17 => ?_) (fun c17 => ?_)
      · have h := h.1 c17
        refine lv_iload_n hx hb dX12_room_73 rfl (lv_at hl 2 rfl) ?_
        refine lv_iconst (v := (1)) hx hb dX12_room_74 (by decide) ?_
        refine lv_isub hx hb dX12_room_75 ?_
        refine lv_istore_n (lv' := [(3, .int (v2 - 1)), (0, .ref (ad 0)), (1, .int (v1)), (2, .int (v2))]) hx hb dX12_room_76 rfl hl (by decide) rfl (fun ls hl => ?_)
        obtain ⟨n18, h⟩ := h
        exact hL77   n18 (v2 - 1) M H locs ls G  (lv_sub hl [1, 2, 0] rfl) h
      have h := h.2 c17
      refine lv_aload_n hx hb dX12_room_38 rfl (lv_at hl 0 rfl) ?_
      refine gf_Model_fewest X G qw_5_22 dX12_room_39 ?_
      refine lv_bipush (v := (25)) hx hb dX12_room_42 (by decide) ?_
      refine lv_iload_n hx hb dX12_room_44 rfl (lv_at hl 2 rfl) ?_
      refine lv_imul hx hb dX12_room_45 ?_
      refine lv_iload_n hx hb dX12_room_46 rfl (lv_at hl 3 rfl) ?_
      refine lv_iadd hx hb dX12_room_47 ?_
      refine lv_aload_n hx hb dX12_room_48 rfl (lv_at hl 0 rfl) ?_
      refine gf_Model_told X G qw_5_13 dX12_room_49 ?_
      refine lv_iconst (v := (0)) hx hb dX12_room_52 (by decide) ?_
      refine gq_iald X G rr_7 (by unfold vp_in; decide) dX12_room_53 ?_
      refine lv_iload_n hx hb dX12_room_54 rfl (lv_at hl 3 rfl) ?_
      refine lv_isub hx hb dX12_room_55 ?_
      refine lv_iload_n hx hb dX12_room_56 rfl (lv_at hl 1 rfl) ?_
      refine lv_icmp_lt (tgt := 64) hx hb dX12_room_57 (by decide) (fun c19 => ?_) (fun c19 => ?_)
      · have h := h.1 c19
        refine gq_ldc (v := (100000)) X qw_31_23 dX12_room_64 ?_
        exact hJ66 (v3) (100000) ((25 * v2) + v3) (15) M H locs ls G  (lv_sub hl [0, 1, 2, 3] rfl) h
      have h := h.2 c19
      refine lv_iconst (v := (0)) hx hb dX12_room_60 (by decide) ?_
      refine lv_goto (tgt := 66) hx hb dX12_room_61 (by decide) ?_
      exact hJ66 (v3) (0) ((25 * v2) + v3) (15) M H locs ls G  (lv_sub hl [0, 1, 2, 3] rfl) h
  unfold f_X12_room at h
  refine lv_aload_n hx hb dX12_room_0 rfl (lv_at hl 0 rfl) ?_
  refine gf_Model_isRead X G qw_14_8 dX12_room_1 ?_
  refine lv_if_ne (tgt := 10) hx hb dX12_room_4 (by decide) (fun c20 => ?_) (fun c20 => ?_)
  · have h := h.2 c20
    refine lv_iload_n hx hb dX12_room_10 rfl (lv_at hl 1 rfl) ?_
    refine lv_iconst (v := (1)) hx hb dX12_room_11 (by decide) ?_
    refine lv_bipush (v := (8)) hx hb dX12_room_12 (by decide) ?_
    refine gq_calli G (gc_S (rest := []) X hl.1 G (m_X12_in hI  h) cw_X12_in qw_7_12 qw_7_13 rfl rfl (Nat.le_of_ble_eq_true rfl) ⟨Nat.le_of_ble_eq_true rfl, Nat.le_of_ble_eq_true rfl⟩ ⟨Nat.le_refl _, Nat.le_refl _⟩ dX12_room_14) (fun r22 M21 H locs G h => ?_)
    refine lv_if_ne (tgt := 23) hx hb dX12_room_17 (by decide) (fun c23 => ?_) (fun c23 => ?_)
    · have h := h.2 c23
      refine lv_aload_n hx hb dX12_room_23 rfl (lv_at hl 0 rfl) ?_
      refine gf_Model_told X G qw_5_13 dX12_room_24 ?_
      refine lv_iconst (v := (2)) hx hb dX12_room_27 (by decide) ?_
      refine gq_iald X G rr_7 (by unfold vp_in; decide) dX12_room_28 ?_
      refine lv_istore_n (lv' := [(2, .int (M21 7 (2 : Int32).toNatClampNeg)), (0, .ref (ad 0)), (1, .int (v1))]) hx hb dX12_room_29 rfl hl (by decide) rfl (fun ls hl => ?_)
      refine lv_iconst (v := (0)) hx hb dX12_room_30 (by decide) ?_
      refine lv_istore_n (lv' := [(3, .int (0)), (2, .int (M21 7 (2 : Int32).toNatClampNeg)), (0, .ref (ad 0)), (1, .int (v1))]) hx hb dX12_room_31 rfl hl (by decide) rfl (fun ls hl => ?_)
      obtain ⟨n24, h⟩ := h
      exact hL32 (M21 7 (2 : Int32).toNatClampNeg)  n24 (0) M21 H locs ls G  (lv_sub hl [2, 3, 1, 0] rfl) h
    have h := h.1 c23
    refine gq_ldc (v := (-1000001)) X qw_7_8 dX12_room_20 ?_
    exact gq_iret X G h dX12_room_22
  have h := h.1 c20
  refine gq_ldc (v := (-1000002)) X qw_19_14 dX12_room_7 ?_
  exact gq_iret X G h dX12_room_9
def l_X12_rent_27 (K : Int32 → Mm → Prop) (v1 : Int32) (v2 : Int32) : Nat → Int32 → Int32 → Mm → Prop
  | 0, _, _, _ => False
  | n + 1, v3, v4, M => ((((M 7 (2 : Int32).toNatClampNeg : Int32) < v4 : Prop) → (f_X12_endOf 9 (v1) M (fun r3 M2 => (f_X12_firstOf 9 (v1) M2 (fun r5 M4 => (¬ (M4 7 (0 : Int32).toNatClampNeg) = 0 ∧ ((((v3 : Int32) ≤ v1 : Prop) → K (((v2 * (r3 - r5)) / (M4 7 (0 : Int32).toNatClampNeg)) + 0) M4) ∧ (¬ ((v3 : Int32) ≤ v1 : Prop) → K (((v2 * (r3 - r5)) / (M4 7 (0 : Int32).toNatClampNeg)) + 1) M4)))))))) ∧ (¬ ((M 7 (2 : Int32).toNatClampNeg : Int32) < v4 : Prop) → (f_X12_endOf 9 (v4) M (fun r9 M8 => (f_X12_firstOf 9 (v4) M8 (fun r11 M10 => (¬ (M10 7 (0 : Int32).toNatClampNeg) = 0 ∧ (l_X12_rent_27 K v1 v2 n) (v3 - ((v2 * (r9 - r11)) / (M10 7 (0 : Int32).toNatClampNeg))) (v4 + 1) M10)))))))
def f_X12_rent (v1 : Int32) (v2 : Int32) (M : Mm) (K : Int32 → Mm → Prop) : Prop := (f_X12_isHouse (v1) M (fun r14 M13 => ((((r14 : Int32) = 0 : Prop) → K (-1000001) M13) ∧ (¬ ((r14 : Int32) = 0 : Prop) → (f_X12_in (v2) (0) (999) M13 (fun r17 M16 => ((((r17 : Int32) = 0 : Prop) → K (-1000001) M16) ∧ (¬ ((r17 : Int32) = 0 : Prop) → ∃ z, l_X12_rent_27 K (v1) (v2) z (v2) (0) M16))))))))
set_option maxHeartbeats 4000000 in
set_option maxRecDepth 100000 in
theorem m_X12_rent (hI : gI 17 ad) {v1 : Int32} {v2 : Int32} {M : Mm} {K : Int32 → Mm → Prop} (h : f_X12_rent v1 v2 M K) : gM l D cy 17 ad (shR ad cy) yX12_rent cX12_rent 5 (some .int) 2 43 [.ref (ad 0), .int (v1), .int (v2)] M (gQi D 17 ad (shR ad cy) K) := by
  refine gM.of (own := RX12) (lv := [(0, .ref (ad 0)), (1, .int (v1)), (2, .int (v2))]) (by decide) rfl hI (Nat.le_of_ble_eq_true rfl) rfl ?_
  intro p e s m below meth c ls H locs X G hl
  have hx := X.1
  have hb := X.2.1
  have hL27 : ∀ (n : Nat) (v3 : Int32) (v4 : Int32) (M : Mm) (H : Heap) (locs : List Loc) (ls : Array Slot), gS D s 17 ad (shR ad cy) H locs M → lv_has ls 5 [(0, .ref (ad 0)), (1, .int (v1)), (2, .int (v2)), (3, .int (v3)), (4, .int (v4))] → l_X12_rent_27 K v1 v2 n v3 v4 M → gWk p l e 2 43 s m ([.ref (ad 0), .int (v1), .int (v2)] : List Value).toArray below meth c H locs (gQi D 17 ad (shR ad cy) K) 17 ad 27 ls [] := by
    intro n27
    induction n27 with
    | zero =>
      intro v3 v4 M H locs ls G hl h
      exact False.elim h
    | succ n27 ih27 =>
      intro v3 v4 M H locs ls G hl h
      rw [l_X12_rent_27] at h
      refine lv_iload hx hb dX12_rent_27 (lv_at hl 4 rfl) ?_
      refine lv_aload_n hx hb dX12_rent_29 rfl (lv_at hl 0 rfl) ?_
      refine gf_Model_told X G qw_5_13 dX12_rent_30 ?_
      refine lv_iconst (v := (2)) hx hb dX12_rent_33 (by decide) ?_
      refine gq_iald X G rr_7 (by unfold vp_in; decide) dX12_rent_34 ?_
      refine lv_icmp_gt (tgt := 77) hx hb dX12_rent_35 (by decide) (fun c1 => ?_) (fun c1 => ?_)
      · have h := h.1 c1
        refine lv_iload_n hx hb dX12_rent_77 rfl (lv_at hl 2 rfl) ?_
        refine lv_aload_n hx hb dX12_rent_78 rfl (lv_at hl 0 rfl) ?_
        refine lv_aload_n hx hb dX12_rent_79 rfl (lv_at hl 0 rfl) ?_
        refine gf_Model_now X G qw_5_15 dX12_rent_80 ?_
        refine lv_iload_n hx hb dX12_rent_83 rfl (lv_at hl 1 rfl) ?_
        refine gq_calli G (gc_V (C := RX12) (rest := [.int (v2)]) X hl.1 G (m_X12_endOf hI isC_9 h) cw_X12_endOf qw_20_11 qw_20_12 qw_20_13 ob_Model rfl rfl rfl rfl (Nat.le_of_ble_eq_true rfl) ⟨Nat.le_of_ble_eq_true rfl, Nat.le_of_ble_eq_true rfl⟩ ⟨Nat.le_refl _, Nat.le_refl _⟩ dX12_rent_84) (fun r3 M2 H locs G h => ?_)
        refine lv_aload_n hx hb dX12_rent_87 rfl (lv_at hl 0 rfl) ?_
        refine lv_aload_n hx hb dX12_rent_88 rfl (lv_at hl 0 rfl) ?_
        refine gf_Model_now X G qw_5_15 dX12_rent_89 ?_
        refine lv_iload_n hx hb dX12_rent_92 rfl (lv_at hl 1 rfl) ?_
        refine gq_calli G (gc_V (C := RX12) (rest := [.int (r3), .int (v2)]) X hl.1 G (m_X12_firstOf hI isC_9 h) cw_X12_firstOf qw_20_7 qw_20_8 qw_20_9 ob_Model rfl rfl rfl rfl (Nat.le_of_ble_eq_true rfl) ⟨Nat.le_of_ble_eq_true rfl, Nat.le_of_ble_eq_true rfl⟩ ⟨Nat.le_refl _, Nat.le_refl _⟩ dX12_rent_93) (fun r5 M4 H locs G h => ?_)
        refine lv_isub hx hb dX12_rent_96 ?_
        refine lv_imul hx hb dX12_rent_97 ?_
        refine lv_aload_n hx hb dX12_rent_98 rfl (lv_at hl 0 rfl) ?_
        refine gf_Model_told X G qw_5_13 dX12_rent_99 ?_
        refine lv_iconst (v := (0)) hx hb dX12_rent_102 (by decide) ?_
        refine gq_iald X G rr_7 (by unfold vp_in; decide) dX12_rent_103 ?_
        obtain ⟨q6, h⟩ := h
        refine lv_idiv hx hb dX12_rent_104 q6 ?_
        refine lv_iload_n hx hb dX12_rent_105 rfl (lv_at hl 1 rfl) ?_
        refine lv_iload_n hx hb dX12_rent_106 rfl (lv_at hl 3 rfl) ?_
        refine lv_icmp_ge (tgt := 114) hx hb dX12_rent_107 (by decide) (fun c7 => ?_) (fun c7 => ?_)
        · have h := h.1 c7
          refine lv_iconst (v := (0)) hx hb dX12_rent_114 (by decide) ?_
          refine lv_iadd hx hb dX12_rent_115 ?_
          exact gq_iret X G h dX12_rent_116
        have h := h.2 c7
        refine lv_iconst (v := (1)) hx hb dX12_rent_110 (by decide) ?_
        refine lv_goto (tgt := 115) hx hb dX12_rent_111 (by decide) ?_
        refine lv_iadd hx hb dX12_rent_115 ?_
        exact gq_iret X G h dX12_rent_116
      have h := h.2 c1
      refine lv_iload_n hx hb dX12_rent_38 rfl (lv_at hl 3 rfl) ?_
      refine lv_iload_n hx hb dX12_rent_39 rfl (lv_at hl 2 rfl) ?_
      refine lv_aload_n hx hb dX12_rent_40 rfl (lv_at hl 0 rfl) ?_
      refine lv_aload_n hx hb dX12_rent_41 rfl (lv_at hl 0 rfl) ?_
      refine gf_Model_now X G qw_5_15 dX12_rent_42 ?_
      refine lv_iload hx hb dX12_rent_45 (lv_at hl 4 rfl) ?_
      refine gq_calli G (gc_V (C := RX12) (rest := [.int (v2), .int (v3)]) X hl.1 G (m_X12_endOf hI isC_9 h) cw_X12_endOf qw_20_11 qw_20_12 qw_20_13 ob_Model rfl rfl rfl rfl (Nat.le_of_ble_eq_true rfl) ⟨Nat.le_of_ble_eq_true rfl, Nat.le_of_ble_eq_true rfl⟩ ⟨Nat.le_refl _, Nat.le_refl _⟩ dX12_rent_47) (fun r9 M8 H locs G h => ?_)
      refine lv_aload_n hx hb dX12_rent_50 rfl (lv_at hl 0 rfl) ?_
      refine lv_aload_n hx hb dX12_rent_51 rfl (lv_at hl 0 rfl) ?_
      refine gf_Model_now X G qw_5_15 dX12_rent_52 ?_
      refine lv_iload hx hb dX12_rent_55 (lv_at hl 4 rfl) ?_
      refine gq_calli G (gc_V (C := RX12) (rest := [.int (r9), .int (v2), .int (v3)]) X hl.1 G (m_X12_firstOf hI isC_9 h) cw_X12_firstOf qw_20_7 qw_20_8 qw_20_9 ob_Model rfl rfl rfl rfl (Nat.le_of_ble_eq_true rfl) ⟨Nat.le_of_ble_eq_true rfl, Nat.le_of_ble_eq_true rfl⟩ ⟨Nat.le_refl _, Nat.le_refl _⟩ dX12_rent_57) (fun r11 M10 H locs G h => ?_)
      refine lv_isub hx hb dX12_rent_60 ?_
      refine lv_imul hx hb dX12_rent_61 ?_
      refine lv_aload_n hx hb dX12_rent_62 rfl (lv_at hl 0 rfl) ?_
      refine gf_Model_told X G qw_5_13 dX12_rent_63 ?_
      refine lv_iconst (v := (0)) hx hb dX12_rent_66 (by decide) ?_
      refine gq_iald X G rr_7 (by unfold vp_in; decide) dX12_rent_67 ?_
      obtain ⟨q12, h⟩ := h
      refine lv_idiv hx hb dX12_rent_68 q12 ?_
      refine lv_isub hx hb dX12_rent_69 ?_
      refine lv_istore_n (lv' := [(3, .int (v3 - ((v2 * (r9 - r11)) / (M10 7 (0 : Int32).toNatClampNeg)))), (0, .ref (ad 0)), (1, .int (v1)), (2, .int (v2)), (4, .int (v4))]) hx hb dX12_rent_70 rfl hl (by decide) rfl (fun ls hl => ?_)
      refine lv_iinc (v := v4 + 1) (lv' := [(4, .int (v4 + 1)), (3, .int (v3 - ((v2 * (r9 - r11)) / (M10 7 (0 : Int32).toNatClampNeg)))), (0, .ref (ad 0)), (1, .int (v1)), (2, .int (v2))]) hx hb dX12_rent_71 hl (k := 4) rfl rfl (by decide) rfl (fun ls hl => ?_)
      refine lv_goto (tgt := 27) hx hb dX12_rent_74 (by decide) ?_
      exact ih27 (v3 - ((v2 * (r9 - r11)) / (M10 7 (0 : Int32).toNatClampNeg))) (v4 + 1) M10 H locs ls G  (lv_sub hl [2, 3, 4, 1, 0] rfl) h
  unfold f_X12_rent at h
  refine lv_aload_n hx hb dX12_rent_0 rfl (lv_at hl 0 rfl) ?_
  refine lv_iload_n hx hb dX12_rent_1 rfl (lv_at hl 1 rfl) ?_
  refine gq_calli G (gc_V (C := RX12) (rest := []) X hl.1 G (m_X12_isHouse hI  h) cw_X12_isHouse qw_23_7 qw_23_8 qw_23_9 ob_Model rfl rfl rfl rfl (Nat.le_of_ble_eq_true rfl) ⟨Nat.le_of_ble_eq_true rfl, Nat.le_of_ble_eq_true rfl⟩ ⟨Nat.le_refl _, Nat.le_refl _⟩ dX12_rent_2) (fun r14 M13 H locs G h => ?_)
  refine lv_if_eq (tgt := 19) hx hb dX12_rent_5 (by decide) (fun c15 => ?_) (fun c15 => ?_)
  · have h := h.1 c15
    refine gq_ldc (v := (-1000001)) X qw_7_8 dX12_rent_19 ?_
    exact gq_iret X G h dX12_rent_21
  have h := h.2 c15
  refine lv_iload_n hx hb dX12_rent_8 rfl (lv_at hl 2 rfl) ?_
  refine lv_iconst (v := (0)) hx hb dX12_rent_9 (by decide) ?_
  refine lv_sipush (v := (999)) hx hb dX12_rent_10 (by decide) ?_
  refine gq_calli G (gc_S (rest := []) X hl.1 G (m_X12_in hI  h) cw_X12_in qw_7_12 qw_7_13 rfl rfl (Nat.le_of_ble_eq_true rfl) ⟨Nat.le_of_ble_eq_true rfl, Nat.le_of_ble_eq_true rfl⟩ ⟨Nat.le_refl _, Nat.le_refl _⟩ dX12_rent_13) (fun r17 M16 H locs G h => ?_)
  refine lv_if_ne (tgt := 22) hx hb dX12_rent_16 (by decide) (fun c18 => ?_) (fun c18 => ?_)
  · have h := h.2 c18
    refine lv_iload_n hx hb dX12_rent_22 rfl (lv_at hl 2 rfl) ?_
    refine lv_istore_n (lv' := [(3, .int (v2)), (0, .ref (ad 0)), (1, .int (v1)), (2, .int (v2))]) hx hb dX12_rent_23 rfl hl (by decide) rfl (fun ls hl => ?_)
    refine lv_iconst (v := (0)) hx hb dX12_rent_24 (by decide) ?_
    refine lv_istore (lv' := [(4, .int (0)), (3, .int (v2)), (0, .ref (ad 0)), (1, .int (v1)), (2, .int (v2))]) hx hb dX12_rent_25 hl (by decide) rfl (fun ls hl => ?_)
    obtain ⟨n19, h⟩ := h
    exact hL27   n19 (v2) (0) M16 H locs ls G  (lv_sub hl [2, 3, 4, 1, 0] rfl) h
  have h := h.1 c18
  refine gq_ldc (v := (-1000001)) X qw_7_8 dX12_rent_19 ?_
  exact gq_iret X G h dX12_rent_21
def l_X12_isSo_6 (K : Int32 → Mm → Prop) (v1 : Int32) (v2 : Int32) (v3 : Int32) (v4 : Int32) (v5 : Int32) : Nat → Int32 → Int32 → Mm → Prop
  | 0, _, _, _ => False
  | n + 1, v6, v7, M => ((((v5 : Int32) ≤ v7 : Prop) → ((v6 = 0 ∨ v6 = 1) ∧ K (v6) M)) ∧ (¬ ((v5 : Int32) ≤ v7 : Prop) → (f_X12_passBy 10 (v1) (v2) (v3) M (fun M2 => ((((v6 : Int32) = 0 : Prop) → (l_X12_isSo_6 K v1 v2 v3 v4 v5 n) (0) (v7 + 1) M2) ∧ (¬ ((v6 : Int32) = 0 : Prop) → (vp_in (17 + v1) 22 ∧ (f_X12_bitsOf (M2 10 (17 + v1 : Int32).toNatClampNeg) M2 (fun r6 M5 => (vp_in (v4 + v7) 320 ∧ ((((r6 : Int32) = M5 3 (v4 + v7 : Int32).toNatClampNeg : Prop) → (l_X12_isSo_6 K v1 v2 v3 v4 v5 n) (1) (v7 + 1) M5) ∧ (¬ ((r6 : Int32) = M5 3 (v4 + v7 : Int32).toNatClampNeg : Prop) → (l_X12_isSo_6 K v1 v2 v3 v4 v5 n) (0) (v7 + 1) M5))))))))))))
def f_X12_isSo (v1 : Int32) (v2 : Int32) (v3 : Int32) (v4 : Int32) (v5 : Int32) (M : Mm) (K : Int32 → Mm → Prop) : Prop := ∃ z, l_X12_isSo_6 K (v1) (v2) (v3) (v4) (v5) z (1) (0) M
set_option maxHeartbeats 4000000 in
set_option maxRecDepth 100000 in
theorem m_X12_isSo (hI : gI 17 ad) {v1 : Int32} {v2 : Int32} {v3 : Int32} {v4 : Int32} {v5 : Int32} {M : Mm} {K : Int32 → Mm → Prop} (h : f_X12_isSo v1 v2 v3 v4 v5 M K) : gM l D cy 17 ad (shR ad cy) yX12_isSo cX12_isSo 8 (some .boolean) 3 75 [.ref (ad 0), .int (v1), .int (v2), .int (v3), .int (v4), .int (v5)] M (gQi D 17 ad (shR ad cy) K) := by
  refine gM.of (own := RX12) (lv := [(0, .ref (ad 0)), (1, .int (v1)), (2, .int (v2)), (3, .int (v3)), (4, .int (v4)), (5, .int (v5))]) (by decide) rfl hI (Nat.le_of_ble_eq_true rfl) rfl ?_
  intro p e s m below meth c ls H locs X G hl
  have hx := X.1
  have hb := X.2.1
  have hL6 : ∀ (n : Nat) (v6 : Int32) (v7 : Int32) (M : Mm) (H : Heap) (locs : List Loc) (ls : Array Slot), gS D s 17 ad (shR ad cy) H locs M → lv_has ls 8 [(0, .ref (ad 0)), (1, .int (v1)), (2, .int (v2)), (3, .int (v3)), (4, .int (v4)), (5, .int (v5)), (6, .int (v6)), (7, .int (v7))] → l_X12_isSo_6 K v1 v2 v3 v4 v5 n v6 v7 M → gWk p l e 3 75 s m ([.ref (ad 0), .int (v1), .int (v2), .int (v3), .int (v4), .int (v5)] : List Value).toArray below meth c H locs (gQi D 17 ad (shR ad cy) K) 17 ad 6 ls [] := by
    intro n6
    induction n6 with
    | zero =>
      intro v6 v7 M H locs ls G hl h
      exact False.elim h
    | succ n6 ih6 =>
      intro v6 v7 M H locs ls G hl h
      rw [l_X12_isSo_6] at h
      refine lv_iload hx hb dX12_isSo_6 (lv_at hl 7 rfl) ?_
      refine lv_iload hx hb dX12_isSo_8 (lv_at hl 5 rfl) ?_
      refine lv_icmp_ge (tgt := 67) hx hb dX12_isSo_10 (by decide) (fun c1 => ?_) (fun c1 => ?_)
      · have h := h.1 c1
        refine lv_iload hx hb dX12_isSo_67 (lv_at hl 6 rfl) ?_
        exact gq_zret X G h.1 h.2 dX12_isSo_69
      have h := h.2 c1
      refine lv_aload_n hx hb dX12_isSo_13 rfl (lv_at hl 0 rfl) ?_
      refine lv_aload_n hx hb dX12_isSo_14 rfl (lv_at hl 0 rfl) ?_
      refine gf_Model_tried X G qw_5_16 dX12_isSo_15 ?_
      refine lv_iload_n hx hb dX12_isSo_18 rfl (lv_at hl 1 rfl) ?_
      refine lv_iload_n hx hb dX12_isSo_19 rfl (lv_at hl 2 rfl) ?_
      refine lv_iload_n hx hb dX12_isSo_20 rfl (lv_at hl 3 rfl) ?_
      refine gq_callv G (gc_V (C := RX12) (rest := []) X hl.1 G (m_X12_passBy hI isC_10 h) cw_X12_passBy qw_19_23 qw_20_0 qw_20_1 ob_Model rfl rfl rfl rfl (Nat.le_of_ble_eq_true rfl) ⟨Nat.le_of_ble_eq_true rfl, Nat.le_of_ble_eq_true rfl⟩ ⟨Nat.le_refl _, Nat.le_refl _⟩ dX12_isSo_21) (fun M2 H locs G h => ?_)
      refine lv_iload hx hb dX12_isSo_24 (lv_at hl 6 rfl) ?_
      refine lv_if_eq (tgt := 58) hx hb dX12_isSo_26 (by decide) (fun c3 => ?_) (fun c3 => ?_)
      · have h := h.1 c3
        refine lv_iconst (v := (0)) hx hb dX12_isSo_58 (by decide) ?_
        refine lv_istore (lv' := [(6, .int (0)), (0, .ref (ad 0)), (1, .int (v1)), (2, .int (v2)), (3, .int (v3)), (4, .int (v4)), (5, .int (v5)), (7, .int (v7))]) hx hb dX12_isSo_59 hl (by decide) rfl (fun ls hl => ?_)
        refine lv_iinc (v := v7 + 1) (lv' := [(7, .int (v7 + 1)), (6, .int (0)), (0, .ref (ad 0)), (1, .int (v1)), (2, .int (v2)), (3, .int (v3)), (4, .int (v4)), (5, .int (v5))]) hx hb dX12_isSo_61 hl (k := 7) rfl rfl (by decide) rfl (fun ls hl => ?_)
        refine lv_goto (tgt := 6) hx hb dX12_isSo_64 (by decide) ?_
        exact ih6 (0) (v7 + 1) M2 H locs ls G  (lv_sub hl [2, 3, 4, 5, 6, 7, 1, 0] rfl) h
      have h := h.2 c3
      refine lv_aload_n hx hb dX12_isSo_29 rfl (lv_at hl 0 rfl) ?_
      refine gf_Model_tried X G qw_5_16 dX12_isSo_30 ?_
      refine lv_bipush (v := (17)) hx hb dX12_isSo_33 (by decide) ?_
      refine lv_iload_n hx hb dX12_isSo_35 rfl (lv_at hl 1 rfl) ?_
      refine lv_iadd hx hb dX12_isSo_36 ?_
      obtain ⟨q4, h⟩ := h
      refine gq_iald X G rr_10 q4 dX12_isSo_37 ?_
      refine gq_calli G (gc_S (rest := []) X hl.1 G (m_X12_bitsOf hI  h) cw_X12_bitsOf qw_28_23 qw_29_0 rfl rfl (Nat.le_of_ble_eq_true rfl) ⟨Nat.le_of_ble_eq_true rfl, Nat.le_of_ble_eq_true rfl⟩ ⟨Nat.le_refl _, Nat.le_refl _⟩ dX12_isSo_38) (fun r6 M5 H locs G h => ?_)
      refine lv_aload_n hx hb dX12_isSo_41 rfl (lv_at hl 0 rfl) ?_
      refine gf_Model_items X G qw_5_8 dX12_isSo_42 ?_
      refine lv_iload hx hb dX12_isSo_45 (lv_at hl 4 rfl) ?_
      refine lv_iload hx hb dX12_isSo_47 (lv_at hl 7 rfl) ?_
      refine lv_iadd hx hb dX12_isSo_49 ?_
      obtain ⟨q7, h⟩ := h
      refine gq_iald X G rr_3 q7 dX12_isSo_50 ?_
      refine lv_icmp_ne (tgt := 58) hx hb dX12_isSo_51 (by decide) (fun c8 => ?_) (fun c8 => ?_)
      · have h := h.2 c8
        refine lv_iconst (v := (0)) hx hb dX12_isSo_58 (by decide) ?_
        refine lv_istore (lv' := [(6, .int (0)), (0, .ref (ad 0)), (1, .int (v1)), (2, .int (v2)), (3, .int (v3)), (4, .int (v4)), (5, .int (v5)), (7, .int (v7))]) hx hb dX12_isSo_59 hl (by decide) rfl (fun ls hl => ?_)
        refine lv_iinc (v := v7 + 1) (lv' := [(7, .int (v7 + 1)), (6, .int (0)), (0, .ref (ad 0)), (1, .int (v1)), (2, .int (v2)), (3, .int (v3)), (4, .int (v4)), (5, .int (v5))]) hx hb dX12_isSo_61 hl (k := 7) rfl rfl (by decide) rfl (fun ls hl => ?_)
        refine lv_goto (tgt := 6) hx hb dX12_isSo_64 (by decide) ?_
        exact ih6 (0) (v7 + 1) M5 H locs ls G  (lv_sub hl [2, 3, 4, 5, 6, 7, 1, 0] rfl) h
      have h := h.1 c8
      refine lv_iconst (v := (1)) hx hb dX12_isSo_54 (by decide) ?_
      refine lv_goto (tgt := 59) hx hb dX12_isSo_55 (by decide) ?_
      refine lv_istore (lv' := [(6, .int (1)), (0, .ref (ad 0)), (1, .int (v1)), (2, .int (v2)), (3, .int (v3)), (4, .int (v4)), (5, .int (v5)), (7, .int (v7))]) hx hb dX12_isSo_59 hl (by decide) rfl (fun ls hl => ?_)
      refine lv_iinc (v := v7 + 1) (lv' := [(7, .int (v7 + 1)), (6, .int (1)), (0, .ref (ad 0)), (1, .int (v1)), (2, .int (v2)), (3, .int (v3)), (4, .int (v4)), (5, .int (v5))]) hx hb dX12_isSo_61 hl (k := 7) rfl rfl (by decide) rfl (fun ls hl => ?_)
      refine lv_goto (tgt := 6) hx hb dX12_isSo_64 (by decide) ?_
      exact ih6 (1) (v7 + 1) M5 H locs ls G  (lv_sub hl [2, 3, 4, 5, 6, 7, 1, 0] rfl) h
  unfold f_X12_isSo at h
  refine lv_iconst (v := (1)) hx hb dX12_isSo_0 (by decide) ?_
  refine lv_istore (lv' := [(6, .int (1)), (0, .ref (ad 0)), (1, .int (v1)), (2, .int (v2)), (3, .int (v3)), (4, .int (v4)), (5, .int (v5))]) hx hb dX12_isSo_1 hl (by decide) rfl (fun ls hl => ?_)
  refine lv_iconst (v := (0)) hx hb dX12_isSo_3 (by decide) ?_
  refine lv_istore (lv' := [(7, .int (0)), (6, .int (1)), (0, .ref (ad 0)), (1, .int (v1)), (2, .int (v2)), (3, .int (v3)), (4, .int (v4)), (5, .int (v5))]) hx hb dX12_isSo_4 hl (by decide) rfl (fun ls hl => ?_)
  obtain ⟨n9, h⟩ := h
  exact hL6   n9 (1) (0) M H locs ls G  (lv_sub hl [2, 3, 4, 5, 6, 7, 1, 0] rfl) h
end GEN08
