section GEN02
variable {l : Launch} {D : va_G} {cy : Nat → ClassId} {ad : Nat → Nat}
def f_X6_hasHouse (v0 : Nat) (v1 : Int32) (M : Mm) (K : Int32 → Mm → Prop) : Prop := ((((M v0 8 : Int32) ≤ 0 : Prop) → K 0 M) ∧ (¬ ((M v0 8 : Int32) ≤ 0 : Prop) → ((((v1 : Int32) < 0 : Prop) → K 0 M) ∧ (¬ ((v1 : Int32) < 0 : Prop) → ((((M v0 9 : Int32) < v1 : Prop) → K 0 M) ∧ (¬ ((M v0 9 : Int32) < v1 : Prop) → K 1 M))))))
set_option maxHeartbeats 4000000 in
set_option maxRecDepth 100000 in
theorem m_X6_hasHouse (hI : gI 91 ad) {v0 : Nat} (hv0 : isPap v0) {v1 : Int32} {M : Mm} {K : Int32 → Mm → Prop} (h : f_X6_hasHouse v0 v1 M K) : gM l D cy 91 ad (shC ad cy) yX6_hasHouse cX6_hasHouse 2 (some .boolean) 0 0 [.ref (ad v0), .int (v1)] M (gQi D 91 ad (shC ad cy) K) := by
  refine gM.of (own := RX6) (lv := [(0, .ref (ad v0)), (1, .int (v1))]) (by decide) rfl hI (Nat.le_of_ble_eq_true rfl) rfl ?_
  intro p e s m below meth c ls H locs X G hl
  have hx := X.1
  have hb := X.2.1
  unfold f_X6_hasHouse at h
  refine lv_aload_n hx hb dX6_hasHouse_0 rfl (lv_at hl 0 rfl) ?_
  refine gf_Paper_cells X G hv0 qw_11_3 dX6_hasHouse_1 ?_
  refine lv_if_le (tgt := 23) hx hb dX6_hasHouse_4 (by decide) (fun c1 => ?_) (fun c1 => ?_)
  · have h := h.1 c1
    refine lv_iconst (v := (0)) hx hb dX6_hasHouse_23 (by decide) ?_
    exact gq_zret X G (Or.inl rfl) h dX6_hasHouse_24
  have h := h.2 c1
  refine lv_iload_n hx hb dX6_hasHouse_7 rfl (lv_at hl 1 rfl) ?_
  refine lv_if_lt (tgt := 23) hx hb dX6_hasHouse_8 (by decide) (fun c2 => ?_) (fun c2 => ?_)
  · have h := h.1 c2
    refine lv_iconst (v := (0)) hx hb dX6_hasHouse_23 (by decide) ?_
    exact gq_zret X G (Or.inl rfl) h dX6_hasHouse_24
  have h := h.2 c2
  refine lv_iload_n hx hb dX6_hasHouse_11 rfl (lv_at hl 1 rfl) ?_
  refine lv_aload_n hx hb dX6_hasHouse_12 rfl (lv_at hl 0 rfl) ?_
  refine gf_Paper_wallCount X G hv0 qw_11_4 dX6_hasHouse_13 ?_
  refine lv_icmp_gt (tgt := 23) hx hb dX6_hasHouse_16 (by decide) (fun c3 => ?_) (fun c3 => ?_)
  · have h := h.1 c3
    refine lv_iconst (v := (0)) hx hb dX6_hasHouse_23 (by decide) ?_
    exact gq_zret X G (Or.inl rfl) h dX6_hasHouse_24
  have h := h.2 c3
  refine lv_iconst (v := (1)) hx hb dX6_hasHouse_19 (by decide) ?_
  refine lv_goto (tgt := 24) hx hb dX6_hasHouse_20 (by decide) ?_
  exact gq_zret X G (Or.inr rfl) h dX6_hasHouse_24
def f_X11_put (v1 : Int32) (v2 : Int32) (M : Mm) (K : Int32 → Mm → Prop) : Prop := (f_X6_hasFolk 26 (v1) M (fun r2 M1 => ((((r2 : Int32) = 0 : Prop) → K (-1000001) M1) ∧ (¬ ((r2 : Int32) = 0 : Prop) → (f_X6_hasHouse 26 (v2) M1 (fun r5 M4 => ((((r5 : Int32) = 0 : Prop) → K (-1000001) M4) ∧ (¬ ((r5 : Int32) = 0 : Prop) → (f_X11_keepAct  M4 (fun M7 => (vp_in (v1) 5 ∧ (∀ M9 : Mm, M9 = gU M7 (26 + 4) (v1 : Int32).toNatClampNeg (v2) → (f_X6_seenBy 26 (v1) M9 (fun r12 M11 => (∀ M13 : Mm, M13 = gU M11 (26 + 6) (v1 : Int32).toNatClampNeg ((M9 (26 + 6) (v1 : Int32).toNatClampNeg) ||| r12) → K (M13 (26 + 6) (v1 : Int32).toNatClampNeg) M13)))))))))))))))
set_option maxHeartbeats 4000000 in
set_option maxRecDepth 100000 in
theorem m_X11_put (hI : gI 91 ad) {v1 : Int32} {v2 : Int32} {M : Mm} {K : Int32 → Mm → Prop} (h : f_X11_put v1 v2 M K) : gM l D cy 91 ad (shC ad cy) yX11_put cX11_put 3 (some .int) 3 105 [.ref (ad 0), .int (v1), .int (v2)] M (gQi D 91 ad (shC ad cy) K) := by
  refine gM.of (own := RX11) (lv := [(0, .ref (ad 0)), (1, .int (v1)), (2, .int (v2))]) (by decide) rfl hI (Nat.le_of_ble_eq_true rfl) rfl ?_
  intro p e s m below meth c ls H locs X G hl
  have hx := X.1
  have hb := X.2.1
  unfold f_X11_put at h
  refine lv_aload_n hx hb dX11_put_0 rfl (lv_at hl 0 rfl) ?_
  refine gf_PH_now X G qw_2_16 dX11_put_1 ?_
  refine lv_iload_n hx hb dX11_put_4 rfl (lv_at hl 1 rfl) ?_
  refine gq_calli G (gc_VN (C := RX6) (rest := []) X hl.1 G (m_X6_hasFolk hI isPap_26 h) cw_X6_hasFolk nm_34 qw_22_17 qw_22_18 (ob_Paper isPap_26) rfl rfl rfl rfl (Nat.le_of_ble_eq_true rfl) ⟨Nat.le_of_ble_eq_true rfl, Nat.le_of_ble_eq_true rfl⟩ ⟨Nat.le_refl _, Nat.le_refl _⟩ dX11_put_5) (fun r2 M1 H locs G h => ?_)
  refine lv_if_eq (tgt := 22) hx hb dX11_put_8 (by decide) (fun c3 => ?_) (fun c3 => ?_)
  · have h := h.1 c3
    refine gq_ldc (v := (-1000001)) X qw_6_5 dX11_put_22 ?_
    exact gq_iret X G h dX11_put_24
  have h := h.2 c3
  refine lv_aload_n hx hb dX11_put_11 rfl (lv_at hl 0 rfl) ?_
  refine gf_PH_now X G qw_2_16 dX11_put_12 ?_
  refine lv_iload_n hx hb dX11_put_15 rfl (lv_at hl 2 rfl) ?_
  refine gq_calli G (gc_VN (C := RX6) (rest := []) X hl.1 G (m_X6_hasHouse hI isPap_26 h) cw_X6_hasHouse nm_35 qw_22_20 qw_22_21 (ob_Paper isPap_26) rfl rfl rfl rfl (Nat.le_of_ble_eq_true rfl) ⟨Nat.le_of_ble_eq_true rfl, Nat.le_of_ble_eq_true rfl⟩ ⟨Nat.le_refl _, Nat.le_refl _⟩ dX11_put_16) (fun r5 M4 H locs G h => ?_)
  refine lv_if_ne (tgt := 25) hx hb dX11_put_19 (by decide) (fun c6 => ?_) (fun c6 => ?_)
  · have h := h.2 c6
    refine lv_aload_n hx hb dX11_put_25 rfl (lv_at hl 0 rfl) ?_
    refine gq_callv G (gc_V (C := RX11) (rest := []) X hl.1 G (m_X11_keepAct hI  h) cw_X11_keepAct qw_16_21 qw_16_22 qw_16_23 ob_PH rfl rfl rfl rfl (Nat.le_of_ble_eq_true rfl) ⟨Nat.le_of_ble_eq_true rfl, Nat.le_of_ble_eq_true rfl⟩ ⟨Nat.le_refl _, Nat.le_refl _⟩ dX11_put_26) (fun M7 H locs G h => ?_)
    refine lv_aload_n hx hb dX11_put_29 rfl (lv_at hl 0 rfl) ?_
    refine gf_PH_now X G qw_2_16 dX11_put_30 ?_
    refine gfN_Paper_houses X G isPap_26 nf_16 dX11_put_33 ?_
    refine lv_iload_n hx hb dX11_put_36 rfl (lv_at hl 1 rfl) ?_
    refine lv_iload_n hx hb dX11_put_37 rfl (lv_at hl 2 rfl) ?_
    obtain ⟨q8, h⟩ := h
    refine gq_iast X G (ar_Paper_houses isPap_26) q8 dX11_put_38 (fun M9 H locs e10 G => ?_)
    have h := h M9 e10
    refine lv_aload_n hx hb dX11_put_39 rfl (lv_at hl 0 rfl) ?_
    refine gf_PH_now X G qw_2_16 dX11_put_40 ?_
    refine gfN_Paper_knows X G isPap_26 nf_20 dX11_put_43 ?_
    refine lv_iload_n hx hb dX11_put_46 rfl (lv_at hl 1 rfl) ?_
    refine lv_dup2_11 hx hb dX11_put_47 rfl rfl ?_
    refine gq_iald X G (ar_Paper_knows isPap_26) q8 dX11_put_48 ?_
    refine lv_aload_n hx hb dX11_put_49 rfl (lv_at hl 0 rfl) ?_
    refine gf_PH_now X G qw_2_16 dX11_put_50 ?_
    refine lv_iload_n hx hb dX11_put_53 rfl (lv_at hl 1 rfl) ?_
    refine gq_calli G (gc_VN (C := RX6) (rest := [.int (M9 (26 + 6) (v1 : Int32).toNatClampNeg), .int (v1), .ref (ad (26 + 6))]) X hl.1 G (m_X6_seenBy hI isPap_26 h) cw_X6_seenBy nm_36 qw_17_12 qw_17_13 (ob_Paper isPap_26) rfl rfl rfl rfl (Nat.le_of_ble_eq_true rfl) ⟨Nat.le_of_ble_eq_true rfl, Nat.le_of_ble_eq_true rfl⟩ ⟨Nat.le_refl _, Nat.le_refl _⟩ dX11_put_54) (fun r12 M11 H locs G h => ?_)
    refine lv_ior hx hb dX11_put_57 ?_
    refine gq_iast X G (ar_Paper_knows isPap_26) q8 dX11_put_58 (fun M13 H locs e14 G => ?_)
    have h := h M13 e14
    refine lv_aload_n hx hb dX11_put_59 rfl (lv_at hl 0 rfl) ?_
    refine gf_PH_now X G qw_2_16 dX11_put_60 ?_
    refine gfN_Paper_knows X G isPap_26 nf_20 dX11_put_63 ?_
    refine lv_iload_n hx hb dX11_put_66 rfl (lv_at hl 1 rfl) ?_
    refine gq_iald X G (ar_Paper_knows isPap_26) q8 dX11_put_67 ?_
    exact gq_iret X G h dX11_put_68
  have h := h.1 c6
  refine gq_ldc (v := (-1000001)) X qw_6_5 dX11_put_22 ?_
  exact gq_iret X G h dX11_put_24
def f_X6_setScene (v0 : Nat) (v1 : Nat) (M : Mm) (K : Mm → Prop) : Prop := (∀ M2 : Mm, M2 = gU M v0 13 (M v1 (0 : Int32).toNatClampNeg) → (∀ M4 : Mm, M4 = gU M2 v0 12 (M2 v1 (1 : Int32).toNatClampNeg) → (∀ M6 : Mm, M6 = gCp M4 v1 (v0 + 2) (2 : Int32).toNatClampNeg (0 : Int32).toNatClampNeg (5 : Int32).toNatClampNeg → (∀ M8 : Mm, M8 = gCp M6 v1 (v0 + 4) (7 : Int32).toNatClampNeg (0 : Int32).toNatClampNeg (5 : Int32).toNatClampNeg → (∀ M10 : Mm, M10 = gCp M8 v1 (v0 + 5) (12 : Int32).toNatClampNeg (0 : Int32).toNatClampNeg (5 : Int32).toNatClampNeg → (∀ M12 : Mm, M12 = gCp M10 v1 (v0 + 6) (17 : Int32).toNatClampNeg (0 : Int32).toNatClampNeg (5 : Int32).toNatClampNeg → K M12))))))
set_option maxHeartbeats 4000000 in
set_option maxRecDepth 100000 in
theorem m_X6_setScene (hI : gI 91 ad) {v0 : Nat} (hv0 : isPap v0) {v1 : Nat} (hv1 : isAct v1) {M : Mm} {K : Mm → Prop} (h : f_X6_setScene v0 v1 M K) : gM l D cy 91 ad (shC ad cy) yX6_setScene cX6_setScene 2 none 1 64 [.ref (ad v0), .ref (ad v1)] M (gQv D 91 ad (shC ad cy) K) := by
  refine gM.of (own := RX6) (lv := [(0, .ref (ad v0)), (1, .ref (ad v1))]) (by decide) rfl hI (Nat.le_of_ble_eq_true rfl) rfl ?_
  intro p e s m below meth c ls H locs X G hl
  have hx := X.1
  have hb := X.2.1
  unfold f_X6_setScene at h
  refine lv_aload_n hx hb dX6_setScene_0 rfl (lv_at hl 1 rfl) ?_
  refine lv_ifnull hx hb dX6_setScene_1 ?_
  refine lv_aload_n hx hb dX6_setScene_4 rfl (lv_at hl 1 rfl) ?_
  refine gq_alenC (v := 22) X G (ar_act hv1) (by decide) dX6_setScene_5 ?_
  refine lv_bipush (v := (22)) hx hb dX6_setScene_6 (by decide) ?_
  refine lv_icmp_ge (tgt := 12) hx hb dX6_setScene_8 (by decide) (fun c1 => ?_) (fun c1 => ?_)
  · refine lv_aload_n hx hb dX6_setScene_12 rfl (lv_at hl 0 rfl) ?_
    refine lv_aload_n hx hb dX6_setScene_13 rfl (lv_at hl 1 rfl) ?_
    refine lv_iconst (v := (0)) hx hb dX6_setScene_14 (by decide) ?_
    refine gq_iald X G (ar_act hv1) (by unfold vp_in; decide) dX6_setScene_15 ?_
    refine gp_Paper_day X G hv0 qw_11_8 dX6_setScene_16 (fun M2 H locs e3 G => ?_)
    have h := h M2 e3
    refine lv_aload_n hx hb dX6_setScene_19 rfl (lv_at hl 0 rfl) ?_
    refine lv_aload_n hx hb dX6_setScene_20 rfl (lv_at hl 1 rfl) ?_
    refine lv_iconst (v := (1)) hx hb dX6_setScene_21 (by decide) ?_
    refine gq_iald X G (ar_act hv1) (by unfold vp_in; decide) dX6_setScene_22 ?_
    refine gp_Paper_faded X G hv0 qw_11_7 dX6_setScene_23 (fun M4 H locs e5 G => ?_)
    have h := h M4 e5
    refine lv_aload_n hx hb dX6_setScene_26 rfl (lv_at hl 1 rfl) ?_
    refine lv_iconst (v := (2)) hx hb dX6_setScene_27 (by decide) ?_
    refine lv_aload_n hx hb dX6_setScene_28 rfl (lv_at hl 0 rfl) ?_
    refine gf_Paper_walls X G hv0 qw_4_9 dX6_setScene_29 ?_
    refine lv_iconst (v := (0)) hx hb dX6_setScene_32 (by decide) ?_
    refine lv_iconst (v := (5)) hx hb dX6_setScene_33 (by decide) ?_
    refine gq_copy (rest := []) X hl.1 G (ar_act hv1) (ar_Paper_walls hv0) qw_13_17 qw_8_23 qw_9_0 qw_9_1 (by unfold gCk; decide) (Nat.le_of_ble_eq_true rfl) (Nat.le_of_ble_eq_true rfl) dX6_setScene_34 (fun M6 H locs e7 G => ?_)
    have h := h M6 e7
    refine lv_aload_n hx hb dX6_setScene_37 rfl (lv_at hl 1 rfl) ?_
    refine lv_bipush (v := (7)) hx hb dX6_setScene_38 (by decide) ?_
    refine lv_aload_n hx hb dX6_setScene_40 rfl (lv_at hl 0 rfl) ?_
    refine gf_Paper_houses X G hv0 qw_4_11 dX6_setScene_41 ?_
    refine lv_iconst (v := (0)) hx hb dX6_setScene_44 (by decide) ?_
    refine lv_iconst (v := (5)) hx hb dX6_setScene_45 (by decide) ?_
    refine gq_copy (rest := []) X hl.1 G (ar_act hv1) (ar_Paper_houses hv0) qw_13_17 qw_8_23 qw_9_0 qw_9_1 (by unfold gCk; decide) (Nat.le_of_ble_eq_true rfl) (Nat.le_of_ble_eq_true rfl) dX6_setScene_46 (fun M8 H locs e9 G => ?_)
    have h := h M8 e9
    refine lv_aload_n hx hb dX6_setScene_49 rfl (lv_at hl 1 rfl) ?_
    refine lv_bipush (v := (12)) hx hb dX6_setScene_50 (by decide) ?_
    refine lv_aload_n hx hb dX6_setScene_52 rfl (lv_at hl 0 rfl) ?_
    refine gf_Paper_ways X G hv0 qw_4_12 dX6_setScene_53 ?_
    refine lv_iconst (v := (0)) hx hb dX6_setScene_56 (by decide) ?_
    refine lv_iconst (v := (5)) hx hb dX6_setScene_57 (by decide) ?_
    refine gq_copy (rest := []) X hl.1 G (ar_act hv1) (ar_Paper_ways hv0) qw_13_17 qw_8_23 qw_9_0 qw_9_1 (by unfold gCk; decide) (Nat.le_of_ble_eq_true rfl) (Nat.le_of_ble_eq_true rfl) dX6_setScene_58 (fun M10 H locs e11 G => ?_)
    have h := h M10 e11
    refine lv_aload_n hx hb dX6_setScene_61 rfl (lv_at hl 1 rfl) ?_
    refine lv_bipush (v := (17)) hx hb dX6_setScene_62 (by decide) ?_
    refine lv_aload_n hx hb dX6_setScene_64 rfl (lv_at hl 0 rfl) ?_
    refine gf_Paper_knows X G hv0 qw_4_13 dX6_setScene_65 ?_
    refine lv_iconst (v := (0)) hx hb dX6_setScene_68 (by decide) ?_
    refine lv_iconst (v := (5)) hx hb dX6_setScene_69 (by decide) ?_
    refine gq_copy (rest := []) X hl.1 G (ar_act hv1) (ar_Paper_knows hv0) qw_13_17 qw_8_23 qw_9_0 qw_9_1 (by unfold gCk; decide) (Nat.le_of_ble_eq_true rfl) (Nat.le_of_ble_eq_true rfl) dX6_setScene_70 (fun M12 H locs e13 G => ?_)
    have h := h M12 e13
    exact gq_vret X G h dX6_setScene_73
  exact absurd (by decide) c1
def f_X11_undo_29 (K : Int32 → Mm → Prop) (s0 : Int32) (s1 : Nat) (M : Mm) : Prop := (∀ M1 : Mm, M1 = gU M 0 10 (s0) → (∀ M3 : Mm, M3 = gU M1 0 9 ((M1 0 9) - 1) → (vp_in (M3 0 10) 24 ∧ (f_X6_setScene 26 (67 + (M3 0 10 : Int32).toNatClampNeg) M3 (fun M6 => K (M6 0 9) M6)))))
def f_X11_undo  (M : Mm) (K : Int32 → Mm → Prop) : Prop := ((((M 0 9 : Int32) = 0 : Prop) → K (-1000002) M) ∧ (¬ ((M 0 9 : Int32) = 0 : Prop) → ((((M 0 10 : Int32) = 0 : Prop) → f_X11_undo_29 K (23) (0) M) ∧ (¬ ((M 0 10 : Int32) = 0 : Prop) → f_X11_undo_29 K ((M 0 10) - 1) (0) M))))
set_option maxHeartbeats 4000000 in
set_option maxRecDepth 100000 in
theorem m_X11_undo (hI : gI 91 ad)  {M : Mm} {K : Int32 → Mm → Prop} (h : f_X11_undo  M K) : gM l D cy 91 ad (shC ad cy) yX11_undo cX11_undo 1 (some .int) 2 85 [.ref (ad 0)] M (gQi D 91 ad (shC ad cy) K) := by
  refine gM.of (own := RX11) (lv := [(0, .ref (ad 0))]) (by decide) rfl hI (Nat.le_of_ble_eq_true rfl) rfl ?_
  intro p e s m below meth c ls H locs X G hl
  have hx := X.1
  have hb := X.2.1
  have hJ29 : ∀ (s0 : Int32) (s1 : Nat) (M : Mm) (H : Heap) (locs : List Loc) (ls : Array Slot), gS D s 91 ad (shC ad cy) H locs M → lv_has ls 1 [(0, .ref (ad 0))] → f_X11_undo_29 K s0 s1 M → gWk p l e 2 85 s m ([.ref (ad 0)] : List Value).toArray below meth c H locs (gQi D 91 ad (shC ad cy) K) 91 ad 29 ls [.int (s0), .ref (ad 0)] := by
    intro s0 s1 M H locs ls G hl h
    unfold f_X11_undo_29 at h
    refine gp_PH_nextAct X G qw_13_23 dX11_undo_29 (fun M1 H locs e2 G => ?_)
    have h := h M1 e2
    refine lv_aload_n hx hb dX11_undo_32 rfl (lv_at hl 0 rfl) ?_
    refine lv_dup hx hb dX11_undo_33 rfl ?_
    refine gf_PH_actsKept X G qw_13_22 dX11_undo_34 ?_
    refine lv_iconst (v := (1)) hx hb dX11_undo_37 (by decide) ?_
    refine lv_isub hx hb dX11_undo_38 ?_
    refine gp_PH_actsKept X G qw_13_22 dX11_undo_39 (fun M3 H locs e4 G => ?_)
    have h := h M3 e4
    refine lv_aload_n hx hb dX11_undo_42 rfl (lv_at hl 0 rfl) ?_
    refine gf_PH_now X G qw_2_16 dX11_undo_43 ?_
    refine lv_aload_n hx hb dX11_undo_46 rfl (lv_at hl 0 rfl) ?_
    refine gf_PH_acts X G qw_3_5 dX11_undo_47 ?_
    refine lv_aload_n hx hb dX11_undo_50 rfl (lv_at hl 0 rfl) ?_
    refine gf_PH_nextAct X G qw_13_23 dX11_undo_51 ?_
    obtain ⟨q5, h⟩ := h
    refine ga_acts X G q5 dX11_undo_54 ?_
    refine gq_callv G (gc_VN (C := RX6) (rest := []) X hl.1 G (m_X6_setScene hI isPap_26 (isAct_of q5) h) cw_X6_setScene nm_37 qw_23_15 qw_23_16 (ob_Paper isPap_26) rfl rfl rfl rfl (Nat.le_of_ble_eq_true rfl) ⟨Nat.le_of_ble_eq_true rfl, Nat.le_of_ble_eq_true rfl⟩ ⟨Nat.le_refl _, Nat.le_refl _⟩ dX11_undo_55) (fun M6 H locs G h => ?_)
    refine lv_aload_n hx hb dX11_undo_58 rfl (lv_at hl 0 rfl) ?_
    refine gf_PH_actsKept X G qw_13_22 dX11_undo_59 ?_
    exact gq_iret X G h dX11_undo_62
  unfold f_X11_undo at h
  refine lv_aload_n hx hb dX11_undo_0 rfl (lv_at hl 0 rfl) ?_
  refine gf_PH_actsKept X G qw_13_22 dX11_undo_1 ?_
  refine lv_if_ne (tgt := 10) hx hb dX11_undo_4 (by decide) (fun c7 => ?_) (fun c7 => ?_)
  · have h := h.2 c7
    refine lv_aload_n hx hb dX11_undo_10 rfl (lv_at hl 0 rfl) ?_
    refine lv_aload_n hx hb dX11_undo_11 rfl (lv_at hl 0 rfl) ?_
    refine gf_PH_nextAct X G qw_13_23 dX11_undo_12 ?_
    refine lv_if_ne (tgt := 23) hx hb dX11_undo_15 (by decide) (fun c8 => ?_) (fun c8 => ?_)
    · have h := h.2 c8
      refine lv_aload_n hx hb dX11_undo_23 rfl (lv_at hl 0 rfl) ?_
      refine gf_PH_nextAct X G qw_13_23 dX11_undo_24 ?_
      refine lv_iconst (v := (1)) hx hb dX11_undo_27 (by decide) ?_
      refine lv_isub hx hb dX11_undo_28 ?_
      exact hJ29  ((M 0 10) - 1) (0) M H locs ls G  (lv_sub hl [0] rfl) h
    have h := h.1 c8
    refine lv_bipush (v := (23)) hx hb dX11_undo_18 (by decide) ?_
    refine lv_goto (tgt := 29) hx hb dX11_undo_20 (by decide) ?_
    exact hJ29  (23) (0) M H locs ls G  (lv_sub hl [0] rfl) h
  have h := h.1 c7
  refine gq_ldc (v := (-1000002)) X qw_16_16 dX11_undo_7 ?_
  exact gq_iret X G h dX11_undo_9
def l_X6_houseOf_4 (K : Int32 → Mm → Prop) (v0 : Nat) (v1 : Int32) : Nat → Int32 → Int32 → Mm → Prop
  | 0, _, _, _ => False
  | n + 1, v2, v3, M => ((((M v0 9 : Int32) ≤ v3 : Prop) → K (v2) M) ∧ (¬ ((M v0 9 : Int32) ≤ v3 : Prop) → (vp_in (v3) 5 ∧ ((((v1 : Int32) < M (v0 + 2) (v3 : Int32).toNatClampNeg : Prop) → (l_X6_houseOf_4 K v0 v1 n) (v2) (v3 + 1) M) ∧ (¬ ((v1 : Int32) < M (v0 + 2) (v3 : Int32).toNatClampNeg : Prop) → (l_X6_houseOf_4 K v0 v1 n) (v2 + 1) (v3 + 1) M)))))
def f_X6_houseOf (v0 : Nat) (v1 : Int32) (M : Mm) (K : Int32 → Mm → Prop) : Prop := ∃ z, l_X6_houseOf_4 K (v0) (v1) z (0) (0) M
set_option maxHeartbeats 4000000 in
set_option maxRecDepth 100000 in
theorem m_X6_houseOf (hI : gI 91 ad) {v0 : Nat} (hv0 : isPap v0) {v1 : Int32} {M : Mm} {K : Int32 → Mm → Prop} (h : f_X6_houseOf v0 v1 M K) : gM l D cy 91 ad (shC ad cy) yX6_houseOf cX6_houseOf 4 (some .int) 0 0 [.ref (ad v0), .int (v1)] M (gQi D 91 ad (shC ad cy) K) := by
  refine gM.of (own := RX6) (lv := [(0, .ref (ad v0)), (1, .int (v1))]) (by decide) rfl hI (Nat.le_of_ble_eq_true rfl) rfl ?_
  intro p e s m below meth c ls H locs X G hl
  have hx := X.1
  have hb := X.2.1
  have hL4 : ∀ (n : Nat) (v2 : Int32) (v3 : Int32) (M : Mm) (H : Heap) (locs : List Loc) (ls : Array Slot), gS D s 91 ad (shC ad cy) H locs M → lv_has ls 4 [(0, .ref (ad v0)), (1, .int (v1)), (2, .int (v2)), (3, .int (v3))] → l_X6_houseOf_4 K v0 v1 n v2 v3 M → gWk p l e 0 0 s m ([.ref (ad v0), .int (v1)] : List Value).toArray below meth c H locs (gQi D 91 ad (shC ad cy) K) 91 ad 4 ls [] := by
    intro n4
    induction n4 with
    | zero =>
      intro v2 v3 M H locs ls G hl h
      exact False.elim h
    | succ n4 ih4 =>
      intro v2 v3 M H locs ls G hl h
      rw [l_X6_houseOf_4] at h
      refine lv_iload_n hx hb dX6_houseOf_4 rfl (lv_at hl 3 rfl) ?_
      refine lv_aload_n hx hb dX6_houseOf_5 rfl (lv_at hl 0 rfl) ?_
      refine gf_Paper_wallCount X G hv0 qw_11_4 dX6_houseOf_6 ?_
      refine lv_icmp_ge (tgt := 31) hx hb dX6_houseOf_9 (by decide) (fun c1 => ?_) (fun c1 => ?_)
      · have h := h.1 c1
        refine lv_iload_n hx hb dX6_houseOf_31 rfl (lv_at hl 2 rfl) ?_
        exact gq_iret X G h dX6_houseOf_32
      have h := h.2 c1
      refine lv_aload_n hx hb dX6_houseOf_12 rfl (lv_at hl 0 rfl) ?_
      refine gf_Paper_walls X G hv0 qw_4_9 dX6_houseOf_13 ?_
      refine lv_iload_n hx hb dX6_houseOf_16 rfl (lv_at hl 3 rfl) ?_
      obtain ⟨q2, h⟩ := h
      refine gq_iald X G (ar_Paper_walls hv0) q2 dX6_houseOf_17 ?_
      refine lv_iload_n hx hb dX6_houseOf_18 rfl (lv_at hl 1 rfl) ?_
      refine lv_icmp_gt (tgt := 25) hx hb dX6_houseOf_19 (by decide) (fun c3 => ?_) (fun c3 => ?_)
      · have h := h.1 c3
        refine lv_iinc (v := v3 + 1) (lv' := [(3, .int (v3 + 1)), (0, .ref (ad v0)), (1, .int (v1)), (2, .int (v2))]) hx hb dX6_houseOf_25 hl (k := 3) rfl rfl (by decide) rfl (fun ls hl => ?_)
        refine lv_goto (tgt := 4) hx hb dX6_houseOf_28 (by decide) ?_
        exact ih4 (v2) (v3 + 1) M H locs ls G  (lv_sub hl [1, 2, 3, 0] rfl) h
      have h := h.2 c3
      refine lv_iinc (v := v2 + 1) (lv' := [(2, .int (v2 + 1)), (0, .ref (ad v0)), (1, .int (v1)), (3, .int (v3))]) hx hb dX6_houseOf_22 hl (k := 2) rfl rfl (by decide) rfl (fun ls hl => ?_)
      refine lv_iinc (v := v3 + 1) (lv' := [(3, .int (v3 + 1)), (2, .int (v2 + 1)), (0, .ref (ad v0)), (1, .int (v1))]) hx hb dX6_houseOf_25 hl (k := 3) rfl rfl (by decide) rfl (fun ls hl => ?_)
      refine lv_goto (tgt := 4) hx hb dX6_houseOf_28 (by decide) ?_
      exact ih4 (v2 + 1) (v3 + 1) M H locs ls G  (lv_sub hl [2, 3, 1, 0] rfl) h
  unfold f_X6_houseOf at h
  refine lv_iconst (v := (0)) hx hb dX6_houseOf_0 (by decide) ?_
  refine lv_istore_n (lv' := [(2, .int (0)), (0, .ref (ad v0)), (1, .int (v1))]) hx hb dX6_houseOf_1 rfl hl (by decide) rfl (fun ls hl => ?_)
  refine lv_iconst (v := (0)) hx hb dX6_houseOf_2 (by decide) ?_
  refine lv_istore_n (lv' := [(3, .int (0)), (2, .int (0)), (0, .ref (ad v0)), (1, .int (v1))]) hx hb dX6_houseOf_3 rfl hl (by decide) rfl (fun ls hl => ?_)
  obtain ⟨n4, h⟩ := h
  exact hL4   n4 (0) (0) M H locs ls G  (lv_sub hl [2, 3, 1, 0] rfl) h
def l_X6_folkWhoKnow_4 (K : Int32 → Mm → Prop) (v0 : Nat) (v1 : Int32) : Nat → Int32 → Int32 → Mm → Prop
  | 0, _, _, _ => False
  | n + 1, v2, v3, M => ((((M v0 10 : Int32) ≤ v3 : Prop) → K (v2) M) ∧ (¬ ((M v0 10 : Int32) ≤ v3 : Prop) → (vp_in (v3) 5 ∧ (f_X11_bitOf (M (v0 + 6) (v3 : Int32).toNatClampNeg) (v1) M (fun r4 M3 => (l_X6_folkWhoKnow_4 K v0 v1 n) (v2 ||| (r4 <<< (v3 &&& 31))) (v3 + 1) M3)))))
def f_X6_folkWhoKnow (v0 : Nat) (v1 : Int32) (M : Mm) (K : Int32 → Mm → Prop) : Prop := ∃ z, l_X6_folkWhoKnow_4 K (v0) (v1) z (0) (0) M
set_option maxHeartbeats 4000000 in
set_option maxRecDepth 100000 in
theorem m_X6_folkWhoKnow (hI : gI 91 ad) {v0 : Nat} (hv0 : isPap v0) {v1 : Int32} {M : Mm} {K : Int32 → Mm → Prop} (h : f_X6_folkWhoKnow v0 v1 M K) : gM l D cy 91 ad (shC ad cy) yX6_folkWhoKnow cX6_folkWhoKnow 4 (some .int) 1 21 [.ref (ad v0), .int (v1)] M (gQi D 91 ad (shC ad cy) K) := by
  refine gM.of (own := RX6) (lv := [(0, .ref (ad v0)), (1, .int (v1))]) (by decide) rfl hI (Nat.le_of_ble_eq_true rfl) rfl ?_
  intro p e s m below meth c ls H locs X G hl
  have hx := X.1
  have hb := X.2.1
  have hL4 : ∀ (n : Nat) (v2 : Int32) (v3 : Int32) (M : Mm) (H : Heap) (locs : List Loc) (ls : Array Slot), gS D s 91 ad (shC ad cy) H locs M → lv_has ls 4 [(0, .ref (ad v0)), (1, .int (v1)), (2, .int (v2)), (3, .int (v3))] → l_X6_folkWhoKnow_4 K v0 v1 n v2 v3 M → gWk p l e 1 21 s m ([.ref (ad v0), .int (v1)] : List Value).toArray below meth c H locs (gQi D 91 ad (shC ad cy) K) 91 ad 4 ls [] := by
    intro n4
    induction n4 with
    | zero =>
      intro v2 v3 M H locs ls G hl h
      exact False.elim h
    | succ n4 ih4 =>
      intro v2 v3 M H locs ls G hl h
      rw [l_X6_folkWhoKnow_4] at h
      refine lv_iload_n hx hb dX6_folkWhoKnow_4 rfl (lv_at hl 3 rfl) ?_
      refine lv_aload_n hx hb dX6_folkWhoKnow_5 rfl (lv_at hl 0 rfl) ?_
      refine gf_Paper_folkCount X G hv0 qw_11_5 dX6_folkWhoKnow_6 ?_
      refine lv_icmp_ge (tgt := 33) hx hb dX6_folkWhoKnow_9 (by decide) (fun c1 => ?_) (fun c1 => ?_)
      · have h := h.1 c1
        refine lv_iload_n hx hb dX6_folkWhoKnow_33 rfl (lv_at hl 2 rfl) ?_
        exact gq_iret X G h dX6_folkWhoKnow_34
      have h := h.2 c1
      refine lv_iload_n hx hb dX6_folkWhoKnow_12 rfl (lv_at hl 2 rfl) ?_
      refine lv_aload_n hx hb dX6_folkWhoKnow_13 rfl (lv_at hl 0 rfl) ?_
      refine gf_Paper_knows X G hv0 qw_4_13 dX6_folkWhoKnow_14 ?_
      refine lv_iload_n hx hb dX6_folkWhoKnow_17 rfl (lv_at hl 3 rfl) ?_
      obtain ⟨q2, h⟩ := h
      refine gq_iald X G (ar_Paper_knows hv0) q2 dX6_folkWhoKnow_18 ?_
      refine lv_iload_n hx hb dX6_folkWhoKnow_19 rfl (lv_at hl 1 rfl) ?_
      refine gq_calli G (gc_SN (rest := [.int (v2)]) X hl.1 G (m_X11_bitOf hI  h) cw_X11_bitOf nm_40 qw_22_0 rfl rfl (Nat.le_of_ble_eq_true rfl) ⟨Nat.le_of_ble_eq_true rfl, Nat.le_of_ble_eq_true rfl⟩ ⟨Nat.le_refl _, Nat.le_refl _⟩ dX6_folkWhoKnow_20) (fun r4 M3 H locs G h => ?_)
      refine lv_iload_n hx hb dX6_folkWhoKnow_23 rfl (lv_at hl 3 rfl) ?_
      refine lv_ishl hx hb dX6_folkWhoKnow_24 ?_
      refine lv_ior hx hb dX6_folkWhoKnow_25 ?_
      refine lv_istore_n (lv' := [(2, .int (v2 ||| (r4 <<< (v3 &&& 31)))), (0, .ref (ad v0)), (1, .int (v1)), (3, .int (v3))]) hx hb dX6_folkWhoKnow_26 rfl hl (by decide) rfl (fun ls hl => ?_)
      refine lv_iinc (v := v3 + 1) (lv' := [(3, .int (v3 + 1)), (2, .int (v2 ||| (r4 <<< (v3 &&& 31)))), (0, .ref (ad v0)), (1, .int (v1))]) hx hb dX6_folkWhoKnow_27 hl (k := 3) rfl rfl (by decide) rfl (fun ls hl => ?_)
      refine lv_goto (tgt := 4) hx hb dX6_folkWhoKnow_30 (by decide) ?_
      exact ih4 (v2 ||| (r4 <<< (v3 &&& 31))) (v3 + 1) M3 H locs ls G  (lv_sub hl [2, 3, 1, 0] rfl) h
  unfold f_X6_folkWhoKnow at h
  refine lv_iconst (v := (0)) hx hb dX6_folkWhoKnow_0 (by decide) ?_
  refine lv_istore_n (lv' := [(2, .int (0)), (0, .ref (ad v0)), (1, .int (v1))]) hx hb dX6_folkWhoKnow_1 rfl hl (by decide) rfl (fun ls hl => ?_)
  refine lv_iconst (v := (0)) hx hb dX6_folkWhoKnow_2 (by decide) ?_
  refine lv_istore_n (lv' := [(3, .int (0)), (2, .int (0)), (0, .ref (ad v0)), (1, .int (v1))]) hx hb dX6_folkWhoKnow_3 rfl hl (by decide) rfl (fun ls hl => ?_)
  obtain ⟨n5, h⟩ := h
  exact hL4   n5 (0) (0) M H locs ls G  (lv_sub hl [2, 3, 1, 0] rfl) h
def f_X11_cell (v1 : Int32) (v2 : Int32) (M : Mm) (K : Int32 → Mm → Prop) : Prop := (f_X6_hasCell 26 (v1) M (fun r2 M1 => ((((r2 : Int32) = 0 : Prop) → K (-1000001) M1) ∧ (¬ ((r2 : Int32) = 0 : Prop) → (((v2 : Int32) = 0 → (vp_in (v1) 24 ∧ K (M1 (26 + 1) (v1 : Int32).toNatClampNeg) M1)) ∧ (¬ (v2 : Int32) = 0 → (((v2 : Int32) = 1 → (f_X11_bitOf (M1 26 12) (v1) M1 (fun r8 M7 => K (r8) M7))) ∧ (¬ (v2 : Int32) = 1 → (((v2 : Int32) = 2 → (f_X6_houseOf 26 (v1) M1 (fun r11 M10 => K (r11) M10))) ∧ (¬ (v2 : Int32) = 2 → (((v2 : Int32) = 3 → (f_X6_folkWhoKnow 26 (v1) M1 (fun r14 M13 => K (r14) M13))) ∧ (¬ (v2 : Int32) = 3 → K (-1000001) M1))))))))))))
set_option maxHeartbeats 4000000 in
set_option maxRecDepth 100000 in
theorem m_X11_cell (hI : gI 91 ad) {v1 : Int32} {v2 : Int32} {M : Mm} {K : Int32 → Mm → Prop} (h : f_X11_cell v1 v2 M K) : gM l D cy 91 ad (shC ad cy) yX11_cell cX11_cell 3 (some .int) 2 44 [.ref (ad 0), .int (v1), .int (v2)] M (gQi D 91 ad (shC ad cy) K) := by
  refine gM.of (own := RX11) (lv := [(0, .ref (ad 0)), (1, .int (v1)), (2, .int (v2))]) (by decide) rfl hI (Nat.le_of_ble_eq_true rfl) rfl ?_
  intro p e s m below meth c ls H locs X G hl
  have hx := X.1
  have hb := X.2.1
  unfold f_X11_cell at h
  refine lv_aload_n hx hb dX11_cell_0 rfl (lv_at hl 0 rfl) ?_
  refine gf_PH_now X G qw_2_16 dX11_cell_1 ?_
  refine lv_iload_n hx hb dX11_cell_4 rfl (lv_at hl 1 rfl) ?_
  refine gq_calli G (gc_VN (C := RX6) (rest := []) X hl.1 G (m_X6_hasCell hI isPap_26 h) cw_X6_hasCell nm_33 qw_21_20 qw_21_21 (ob_Paper isPap_26) rfl rfl rfl rfl (Nat.le_of_ble_eq_true rfl) ⟨Nat.le_of_ble_eq_true rfl, Nat.le_of_ble_eq_true rfl⟩ ⟨Nat.le_refl _, Nat.le_refl _⟩ dX11_cell_5) (fun r2 M1 H locs G h => ?_)
  refine lv_if_ne (tgt := 14) hx hb dX11_cell_8 (by decide) (fun c3 => ?_) (fun c3 => ?_)
  · have h := h.2 c3
    refine lv_iload_n hx hb dX11_cell_14 rfl (lv_at hl 2 rfl) ?_
    by_cases c4 : (v2 : Int32) = 0
    · refine gq_tabIn (v := 0) (tgt := 44) hx hb dX11_cell_15 c4 (by decide) (by decide) rfl (by decide) ?_
      have h := h.1 c4
      refine lv_aload_n hx hb dX11_cell_44 rfl (lv_at hl 0 rfl) ?_
      refine gf_PH_now X G qw_2_16 dX11_cell_45 ?_
      refine gfN_Paper_figures X G isPap_26 nf_9 dX11_cell_48 ?_
      refine lv_iload_n hx hb dX11_cell_51 rfl (lv_at hl 1 rfl) ?_
      obtain ⟨q5, h⟩ := h
      refine gq_iald X G (ar_Paper_figures isPap_26) q5 dX11_cell_52 ?_
      exact gq_iret X G h dX11_cell_53
    have h := h.2 c4
    by_cases c6 : (v2 : Int32) = 1
    · refine gq_tabIn (v := 1) (tgt := 54) hx hb dX11_cell_15 c6 (by decide) (by decide) rfl (by decide) ?_
      have h := h.1 c6
      refine lv_aload_n hx hb dX11_cell_54 rfl (lv_at hl 0 rfl) ?_
      refine gf_PH_now X G qw_2_16 dX11_cell_55 ?_
      refine gfN_Paper_faded X G isPap_26 nf_38 dX11_cell_58 ?_
      refine lv_iload_n hx hb dX11_cell_61 rfl (lv_at hl 1 rfl) ?_
      refine gq_calli G (gc_S (rest := []) X hl.1 G (m_X11_bitOf hI  h) cw_X11_bitOf qw_21_23 qw_22_0 rfl rfl (Nat.le_of_ble_eq_true rfl) ⟨Nat.le_of_ble_eq_true rfl, Nat.le_of_ble_eq_true rfl⟩ ⟨Nat.le_refl _, Nat.le_refl _⟩ dX11_cell_62) (fun r8 M7 H locs G h => ?_)
      exact gq_iret X G h dX11_cell_65
    have h := h.2 c6
    by_cases c9 : (v2 : Int32) = 2
    · refine gq_tabIn (v := 2) (tgt := 66) hx hb dX11_cell_15 c9 (by decide) (by decide) rfl (by decide) ?_
      have h := h.1 c9
      refine lv_aload_n hx hb dX11_cell_66 rfl (lv_at hl 0 rfl) ?_
      refine gf_PH_now X G qw_2_16 dX11_cell_67 ?_
      refine lv_iload_n hx hb dX11_cell_70 rfl (lv_at hl 1 rfl) ?_
      refine gq_calli G (gc_VN (C := RX6) (rest := []) X hl.1 G (m_X6_houseOf hI isPap_26 h) cw_X6_houseOf nm_38 qw_24_2 qw_24_3 (ob_Paper isPap_26) rfl rfl rfl rfl (Nat.le_of_ble_eq_true rfl) ⟨Nat.le_of_ble_eq_true rfl, Nat.le_of_ble_eq_true rfl⟩ ⟨Nat.le_refl _, Nat.le_refl _⟩ dX11_cell_71) (fun r11 M10 H locs G h => ?_)
      exact gq_iret X G h dX11_cell_74
    have h := h.2 c9
    by_cases c12 : (v2 : Int32) = 3
    · refine gq_tabIn (v := 3) (tgt := 75) hx hb dX11_cell_15 c12 (by decide) (by decide) rfl (by decide) ?_
      have h := h.1 c12
      refine lv_aload_n hx hb dX11_cell_75 rfl (lv_at hl 0 rfl) ?_
      refine gf_PH_now X G qw_2_16 dX11_cell_76 ?_
      refine lv_iload_n hx hb dX11_cell_79 rfl (lv_at hl 1 rfl) ?_
      refine gq_calli G (gc_VN (C := RX6) (rest := []) X hl.1 G (m_X6_folkWhoKnow hI isPap_26 h) cw_X6_folkWhoKnow nm_39 qw_24_5 qw_24_6 (ob_Paper isPap_26) rfl rfl rfl rfl (Nat.le_of_ble_eq_true rfl) ⟨Nat.le_of_ble_eq_true rfl, Nat.le_of_ble_eq_true rfl⟩ ⟨Nat.le_refl _, Nat.le_refl _⟩ dX11_cell_80) (fun r14 M13 H locs G h => ?_)
      exact gq_iret X G h dX11_cell_83
    have h := h.2 c12
    refine lv_tableOut (tgt := 84) hx hb dX11_cell_15 (by have := gq_ne (v := 0) (z := 0) c4 rfl; have := gq_ne (v := 1) (z := 1) c6 rfl; have := gq_ne (v := 2) (z := 2) c9 rfl; have := gq_ne (v := 3) (z := 3) c12 rfl; omega) (by decide) ?_
    refine gq_ldc (v := (-1000001)) X qw_6_5 dX11_cell_84 ?_
    exact gq_iret X G h dX11_cell_86
  have h := h.1 c3
  refine gq_ldc (v := (-1000001)) X qw_6_5 dX11_cell_11 ?_
  exact gq_iret X G h dX11_cell_13
def f_X6_cellsIn (v0 : Nat) (v1 : Int32) (M : Mm) (K : Int32 → Mm → Prop) : Prop := (f_X6_startOf v0 (v1 + 1) M (fun r2 M1 => (f_X6_startOf v0 (v1) M1 (fun r4 M3 => K (r2 - r4) M3))))
set_option maxHeartbeats 4000000 in
set_option maxRecDepth 100000 in
theorem m_X6_cellsIn (hI : gI 91 ad) {v0 : Nat} (hv0 : isPap v0) {v1 : Int32} {M : Mm} {K : Int32 → Mm → Prop} (h : f_X6_cellsIn v0 v1 M K) : gM l D cy 91 ad (shC ad cy) yX6_cellsIn cX6_cellsIn 2 (some .int) 1 21 [.ref (ad v0), .int (v1)] M (gQi D 91 ad (shC ad cy) K) := by
  refine gM.of (own := RX6) (lv := [(0, .ref (ad v0)), (1, .int (v1))]) (by decide) rfl hI (Nat.le_of_ble_eq_true rfl) rfl ?_
  intro p e s m below meth c ls H locs X G hl
  have hx := X.1
  have hb := X.2.1
  unfold f_X6_cellsIn at h
  refine lv_aload_n hx hb dX6_cellsIn_0 rfl (lv_at hl 0 rfl) ?_
  refine lv_iload_n hx hb dX6_cellsIn_1 rfl (lv_at hl 1 rfl) ?_
  refine lv_iconst (v := (1)) hx hb dX6_cellsIn_2 (by decide) ?_
  refine lv_iadd hx hb dX6_cellsIn_3 ?_
  refine gq_calli G (gc_V (C := RX6) (rest := []) X hl.1 G (m_X6_startOf hI hv0 h) cw_X6_startOf qw_17_23 qw_18_0 qw_18_1 (ob_Paper hv0) rfl rfl rfl rfl (Nat.le_of_ble_eq_true rfl) ⟨Nat.le_of_ble_eq_true rfl, Nat.le_of_ble_eq_true rfl⟩ ⟨Nat.le_refl _, Nat.le_refl _⟩ dX6_cellsIn_4) (fun r2 M1 H locs G h => ?_)
  refine lv_aload_n hx hb dX6_cellsIn_7 rfl (lv_at hl 0 rfl) ?_
  refine lv_iload_n hx hb dX6_cellsIn_8 rfl (lv_at hl 1 rfl) ?_
  refine gq_calli G (gc_V (C := RX6) (rest := [.int (r2)]) X hl.1 G (m_X6_startOf hI hv0 h) cw_X6_startOf qw_17_23 qw_18_0 qw_18_1 (ob_Paper hv0) rfl rfl rfl rfl (Nat.le_of_ble_eq_true rfl) ⟨Nat.le_of_ble_eq_true rfl, Nat.le_of_ble_eq_true rfl⟩ ⟨Nat.le_refl _, Nat.le_refl _⟩ dX6_cellsIn_9) (fun r4 M3 H locs G h => ?_)
  refine lv_isub hx hb dX6_cellsIn_12 ?_
  exact gq_iret X G h dX6_cellsIn_13
def l_X6_folkIn_4 (K : Int32 → Mm → Prop) (v0 : Nat) (v1 : Int32) : Nat → Int32 → Int32 → Mm → Prop
  | 0, _, _, _ => False
  | n + 1, v2, v3, M => ((((M v0 10 : Int32) ≤ v3 : Prop) → K (v2) M) ∧ (¬ ((M v0 10 : Int32) ≤ v3 : Prop) → (vp_in (v3) 5 ∧ ((((M (v0 + 4) (v3 : Int32).toNatClampNeg : Int32) = v1 : Prop) → (l_X6_folkIn_4 K v0 v1 n) (v2 ||| (1 <<< (v3 &&& 31))) (v3 + 1) M) ∧ (¬ ((M (v0 + 4) (v3 : Int32).toNatClampNeg : Int32) = v1 : Prop) → (l_X6_folkIn_4 K v0 v1 n) (v2) (v3 + 1) M)))))
def f_X6_folkIn (v0 : Nat) (v1 : Int32) (M : Mm) (K : Int32 → Mm → Prop) : Prop := ∃ z, l_X6_folkIn_4 K (v0) (v1) z (0) (0) M
set_option maxHeartbeats 4000000 in
set_option maxRecDepth 100000 in
theorem m_X6_folkIn (hI : gI 91 ad) {v0 : Nat} (hv0 : isPap v0) {v1 : Int32} {M : Mm} {K : Int32 → Mm → Prop} (h : f_X6_folkIn v0 v1 M K) : gM l D cy 91 ad (shC ad cy) yX6_folkIn cX6_folkIn 4 (some .int) 0 0 [.ref (ad v0), .int (v1)] M (gQi D 91 ad (shC ad cy) K) := by
  refine gM.of (own := RX6) (lv := [(0, .ref (ad v0)), (1, .int (v1))]) (by decide) rfl hI (Nat.le_of_ble_eq_true rfl) rfl ?_
  intro p e s m below meth c ls H locs X G hl
  have hx := X.1
  have hb := X.2.1
  have hL4 : ∀ (n : Nat) (v2 : Int32) (v3 : Int32) (M : Mm) (H : Heap) (locs : List Loc) (ls : Array Slot), gS D s 91 ad (shC ad cy) H locs M → lv_has ls 4 [(0, .ref (ad v0)), (1, .int (v1)), (2, .int (v2)), (3, .int (v3))] → l_X6_folkIn_4 K v0 v1 n v2 v3 M → gWk p l e 0 0 s m ([.ref (ad v0), .int (v1)] : List Value).toArray below meth c H locs (gQi D 91 ad (shC ad cy) K) 91 ad 4 ls [] := by
    intro n4
    induction n4 with
    | zero =>
      intro v2 v3 M H locs ls G hl h
      exact False.elim h
    | succ n4 ih4 =>
      intro v2 v3 M H locs ls G hl h
      rw [l_X6_folkIn_4] at h
      refine lv_iload_n hx hb dX6_folkIn_4 rfl (lv_at hl 3 rfl) ?_
      refine lv_aload_n hx hb dX6_folkIn_5 rfl (lv_at hl 0 rfl) ?_
      refine gf_Paper_folkCount X G hv0 qw_11_5 dX6_folkIn_6 ?_
      refine lv_icmp_ge (tgt := 34) hx hb dX6_folkIn_9 (by decide) (fun c1 => ?_) (fun c1 => ?_)
      · have h := h.1 c1
        refine lv_iload_n hx hb dX6_folkIn_34 rfl (lv_at hl 2 rfl) ?_
        exact gq_iret X G h dX6_folkIn_35
      have h := h.2 c1
      refine lv_aload_n hx hb dX6_folkIn_12 rfl (lv_at hl 0 rfl) ?_
      refine gf_Paper_houses X G hv0 qw_4_11 dX6_folkIn_13 ?_
      refine lv_iload_n hx hb dX6_folkIn_16 rfl (lv_at hl 3 rfl) ?_
      obtain ⟨q2, h⟩ := h
      refine gq_iald X G (ar_Paper_houses hv0) q2 dX6_folkIn_17 ?_
      refine lv_iload_n hx hb dX6_folkIn_18 rfl (lv_at hl 1 rfl) ?_
      refine lv_icmp_ne (tgt := 28) hx hb dX6_folkIn_19 (by decide) (fun c3 => ?_) (fun c3 => ?_)
      · have h := h.2 c3
        refine lv_iinc (v := v3 + 1) (lv' := [(3, .int (v3 + 1)), (0, .ref (ad v0)), (1, .int (v1)), (2, .int (v2))]) hx hb dX6_folkIn_28 hl (k := 3) rfl rfl (by decide) rfl (fun ls hl => ?_)
        refine lv_goto (tgt := 4) hx hb dX6_folkIn_31 (by decide) ?_
        exact ih4 (v2) (v3 + 1) M H locs ls G  (lv_sub hl [1, 2, 3, 0] rfl) h
      have h := h.1 c3
      refine lv_iload_n hx hb dX6_folkIn_22 rfl (lv_at hl 2 rfl) ?_
      refine lv_iconst (v := (1)) hx hb dX6_folkIn_23 (by decide) ?_
      refine lv_iload_n hx hb dX6_folkIn_24 rfl (lv_at hl 3 rfl) ?_
      refine lv_ishl hx hb dX6_folkIn_25 ?_
      refine lv_ior hx hb dX6_folkIn_26 ?_
      refine lv_istore_n (lv' := [(2, .int (v2 ||| (1 <<< (v3 &&& 31)))), (0, .ref (ad v0)), (1, .int (v1)), (3, .int (v3))]) hx hb dX6_folkIn_27 rfl hl (by decide) rfl (fun ls hl => ?_)
      refine lv_iinc (v := v3 + 1) (lv' := [(3, .int (v3 + 1)), (2, .int (v2 ||| (1 <<< (v3 &&& 31)))), (0, .ref (ad v0)), (1, .int (v1))]) hx hb dX6_folkIn_28 hl (k := 3) rfl rfl (by decide) rfl (fun ls hl => ?_)
      refine lv_goto (tgt := 4) hx hb dX6_folkIn_31 (by decide) ?_
      exact ih4 (v2 ||| (1 <<< (v3 &&& 31))) (v3 + 1) M H locs ls G  (lv_sub hl [2, 3, 1, 0] rfl) h
  unfold f_X6_folkIn at h
  refine lv_iconst (v := (0)) hx hb dX6_folkIn_0 (by decide) ?_
  refine lv_istore_n (lv' := [(2, .int (0)), (0, .ref (ad v0)), (1, .int (v1))]) hx hb dX6_folkIn_1 rfl hl (by decide) rfl (fun ls hl => ?_)
  refine lv_iconst (v := (0)) hx hb dX6_folkIn_2 (by decide) ?_
  refine lv_istore_n (lv' := [(3, .int (0)), (2, .int (0)), (0, .ref (ad v0)), (1, .int (v1))]) hx hb dX6_folkIn_3 rfl hl (by decide) rfl (fun ls hl => ?_)
  obtain ⟨n4, h⟩ := h
  exact hL4   n4 (0) (0) M H locs ls G  (lv_sub hl [2, 3, 1, 0] rfl) h
def f_X11_house (v1 : Int32) (v2 : Int32) (M : Mm) (K : Int32 → Mm → Prop) : Prop := (f_X6_hasHouse 26 (v1) M (fun r2 M1 => ((((r2 : Int32) = 0 : Prop) → K (-1000001) M1) ∧ (¬ ((r2 : Int32) = 0 : Prop) → (((v2 : Int32) = 0 → (f_X6_startOf 26 (v1) M1 (fun r6 M5 => K (r6) M5))) ∧ (¬ (v2 : Int32) = 0 → (((v2 : Int32) = 1 → (f_X6_cellsIn 26 (v1) M1 (fun r9 M8 => K (r9) M8))) ∧ (¬ (v2 : Int32) = 1 → (((v2 : Int32) = 2 → (f_X6_folkIn 26 (v1) M1 (fun r12 M11 => K (r12) M11))) ∧ (¬ (v2 : Int32) = 2 → K (-1000001) M1))))))))))
set_option maxHeartbeats 4000000 in
set_option maxRecDepth 100000 in
theorem m_X11_house (hI : gI 91 ad) {v1 : Int32} {v2 : Int32} {M : Mm} {K : Int32 → Mm → Prop} (h : f_X11_house v1 v2 M K) : gM l D cy 91 ad (shC ad cy) yX11_house cX11_house 3 (some .int) 2 42 [.ref (ad 0), .int (v1), .int (v2)] M (gQi D 91 ad (shC ad cy) K) := by
  refine gM.of (own := RX11) (lv := [(0, .ref (ad 0)), (1, .int (v1)), (2, .int (v2))]) (by decide) rfl hI (Nat.le_of_ble_eq_true rfl) rfl ?_
  intro p e s m below meth c ls H locs X G hl
  have hx := X.1
  have hb := X.2.1
  unfold f_X11_house at h
  refine lv_aload_n hx hb dX11_house_0 rfl (lv_at hl 0 rfl) ?_
  refine gf_PH_now X G qw_2_16 dX11_house_1 ?_
  refine lv_iload_n hx hb dX11_house_4 rfl (lv_at hl 1 rfl) ?_
  refine gq_calli G (gc_VN (C := RX6) (rest := []) X hl.1 G (m_X6_hasHouse hI isPap_26 h) cw_X6_hasHouse nm_35 qw_22_20 qw_22_21 (ob_Paper isPap_26) rfl rfl rfl rfl (Nat.le_of_ble_eq_true rfl) ⟨Nat.le_of_ble_eq_true rfl, Nat.le_of_ble_eq_true rfl⟩ ⟨Nat.le_refl _, Nat.le_refl _⟩ dX11_house_5) (fun r2 M1 H locs G h => ?_)
  refine lv_if_ne (tgt := 14) hx hb dX11_house_8 (by decide) (fun c3 => ?_) (fun c3 => ?_)
  · have h := h.2 c3
    refine lv_iload_n hx hb dX11_house_14 rfl (lv_at hl 2 rfl) ?_
    by_cases c4 : (v2 : Int32) = 0
    · refine gq_tabIn (v := 0) (tgt := 40) hx hb dX11_house_15 c4 (by decide) (by decide) rfl (by decide) ?_
      have h := h.1 c4
      refine lv_aload_n hx hb dX11_house_40 rfl (lv_at hl 0 rfl) ?_
      refine gf_PH_now X G qw_2_16 dX11_house_41 ?_
      refine lv_iload_n hx hb dX11_house_44 rfl (lv_at hl 1 rfl) ?_
      refine gq_calli G (gc_VN (C := RX6) (rest := []) X hl.1 G (m_X6_startOf hI isPap_26 h) cw_X6_startOf nm_41 qw_18_0 qw_18_1 (ob_Paper isPap_26) rfl rfl rfl rfl (Nat.le_of_ble_eq_true rfl) ⟨Nat.le_of_ble_eq_true rfl, Nat.le_of_ble_eq_true rfl⟩ ⟨Nat.le_refl _, Nat.le_refl _⟩ dX11_house_45) (fun r6 M5 H locs G h => ?_)
      exact gq_iret X G h dX11_house_48
    have h := h.2 c4
    by_cases c7 : (v2 : Int32) = 1
    · refine gq_tabIn (v := 1) (tgt := 49) hx hb dX11_house_15 c7 (by decide) (by decide) rfl (by decide) ?_
      have h := h.1 c7
      refine lv_aload_n hx hb dX11_house_49 rfl (lv_at hl 0 rfl) ?_
      refine gf_PH_now X G qw_2_16 dX11_house_50 ?_
      refine lv_iload_n hx hb dX11_house_53 rfl (lv_at hl 1 rfl) ?_
      refine gq_calli G (gc_VN (C := RX6) (rest := []) X hl.1 G (m_X6_cellsIn hI isPap_26 h) cw_X6_cellsIn nm_42 qw_24_20 qw_24_21 (ob_Paper isPap_26) rfl rfl rfl rfl (Nat.le_of_ble_eq_true rfl) ⟨Nat.le_of_ble_eq_true rfl, Nat.le_of_ble_eq_true rfl⟩ ⟨Nat.le_refl _, Nat.le_refl _⟩ dX11_house_54) (fun r9 M8 H locs G h => ?_)
      exact gq_iret X G h dX11_house_57
    have h := h.2 c7
    by_cases c10 : (v2 : Int32) = 2
    · refine gq_tabIn (v := 2) (tgt := 58) hx hb dX11_house_15 c10 (by decide) (by decide) rfl (by decide) ?_
      have h := h.1 c10
      refine lv_aload_n hx hb dX11_house_58 rfl (lv_at hl 0 rfl) ?_
      refine gf_PH_now X G qw_2_16 dX11_house_59 ?_
      refine lv_iload_n hx hb dX11_house_62 rfl (lv_at hl 1 rfl) ?_
      refine gq_calli G (gc_VN (C := RX6) (rest := []) X hl.1 G (m_X6_folkIn hI isPap_26 h) cw_X6_folkIn nm_43 qw_24_23 qw_25_0 (ob_Paper isPap_26) rfl rfl rfl rfl (Nat.le_of_ble_eq_true rfl) ⟨Nat.le_of_ble_eq_true rfl, Nat.le_of_ble_eq_true rfl⟩ ⟨Nat.le_refl _, Nat.le_refl _⟩ dX11_house_63) (fun r12 M11 H locs G h => ?_)
      exact gq_iret X G h dX11_house_66
    have h := h.2 c10
    refine lv_tableOut (tgt := 67) hx hb dX11_house_15 (by have := gq_ne (v := 0) (z := 0) c4 rfl; have := gq_ne (v := 1) (z := 1) c7 rfl; have := gq_ne (v := 2) (z := 2) c10 rfl; omega) (by decide) ?_
    refine gq_ldc (v := (-1000001)) X qw_6_5 dX11_house_67 ?_
    exact gq_iret X G h dX11_house_69
  have h := h.1 c3
  refine gq_ldc (v := (-1000001)) X qw_6_5 dX11_house_11 ?_
  exact gq_iret X G h dX11_house_13
def l_X6_goesOnBy_33 (K : Int32 → Mm → Prop) (k9 : Int32 → Mm → Prop) (v0 : Nat) (v1 : Int32) (v2 : Int32) (v3 : Int32) : Nat → Int32 → Mm → Prop
  | 0, _, _ => False
  | n + 1, v4, M => ((((M v0 8 : Int32) ≤ v4 : Prop) → k9 (v3 + 1) M) ∧ (¬ ((M v0 8 : Int32) ≤ v4 : Prop) → (f_X11_bitOf (v1) (v4) M (fun r3 M2 => ((((r3 : Int32) = 1 : Prop) → (vp_in (v4) 24 ∧ (vp_in (v3) 24 ∧ ((((M2 (v0 + 1) (v4 : Int32).toNatClampNeg : Int32) = M2 (v0 + 1) (v3 : Int32).toNatClampNeg : Prop) → (l_X6_goesOnBy_33 K k9 v0 v1 v2 v3 n) (v4 + v2) M2) ∧ (¬ ((M2 (v0 + 1) (v4 : Int32).toNatClampNeg : Int32) = M2 (v0 + 1) (v3 : Int32).toNatClampNeg : Prop) → K 0 M2))))) ∧ (¬ ((r3 : Int32) = 1 : Prop) → (l_X6_goesOnBy_33 K k9 v0 v1 v2 v3 n) (v4 + v2) M2))))))
def l_X6_goesOnBy_9 (K : Int32 → Mm → Prop) (v0 : Nat) (v1 : Int32) (v2 : Int32) : Nat → Int32 → Mm → Prop
  | 0, _, _ => False
  | n + 1, v3, M => ((((M v0 8 : Int32) ≤ v3 : Prop) → K 1 M) ∧ (¬ ((M v0 8 : Int32) ≤ v3 : Prop) → (f_X11_bitOf (v1) (v3) M (fun r10 M9 => ((((r10 : Int32) = 0 : Prop) → (l_X6_goesOnBy_9 K v0 v1 v2 n) (v3 + 1) M9) ∧ (¬ ((r10 : Int32) = 0 : Prop) → ∃ z, l_X6_goesOnBy_33 K (fun a0 a => (l_X6_goesOnBy_9 K v0 v1 v2 n) a0 a) (v0) (v1) (v2) (v3) z (v3 + v2) M9))))))
def f_X6_goesOnBy (v0 : Nat) (v1 : Int32) (v2 : Int32) (M : Mm) (K : Int32 → Mm → Prop) : Prop := ((((1 : Int32) ≤ v2 : Prop) → ∃ z, l_X6_goesOnBy_9 K (v0) (v1) (v2) z (0) M) ∧ (¬ ((1 : Int32) ≤ v2 : Prop) → K 0 M))
set_option maxHeartbeats 4000000 in
set_option maxRecDepth 100000 in
theorem m_X6_goesOnBy (hI : gI 91 ad) {v0 : Nat} (hv0 : isPap v0) {v1 : Int32} {v2 : Int32} {M : Mm} {K : Int32 → Mm → Prop} (h : f_X6_goesOnBy v0 v1 v2 M K) : gM l D cy 91 ad (shC ad cy) yX6_goesOnBy cX6_goesOnBy 5 (some .boolean) 1 21 [.ref (ad v0), .int (v1), .int (v2)] M (gQi D 91 ad (shC ad cy) K) := by
  refine gM.of (own := RX6) (lv := [(0, .ref (ad v0)), (1, .int (v1)), (2, .int (v2))]) (by decide) rfl hI (Nat.le_of_ble_eq_true rfl) rfl ?_
  intro p e s m below meth c ls H locs X G hl
  have hx := X.1
  have hb := X.2.1
  have hL9 : ∀ (n : Nat) (v3 : Int32) (M : Mm) (H : Heap) (locs : List Loc) (ls : Array Slot), gS D s 91 ad (shC ad cy) H locs M → lv_has ls 5 [(0, .ref (ad v0)), (1, .int (v1)), (2, .int (v2)), (3, .int (v3))] → l_X6_goesOnBy_9 K v0 v1 v2 n v3 M → gWk p l e 1 21 s m ([.ref (ad v0), .int (v1), .int (v2)] : List Value).toArray below meth c H locs (gQi D 91 ad (shC ad cy) K) 91 ad 9 ls [] := by
    intro n9
    induction n9 with
    | zero =>
      intro v3 M H locs ls G hl h
      exact False.elim h
    | succ n9 ih9 =>
      have hL33 : ∀ (v3 : Int32) (n : Nat) (v4 : Int32) (M : Mm) (H : Heap) (locs : List Loc) (ls : Array Slot), gS D s 91 ad (shC ad cy) H locs M → lv_has ls 5 [(0, .ref (ad v0)), (1, .int (v1)), (2, .int (v2)), (3, .int (v3)), (4, .int (v4))] → l_X6_goesOnBy_33 K (fun a0 a => (l_X6_goesOnBy_9 K v0 v1 v2 n9) a0 a) v0 v1 v2 v3 n v4 M → gWk p l e 1 21 s m ([.ref (ad v0), .int (v1), .int (v2)] : List Value).toArray below meth c H locs (gQi D 91 ad (shC ad cy) K) 91 ad 33 ls [] := by
        intro v3 n33
        induction n33 with
        | zero =>
          intro v4 M H locs ls G hl h
          exact False.elim h
        | succ n33 ih33 =>
          intro v4 M H locs ls G hl h
          rw [l_X6_goesOnBy_33] at h
          refine lv_iload hx hb dX6_goesOnBy_33 (lv_at hl 4 rfl) ?_
          refine lv_aload_n hx hb dX6_goesOnBy_35 rfl (lv_at hl 0 rfl) ?_
          refine gf_Paper_cells X G hv0 qw_11_3 dX6_goesOnBy_36 ?_
          refine lv_icmp_ge (tgt := 79) hx hb dX6_goesOnBy_39 (by decide) (fun c1 => ?_) (fun c1 => ?_)
          · have h := h.1 c1
            refine lv_iinc (v := v3 + 1) (lv' := [(3, .int (v3 + 1)), (0, .ref (ad v0)), (1, .int (v1)), (2, .int (v2)), (4, .int (v4))]) hx hb dX6_goesOnBy_79 hl (k := 3) rfl rfl (by decide) rfl (fun ls hl => ?_)
            refine lv_goto (tgt := 9) hx hb dX6_goesOnBy_82 (by decide) ?_
            exact ih9 (v3 + 1) M H locs ls G  (lv_sub hl [1, 2, 3, 0] rfl) h
          have h := h.2 c1
          refine lv_iload_n hx hb dX6_goesOnBy_42 rfl (lv_at hl 1 rfl) ?_
          refine lv_iload hx hb dX6_goesOnBy_43 (lv_at hl 4 rfl) ?_
          refine gq_calli G (gc_SN (rest := []) X hl.1 G (m_X11_bitOf hI  h) cw_X11_bitOf nm_40 qw_22_0 rfl rfl (Nat.le_of_ble_eq_true rfl) ⟨Nat.le_of_ble_eq_true rfl, Nat.le_of_ble_eq_true rfl⟩ ⟨Nat.le_refl _, Nat.le_refl _⟩ dX6_goesOnBy_45) (fun r3 M2 H locs G h => ?_)
          refine lv_iconst (v := (1)) hx hb dX6_goesOnBy_48 (by decide) ?_
          refine lv_icmp_ne (tgt := 70) hx hb dX6_goesOnBy_49 (by decide) (fun c4 => ?_) (fun c4 => ?_)
          · have h := h.2 c4
            refine lv_iload hx hb dX6_goesOnBy_70 (lv_at hl 4 rfl) ?_
            refine lv_iload_n hx hb dX6_goesOnBy_72 rfl (lv_at hl 2 rfl) ?_
            refine lv_iadd hx hb dX6_goesOnBy_73 ?_
            refine lv_istore (lv' := [(4, .int (v4 + v2)), (0, .ref (ad v0)), (1, .int (v1)), (2, .int (v2)), (3, .int (v3))]) hx hb dX6_goesOnBy_74 hl (by decide) rfl (fun ls hl => ?_)
            refine lv_goto (tgt := 33) hx hb dX6_goesOnBy_76 (by decide) ?_
            exact ih33 (v4 + v2) M2 H locs ls G  (lv_sub hl [1, 2, 3, 4, 0] rfl) h
          have h := h.1 c4
          refine lv_aload_n hx hb dX6_goesOnBy_52 rfl (lv_at hl 0 rfl) ?_
          refine gf_Paper_figures X G hv0 qw_4_8 dX6_goesOnBy_53 ?_
          refine lv_iload hx hb dX6_goesOnBy_56 (lv_at hl 4 rfl) ?_
          obtain ⟨q5, h⟩ := h
          refine gq_iald X G (ar_Paper_figures hv0) q5 dX6_goesOnBy_58 ?_
          refine lv_aload_n hx hb dX6_goesOnBy_59 rfl (lv_at hl 0 rfl) ?_
          refine gf_Paper_figures X G hv0 qw_4_8 dX6_goesOnBy_60 ?_
          refine lv_iload_n hx hb dX6_goesOnBy_63 rfl (lv_at hl 3 rfl) ?_
          obtain ⟨q6, h⟩ := h
          refine gq_iald X G (ar_Paper_figures hv0) q6 dX6_goesOnBy_64 ?_
          refine lv_icmp_eq (tgt := 70) hx hb dX6_goesOnBy_65 (by decide) (fun c7 => ?_) (fun c7 => ?_)
          · have h := h.1 c7
            refine lv_iload hx hb dX6_goesOnBy_70 (lv_at hl 4 rfl) ?_
            refine lv_iload_n hx hb dX6_goesOnBy_72 rfl (lv_at hl 2 rfl) ?_
            refine lv_iadd hx hb dX6_goesOnBy_73 ?_
            refine lv_istore (lv' := [(4, .int (v4 + v2)), (0, .ref (ad v0)), (1, .int (v1)), (2, .int (v2)), (3, .int (v3))]) hx hb dX6_goesOnBy_74 hl (by decide) rfl (fun ls hl => ?_)
            refine lv_goto (tgt := 33) hx hb dX6_goesOnBy_76 (by decide) ?_
            exact ih33 (v4 + v2) M2 H locs ls G  (lv_sub hl [1, 2, 3, 4, 0] rfl) h
          have h := h.2 c7
          refine lv_iconst (v := (0)) hx hb dX6_goesOnBy_68 (by decide) ?_
          exact gq_zret X G (Or.inl rfl) h dX6_goesOnBy_69
      intro v3 M H locs ls G hl h
      rw [l_X6_goesOnBy_9] at h
      refine lv_iload_n hx hb dX6_goesOnBy_9 rfl (lv_at hl 3 rfl) ?_
      refine lv_aload_n hx hb dX6_goesOnBy_10 rfl (lv_at hl 0 rfl) ?_
      refine gf_Paper_cells X G hv0 qw_11_3 dX6_goesOnBy_11 ?_
      refine lv_icmp_ge (tgt := 85) hx hb dX6_goesOnBy_14 (by decide) (fun c8 => ?_) (fun c8 => ?_)
      · have h := h.1 c8
        refine lv_iconst (v := (1)) hx hb dX6_goesOnBy_85 (by decide) ?_
        exact gq_zret X G (Or.inr rfl) h dX6_goesOnBy_86
      have h := h.2 c8
      refine lv_iload_n hx hb dX6_goesOnBy_17 rfl (lv_at hl 1 rfl) ?_
      refine lv_iload_n hx hb dX6_goesOnBy_18 rfl (lv_at hl 3 rfl) ?_
      refine gq_calli G (gc_SN (rest := []) X hl.1 G (m_X11_bitOf hI  h) cw_X11_bitOf nm_40 qw_22_0 rfl rfl (Nat.le_of_ble_eq_true rfl) ⟨Nat.le_of_ble_eq_true rfl, Nat.le_of_ble_eq_true rfl⟩ ⟨Nat.le_refl _, Nat.le_refl _⟩ dX6_goesOnBy_19) (fun r10 M9 H locs G h => ?_)
      refine lv_if_ne (tgt := 28) hx hb dX6_goesOnBy_22 (by decide) (fun c11 => ?_) (fun c11 => ?_)
      · have h := h.2 c11
        refine lv_iload_n hx hb dX6_goesOnBy_28 rfl (lv_at hl 3 rfl) ?_
        refine lv_iload_n hx hb dX6_goesOnBy_29 rfl (lv_at hl 2 rfl) ?_
        refine lv_iadd hx hb dX6_goesOnBy_30 ?_
        refine lv_istore (lv' := [(4, .int (v3 + v2)), (0, .ref (ad v0)), (1, .int (v1)), (2, .int (v2)), (3, .int (v3))]) hx hb dX6_goesOnBy_31 hl (by decide) rfl (fun ls hl => ?_)
        obtain ⟨n12, h⟩ := h
        exact hL33 (v3)  n12 (v3 + v2) M9 H locs ls G  (lv_sub hl [1, 2, 3, 4, 0] rfl) h
      have h := h.1 c11
      refine lv_goto (tgt := 79) hx hb dX6_goesOnBy_25 (by decide) ?_
      refine lv_iinc (v := v3 + 1) (lv' := [(3, .int (v3 + 1)), (0, .ref (ad v0)), (1, .int (v1)), (2, .int (v2))]) hx hb dX6_goesOnBy_79 hl (k := 3) rfl rfl (by decide) rfl (fun ls hl => ?_)
      refine lv_goto (tgt := 9) hx hb dX6_goesOnBy_82 (by decide) ?_
      exact ih9 (v3 + 1) M9 H locs ls G  (lv_sub hl [1, 2, 3, 0] rfl) h
  unfold f_X6_goesOnBy at h
  refine lv_iload_n hx hb dX6_goesOnBy_0 rfl (lv_at hl 2 rfl) ?_
  refine lv_iconst (v := (1)) hx hb dX6_goesOnBy_1 (by decide) ?_
  refine lv_icmp_ge (tgt := 7) hx hb dX6_goesOnBy_2 (by decide) (fun c13 => ?_) (fun c13 => ?_)
  · have h := h.1 c13
    refine lv_iconst (v := (0)) hx hb dX6_goesOnBy_7 (by decide) ?_
    refine lv_istore_n (lv' := [(3, .int (0)), (0, .ref (ad v0)), (1, .int (v1)), (2, .int (v2))]) hx hb dX6_goesOnBy_8 rfl hl (by decide) rfl (fun ls hl => ?_)
    obtain ⟨n14, h⟩ := h
    exact hL9   n14 (0) M H locs ls G  (lv_sub hl [1, 2, 3, 0] rfl) h
  have h := h.2 c13
  refine lv_iconst (v := (0)) hx hb dX6_goesOnBy_5 (by decide) ?_
  exact gq_zret X G (Or.inl rfl) h dX6_goesOnBy_6
def l_X6_periodOf_2 (K : Int32 → Mm → Prop) (v0 : Nat) (v1 : Int32) : Nat → Int32 → Mm → Prop
  | 0, _, _ => False
  | n + 1, v2, M => ((((M v0 8 : Int32) ≤ v2 : Prop) → K (M v0 8) M) ∧ (¬ ((M v0 8 : Int32) ≤ v2 : Prop) → (vp_in (v1) 5 ∧ (f_X6_goesOnBy v0 (M (v0 + 6) (v1 : Int32).toNatClampNeg) (v2) M (fun r4 M3 => ((((r4 : Int32) = 0 : Prop) → (l_X6_periodOf_2 K v0 v1 n) (v2 + 1) M3) ∧ (¬ ((r4 : Int32) = 0 : Prop) → K (v2) M3)))))))
def f_X6_periodOf (v0 : Nat) (v1 : Int32) (M : Mm) (K : Int32 → Mm → Prop) : Prop := ∃ z, l_X6_periodOf_2 K (v0) (v1) z (1) M
set_option maxHeartbeats 4000000 in
set_option maxRecDepth 100000 in
theorem m_X6_periodOf (hI : gI 91 ad) {v0 : Nat} (hv0 : isPap v0) {v1 : Int32} {M : Mm} {K : Int32 → Mm → Prop} (h : f_X6_periodOf v0 v1 M K) : gM l D cy 91 ad (shC ad cy) yX6_periodOf cX6_periodOf 3 (some .int) 2 45 [.ref (ad v0), .int (v1)] M (gQi D 91 ad (shC ad cy) K) := by
  refine gM.of (own := RX6) (lv := [(0, .ref (ad v0)), (1, .int (v1))]) (by decide) rfl hI (Nat.le_of_ble_eq_true rfl) rfl ?_
  intro p e s m below meth c ls H locs X G hl
  have hx := X.1
  have hb := X.2.1
  have hL2 : ∀ (n : Nat) (v2 : Int32) (M : Mm) (H : Heap) (locs : List Loc) (ls : Array Slot), gS D s 91 ad (shC ad cy) H locs M → lv_has ls 3 [(0, .ref (ad v0)), (1, .int (v1)), (2, .int (v2))] → l_X6_periodOf_2 K v0 v1 n v2 M → gWk p l e 2 45 s m ([.ref (ad v0), .int (v1)] : List Value).toArray below meth c H locs (gQi D 91 ad (shC ad cy) K) 91 ad 2 ls [] := by
    intro n2
    induction n2 with
    | zero =>
      intro v2 M H locs ls G hl h
      exact False.elim h
    | succ n2 ih2 =>
      intro v2 M H locs ls G hl h
      rw [l_X6_periodOf_2] at h
      refine lv_iload_n hx hb dX6_periodOf_2 rfl (lv_at hl 2 rfl) ?_
      refine lv_aload_n hx hb dX6_periodOf_3 rfl (lv_at hl 0 rfl) ?_
      refine gf_Paper_cells X G hv0 qw_11_3 dX6_periodOf_4 ?_
      refine lv_icmp_ge (tgt := 32) hx hb dX6_periodOf_7 (by decide) (fun c1 => ?_) (fun c1 => ?_)
      · have h := h.1 c1
        refine lv_aload_n hx hb dX6_periodOf_32 rfl (lv_at hl 0 rfl) ?_
        refine gf_Paper_cells X G hv0 qw_11_3 dX6_periodOf_33 ?_
        exact gq_iret X G h dX6_periodOf_36
      have h := h.2 c1
      refine lv_aload_n hx hb dX6_periodOf_10 rfl (lv_at hl 0 rfl) ?_
      refine lv_aload_n hx hb dX6_periodOf_11 rfl (lv_at hl 0 rfl) ?_
      refine gf_Paper_knows X G hv0 qw_4_13 dX6_periodOf_12 ?_
      refine lv_iload_n hx hb dX6_periodOf_15 rfl (lv_at hl 1 rfl) ?_
      obtain ⟨q2, h⟩ := h
      refine gq_iald X G (ar_Paper_knows hv0) q2 dX6_periodOf_16 ?_
      refine lv_iload_n hx hb dX6_periodOf_17 rfl (lv_at hl 2 rfl) ?_
      refine gq_calli G (gc_V (C := RX6) (rest := []) X hl.1 G (m_X6_goesOnBy hI hv0 h) cw_X6_goesOnBy qw_25_13 qw_25_14 qw_25_15 (ob_Paper hv0) rfl rfl rfl rfl (Nat.le_of_ble_eq_true rfl) ⟨Nat.le_of_ble_eq_true rfl, Nat.le_of_ble_eq_true rfl⟩ ⟨Nat.le_refl _, Nat.le_refl _⟩ dX6_periodOf_18) (fun r4 M3 H locs G h => ?_)
      refine lv_if_eq (tgt := 26) hx hb dX6_periodOf_21 (by decide) (fun c5 => ?_) (fun c5 => ?_)
      · have h := h.1 c5
        refine lv_iinc (v := v2 + 1) (lv' := [(2, .int (v2 + 1)), (0, .ref (ad v0)), (1, .int (v1))]) hx hb dX6_periodOf_26 hl (k := 2) rfl rfl (by decide) rfl (fun ls hl => ?_)
        refine lv_goto (tgt := 2) hx hb dX6_periodOf_29 (by decide) ?_
        exact ih2 (v2 + 1) M3 H locs ls G  (lv_sub hl [1, 2, 0] rfl) h
      have h := h.2 c5
      refine lv_iload_n hx hb dX6_periodOf_24 rfl (lv_at hl 2 rfl) ?_
      exact gq_iret X G h dX6_periodOf_25
  unfold f_X6_periodOf at h
  refine lv_iconst (v := (1)) hx hb dX6_periodOf_0 (by decide) ?_
  refine lv_istore_n (lv' := [(2, .int (1)), (0, .ref (ad v0)), (1, .int (v1))]) hx hb dX6_periodOf_1 rfl hl (by decide) rfl (fun ls hl => ?_)
  obtain ⟨n6, h⟩ := h
  exact hL2   n6 (1) M H locs ls G  (lv_sub hl [1, 2, 0] rfl) h
def f_X11_folk (v1 : Int32) (v2 : Int32) (M : Mm) (K : Int32 → Mm → Prop) : Prop := (f_X6_hasFolk 26 (v1) M (fun r2 M1 => ((((r2 : Int32) = 0 : Prop) → K (-1000001) M1) ∧ (¬ ((r2 : Int32) = 0 : Prop) → (((v2 : Int32) = 0 → (vp_in (v1) 5 ∧ K (M1 (26 + 4) (v1 : Int32).toNatClampNeg) M1)) ∧ (¬ (v2 : Int32) = 0 → (((v2 : Int32) = 1 → (vp_in (v1) 5 ∧ K (M1 (26 + 5) (v1 : Int32).toNatClampNeg) M1)) ∧ (¬ (v2 : Int32) = 1 → (((v2 : Int32) = 2 → (vp_in (v1) 5 ∧ K (M1 (26 + 6) (v1 : Int32).toNatClampNeg) M1)) ∧ (¬ (v2 : Int32) = 2 → (((v2 : Int32) = 3 → (f_X6_seenBy 26 (v1) M1 (fun r12 M11 => K (r12) M11))) ∧ (¬ (v2 : Int32) = 3 → (((v2 : Int32) = 4 → (f_X6_periodOf 26 (v1) M1 (fun r15 M14 => K (r15) M14))) ∧ (¬ (v2 : Int32) = 4 → K (-1000001) M1))))))))))))))
set_option maxHeartbeats 4000000 in
set_option maxRecDepth 100000 in
theorem m_X11_folk (hI : gI 91 ad) {v1 : Int32} {v2 : Int32} {M : Mm} {K : Int32 → Mm → Prop} (h : f_X11_folk v1 v2 M K) : gM l D cy 91 ad (shC ad cy) yX11_folk cX11_folk 3 (some .int) 3 67 [.ref (ad 0), .int (v1), .int (v2)] M (gQi D 91 ad (shC ad cy) K) := by
  refine gM.of (own := RX11) (lv := [(0, .ref (ad 0)), (1, .int (v1)), (2, .int (v2))]) (by decide) rfl hI (Nat.le_of_ble_eq_true rfl) rfl ?_
  intro p e s m below meth c ls H locs X G hl
  have hx := X.1
  have hb := X.2.1
  unfold f_X11_folk at h
  refine lv_aload_n hx hb dX11_folk_0 rfl (lv_at hl 0 rfl) ?_
  refine gf_PH_now X G qw_2_16 dX11_folk_1 ?_
  refine lv_iload_n hx hb dX11_folk_4 rfl (lv_at hl 1 rfl) ?_
  refine gq_calli G (gc_VN (C := RX6) (rest := []) X hl.1 G (m_X6_hasFolk hI isPap_26 h) cw_X6_hasFolk nm_34 qw_22_17 qw_22_18 (ob_Paper isPap_26) rfl rfl rfl rfl (Nat.le_of_ble_eq_true rfl) ⟨Nat.le_of_ble_eq_true rfl, Nat.le_of_ble_eq_true rfl⟩ ⟨Nat.le_refl _, Nat.le_refl _⟩ dX11_folk_5) (fun r2 M1 H locs G h => ?_)
  refine lv_if_ne (tgt := 14) hx hb dX11_folk_8 (by decide) (fun c3 => ?_) (fun c3 => ?_)
  · have h := h.2 c3
    refine lv_iload_n hx hb dX11_folk_14 rfl (lv_at hl 2 rfl) ?_
    by_cases c4 : (v2 : Int32) = 0
    · refine gq_tabIn (v := 0) (tgt := 48) hx hb dX11_folk_15 c4 (by decide) (by decide) rfl (by decide) ?_
      have h := h.1 c4
      refine lv_aload_n hx hb dX11_folk_48 rfl (lv_at hl 0 rfl) ?_
      refine gf_PH_now X G qw_2_16 dX11_folk_49 ?_
      refine gfN_Paper_houses X G isPap_26 nf_16 dX11_folk_52 ?_
      refine lv_iload_n hx hb dX11_folk_55 rfl (lv_at hl 1 rfl) ?_
      obtain ⟨q5, h⟩ := h
      refine gq_iald X G (ar_Paper_houses isPap_26) q5 dX11_folk_56 ?_
      exact gq_iret X G h dX11_folk_57
    have h := h.2 c4
    by_cases c6 : (v2 : Int32) = 1
    · refine gq_tabIn (v := 1) (tgt := 58) hx hb dX11_folk_15 c6 (by decide) (by decide) rfl (by decide) ?_
      have h := h.1 c6
      refine lv_aload_n hx hb dX11_folk_58 rfl (lv_at hl 0 rfl) ?_
      refine gf_PH_now X G qw_2_16 dX11_folk_59 ?_
      refine gfN_Paper_ways X G isPap_26 nf_18 dX11_folk_62 ?_
      refine lv_iload_n hx hb dX11_folk_65 rfl (lv_at hl 1 rfl) ?_
      obtain ⟨q7, h⟩ := h
      refine gq_iald X G (ar_Paper_ways isPap_26) q7 dX11_folk_66 ?_
      exact gq_iret X G h dX11_folk_67
    have h := h.2 c6
    by_cases c8 : (v2 : Int32) = 2
    · refine gq_tabIn (v := 2) (tgt := 68) hx hb dX11_folk_15 c8 (by decide) (by decide) rfl (by decide) ?_
      have h := h.1 c8
      refine lv_aload_n hx hb dX11_folk_68 rfl (lv_at hl 0 rfl) ?_
      refine gf_PH_now X G qw_2_16 dX11_folk_69 ?_
      refine gfN_Paper_knows X G isPap_26 nf_20 dX11_folk_72 ?_
      refine lv_iload_n hx hb dX11_folk_75 rfl (lv_at hl 1 rfl) ?_
      obtain ⟨q9, h⟩ := h
      refine gq_iald X G (ar_Paper_knows isPap_26) q9 dX11_folk_76 ?_
      exact gq_iret X G h dX11_folk_77
    have h := h.2 c8
    by_cases c10 : (v2 : Int32) = 3
    · refine gq_tabIn (v := 3) (tgt := 78) hx hb dX11_folk_15 c10 (by decide) (by decide) rfl (by decide) ?_
      have h := h.1 c10
      refine lv_aload_n hx hb dX11_folk_78 rfl (lv_at hl 0 rfl) ?_
      refine gf_PH_now X G qw_2_16 dX11_folk_79 ?_
      refine lv_iload_n hx hb dX11_folk_82 rfl (lv_at hl 1 rfl) ?_
      refine gq_calli G (gc_VN (C := RX6) (rest := []) X hl.1 G (m_X6_seenBy hI isPap_26 h) cw_X6_seenBy nm_36 qw_17_12 qw_17_13 (ob_Paper isPap_26) rfl rfl rfl rfl (Nat.le_of_ble_eq_true rfl) ⟨Nat.le_of_ble_eq_true rfl, Nat.le_of_ble_eq_true rfl⟩ ⟨Nat.le_refl _, Nat.le_refl _⟩ dX11_folk_83) (fun r12 M11 H locs G h => ?_)
      exact gq_iret X G h dX11_folk_86
    have h := h.2 c10
    by_cases c13 : (v2 : Int32) = 4
    · refine gq_tabIn (v := 4) (tgt := 87) hx hb dX11_folk_15 c13 (by decide) (by decide) rfl (by decide) ?_
      have h := h.1 c13
      refine lv_aload_n hx hb dX11_folk_87 rfl (lv_at hl 0 rfl) ?_
      refine gf_PH_now X G qw_2_16 dX11_folk_88 ?_
      refine lv_iload_n hx hb dX11_folk_91 rfl (lv_at hl 1 rfl) ?_
      refine gq_calli G (gc_VN (C := RX6) (rest := []) X hl.1 G (m_X6_periodOf hI isPap_26 h) cw_X6_periodOf nm_44 qw_25_10 qw_25_11 (ob_Paper isPap_26) rfl rfl rfl rfl (Nat.le_of_ble_eq_true rfl) ⟨Nat.le_of_ble_eq_true rfl, Nat.le_of_ble_eq_true rfl⟩ ⟨Nat.le_refl _, Nat.le_refl _⟩ dX11_folk_92) (fun r15 M14 H locs G h => ?_)
      exact gq_iret X G h dX11_folk_95
    have h := h.2 c13
    refine lv_tableOut (tgt := 96) hx hb dX11_folk_15 (by have := gq_ne (v := 0) (z := 0) c4 rfl; have := gq_ne (v := 1) (z := 1) c6 rfl; have := gq_ne (v := 2) (z := 2) c8 rfl; have := gq_ne (v := 3) (z := 3) c10 rfl; have := gq_ne (v := 4) (z := 4) c13 rfl; omega) (by decide) ?_
    refine gq_ldc (v := (-1000001)) X qw_6_5 dX11_folk_96 ?_
    exact gq_iret X G h dX11_folk_98
  have h := h.1 c3
  refine gq_ldc (v := (-1000001)) X qw_6_5 dX11_folk_11 ?_
  exact gq_iret X G h dX11_folk_13
def l_X4_goOn_2 (K : Mm → Prop) (v1 : Int32) (v2 : Int32) : Nat → Int32 → Mm → Prop
  | 0, _, _ => False
  | n + 1, v3, M => ((((v2 : Int32) ≤ v3 : Prop) → K M) ∧ (¬ ((v2 : Int32) ≤ v3 : Prop) → (f_X6_walk 56 (v1) M (fun M2 => (f_X6_endDay 56 M2 (fun M3 => (l_X4_goOn_2 K v1 v2 n) (v3 + 1) M3))))))
def f_X4_goOn (v1 : Int32) (v2 : Int32) (M : Mm) (K : Mm → Prop) : Prop := ∃ z, l_X4_goOn_2 K (v1) (v2) z (0) M
set_option maxHeartbeats 4000000 in
set_option maxRecDepth 100000 in
theorem m_X4_goOn (hI : gI 91 ad) {v1 : Int32} {v2 : Int32} {M : Mm} {K : Mm → Prop} (h : f_X4_goOn v1 v2 M K) : gM l D cy 91 ad (shC ad cy) yX4_goOn cX4_goOn 4 none 4 89 [.ref (ad 55), .int (v1), .int (v2)] M (gQv D 91 ad (shC ad cy) K) := by
  refine gM.of (own := RX4) (lv := [(0, .ref (ad 55)), (1, .int (v1)), (2, .int (v2))]) (by decide) rfl hI (Nat.le_of_ble_eq_true rfl) rfl ?_
  intro p e s m below meth c ls H locs X G hl
  have hx := X.1
  have hb := X.2.1
  have hL2 : ∀ (n : Nat) (v3 : Int32) (M : Mm) (H : Heap) (locs : List Loc) (ls : Array Slot), gS D s 91 ad (shC ad cy) H locs M → lv_has ls 4 [(0, .ref (ad 55)), (1, .int (v1)), (2, .int (v2)), (3, .int (v3))] → l_X4_goOn_2 K v1 v2 n v3 M → gWk p l e 4 89 s m ([.ref (ad 55), .int (v1), .int (v2)] : List Value).toArray below meth c H locs (gQv D 91 ad (shC ad cy) K) 91 ad 2 ls [] := by
    intro n2
    induction n2 with
    | zero =>
      intro v3 M H locs ls G hl h
      exact False.elim h
    | succ n2 ih2 =>
      intro v3 M H locs ls G hl h
      rw [l_X4_goOn_2] at h
      refine lv_iload_n hx hb dX4_goOn_2 rfl (lv_at hl 3 rfl) ?_
      refine lv_iload_n hx hb dX4_goOn_3 rfl (lv_at hl 2 rfl) ?_
      refine lv_icmp_ge (tgt := 28) hx hb dX4_goOn_4 (by decide) (fun c1 => ?_) (fun c1 => ?_)
      · have h := h.1 c1
        exact gq_vret X G h dX4_goOn_28
      have h := h.2 c1
      refine lv_aload_n hx hb dX4_goOn_7 rfl (lv_at hl 0 rfl) ?_
      refine gf_Fore_later X G qw_4_21 dX4_goOn_8 ?_
      refine lv_iload_n hx hb dX4_goOn_11 rfl (lv_at hl 1 rfl) ?_
      refine gq_callv G (gc_VN (C := RX6) (rest := []) X hl.1 G (m_X6_walk hI isPap_56 h) cw_X6_walk nm_47 qw_17_8 qw_17_9 (ob_Paper isPap_56) rfl rfl rfl rfl (Nat.le_of_ble_eq_true rfl) ⟨Nat.le_of_ble_eq_true rfl, Nat.le_of_ble_eq_true rfl⟩ ⟨Nat.le_refl _, Nat.le_refl _⟩ dX4_goOn_12) (fun M2 H locs G h => ?_)
      refine lv_aload_n hx hb dX4_goOn_15 rfl (lv_at hl 0 rfl) ?_
      refine gf_Fore_later X G qw_4_21 dX4_goOn_16 ?_
      refine gq_callv G (gc_VN (C := RX6) (rest := []) X hl.1 G (m_X6_endDay hI isPap_56 h) cw_X6_endDay nm_48 qw_19_4 qw_19_5 (ob_Paper isPap_56) rfl rfl rfl rfl (Nat.le_of_ble_eq_true rfl) ⟨Nat.le_of_ble_eq_true rfl, Nat.le_of_ble_eq_true rfl⟩ ⟨Nat.le_refl _, Nat.le_refl _⟩ dX4_goOn_19) (fun M3 H locs G h => ?_)
      refine lv_iinc (v := v3 + 1) (lv' := [(3, .int (v3 + 1)), (0, .ref (ad 55)), (1, .int (v1)), (2, .int (v2))]) hx hb dX4_goOn_22 hl (k := 3) rfl rfl (by decide) rfl (fun ls hl => ?_)
      refine lv_goto (tgt := 2) hx hb dX4_goOn_25 (by decide) ?_
      exact ih2 (v3 + 1) M3 H locs ls G  (lv_sub hl [1, 2, 3, 0] rfl) h
  unfold f_X4_goOn at h
  refine lv_iconst (v := (0)) hx hb dX4_goOn_0 (by decide) ?_
  refine lv_istore_n (lv' := [(3, .int (0)), (0, .ref (ad 55)), (1, .int (v1)), (2, .int (v2))]) hx hb dX4_goOn_1 rfl hl (by decide) rfl (fun ls hl => ?_)
  obtain ⟨n4, h⟩ := h
  exact hL2   n4 (0) M H locs ls G  (lv_sub hl [1, 2, 3, 0] rfl) h
def f_X4_after (v1 : Int32) (v2 : Int32) (v3 : Int32) (M : Mm) (K : Int32 → Mm → Prop) : Prop := (f_X6_become 56 26 M (fun M1 => (f_X4_goOn (v1) (v2) M1 (fun M2 => ((((v3 : Int32) = 0 : Prop) → (vp_in (v1) 5 ∧ K (M2 (56 + 4) (v1 : Int32).toNatClampNeg) M2)) ∧ (¬ ((v3 : Int32) = 0 : Prop) → (vp_in (v1) 5 ∧ K (M2 (56 + 6) (v1 : Int32).toNatClampNeg) M2)))))))
set_option maxHeartbeats 4000000 in
set_option maxRecDepth 100000 in
theorem m_X4_after (hI : gI 91 ad) {v1 : Int32} {v2 : Int32} {v3 : Int32} {M : Mm} {K : Int32 → Mm → Prop} (h : f_X4_after v1 v2 v3 M K) : gM l D cy 91 ad (shC ad cy) yX4_after cX4_after 4 (some .int) 5 112 [.ref (ad 55), .int (v1), .int (v2), .int (v3)] M (gQi D 91 ad (shC ad cy) K) := by
  refine gM.of (own := RX4) (lv := [(0, .ref (ad 55)), (1, .int (v1)), (2, .int (v2)), (3, .int (v3))]) (by decide) rfl hI (Nat.le_of_ble_eq_true rfl) rfl ?_
  intro p e s m below meth c ls H locs X G hl
  have hx := X.1
  have hb := X.2.1
  unfold f_X4_after at h
  refine lv_aload_n hx hb dX4_after_0 rfl (lv_at hl 0 rfl) ?_
  refine gf_Fore_later X G qw_4_21 dX4_after_1 ?_
  refine lv_aload_n hx hb dX4_after_4 rfl (lv_at hl 0 rfl) ?_
  refine gf_Fore_now X G qw_4_19 dX4_after_5 ?_
  refine gq_callv G (gc_VN (C := RX6) (rest := []) X hl.1 G (m_X6_become hI isPap_56 isPap_26 h) cw_X6_become nm_46 qw_13_14 qw_13_15 (ob_Paper isPap_56) rfl rfl rfl rfl (Nat.le_of_ble_eq_true rfl) ⟨Nat.le_of_ble_eq_true rfl, Nat.le_of_ble_eq_true rfl⟩ ⟨Nat.le_refl _, Nat.le_refl _⟩ dX4_after_8) (fun M1 H locs G h => ?_)
  refine lv_aload_n hx hb dX4_after_11 rfl (lv_at hl 0 rfl) ?_
  refine lv_iload_n hx hb dX4_after_12 rfl (lv_at hl 1 rfl) ?_
  refine lv_iload_n hx hb dX4_after_13 rfl (lv_at hl 2 rfl) ?_
  refine gq_callv G (gc_V (C := RX4) (rest := []) X hl.1 G (m_X4_goOn hI  h) cw_X4_goOn qw_26_12 qw_26_13 qw_26_14 ob_Fore rfl rfl rfl rfl (Nat.le_of_ble_eq_true rfl) ⟨Nat.le_of_ble_eq_true rfl, Nat.le_of_ble_eq_true rfl⟩ ⟨Nat.le_refl _, Nat.le_refl _⟩ dX4_after_14) (fun M2 H locs G h => ?_)
  refine lv_iload_n hx hb dX4_after_17 rfl (lv_at hl 3 rfl) ?_
  refine lv_if_ne (tgt := 33) hx hb dX4_after_18 (by decide) (fun c3 => ?_) (fun c3 => ?_)
  · have h := h.2 c3
    refine lv_aload_n hx hb dX4_after_33 rfl (lv_at hl 0 rfl) ?_
    refine gf_Fore_later X G qw_4_21 dX4_after_34 ?_
    refine gfN_Paper_knows X G isPap_56 nf_19 dX4_after_37 ?_
    refine lv_iload_n hx hb dX4_after_40 rfl (lv_at hl 1 rfl) ?_
    obtain ⟨q4, h⟩ := h
    refine gq_iald X G (ar_Paper_knows isPap_56) q4 dX4_after_41 ?_
    exact gq_iret X G h dX4_after_42
  have h := h.1 c3
  refine lv_aload_n hx hb dX4_after_21 rfl (lv_at hl 0 rfl) ?_
  refine gf_Fore_later X G qw_4_21 dX4_after_22 ?_
  refine gfN_Paper_houses X G isPap_56 nf_15 dX4_after_25 ?_
  refine lv_iload_n hx hb dX4_after_28 rfl (lv_at hl 1 rfl) ?_
  obtain ⟨q5, h⟩ := h
  refine gq_iald X G (ar_Paper_houses isPap_56) q5 dX4_after_29 ?_
  refine lv_goto (tgt := 42) hx hb dX4_after_30 (by decide) ?_
  exact gq_iret X G h dX4_after_42
def f_X11_ahead (v1 : Int32) (v2 : Int32) (v3 : Int32) (M : Mm) (K : Int32 → Mm → Prop) : Prop := (f_X6_hasFolk 26 (v1) M (fun r2 M1 => ((((r2 : Int32) = 0 : Prop) → K (-1000001) M1) ∧ (¬ ((r2 : Int32) = 0 : Prop) → ((((v2 : Int32) < 0 : Prop) → K (-1000001) M1) ∧ (¬ ((v2 : Int32) < 0 : Prop) → ((((60 : Int32) < v2 : Prop) → K (-1000001) M1) ∧ (¬ ((60 : Int32) < v2 : Prop) → (f_X11_isBit (v3) M1 (fun r7 M6 => ((((r7 : Int32) = 0 : Prop) → K (-1000001) M6) ∧ (¬ ((r7 : Int32) = 0 : Prop) → (f_X4_after (v1) (v2) (v3) M6 (fun r10 M9 => K (r10) M9))))))))))))))
set_option maxHeartbeats 4000000 in
set_option maxRecDepth 100000 in
theorem m_X11_ahead (hI : gI 91 ad) {v1 : Int32} {v2 : Int32} {v3 : Int32} {M : Mm} {K : Int32 → Mm → Prop} (h : f_X11_ahead v1 v2 v3 M K) : gM l D cy 91 ad (shC ad cy) yX11_ahead cX11_ahead 4 (some .int) 6 135 [.ref (ad 0), .int (v1), .int (v2), .int (v3)] M (gQi D 91 ad (shC ad cy) K) := by
  refine gM.of (own := RX11) (lv := [(0, .ref (ad 0)), (1, .int (v1)), (2, .int (v2)), (3, .int (v3))]) (by decide) rfl hI (Nat.le_of_ble_eq_true rfl) rfl ?_
  intro p e s m below meth c ls H locs X G hl
  have hx := X.1
  have hb := X.2.1
  unfold f_X11_ahead at h
  refine lv_aload_n hx hb dX11_ahead_0 rfl (lv_at hl 0 rfl) ?_
  refine gf_PH_now X G qw_2_16 dX11_ahead_1 ?_
  refine lv_iload_n hx hb dX11_ahead_4 rfl (lv_at hl 1 rfl) ?_
  refine gq_calli G (gc_VN (C := RX6) (rest := []) X hl.1 G (m_X6_hasFolk hI isPap_26 h) cw_X6_hasFolk nm_34 qw_22_17 qw_22_18 (ob_Paper isPap_26) rfl rfl rfl rfl (Nat.le_of_ble_eq_true rfl) ⟨Nat.le_of_ble_eq_true rfl, Nat.le_of_ble_eq_true rfl⟩ ⟨Nat.le_refl _, Nat.le_refl _⟩ dX11_ahead_5) (fun r2 M1 H locs G h => ?_)
  refine lv_if_eq (tgt := 28) hx hb dX11_ahead_8 (by decide) (fun c3 => ?_) (fun c3 => ?_)
  · have h := h.1 c3
    refine gq_ldc (v := (-1000001)) X qw_6_5 dX11_ahead_28 ?_
    exact gq_iret X G h dX11_ahead_30
  have h := h.2 c3
  refine lv_iload_n hx hb dX11_ahead_11 rfl (lv_at hl 2 rfl) ?_
  refine lv_if_lt (tgt := 28) hx hb dX11_ahead_12 (by decide) (fun c4 => ?_) (fun c4 => ?_)
  · have h := h.1 c4
    refine gq_ldc (v := (-1000001)) X qw_6_5 dX11_ahead_28 ?_
    exact gq_iret X G h dX11_ahead_30
  have h := h.2 c4
  refine lv_iload_n hx hb dX11_ahead_15 rfl (lv_at hl 2 rfl) ?_
  refine lv_bipush (v := (60)) hx hb dX11_ahead_16 (by decide) ?_
  refine lv_icmp_gt (tgt := 28) hx hb dX11_ahead_18 (by decide) (fun c5 => ?_) (fun c5 => ?_)
  · have h := h.1 c5
    refine gq_ldc (v := (-1000001)) X qw_6_5 dX11_ahead_28 ?_
    exact gq_iret X G h dX11_ahead_30
  have h := h.2 c5
  refine lv_iload_n hx hb dX11_ahead_21 rfl (lv_at hl 3 rfl) ?_
  refine gq_calli G (gc_S (rest := []) X hl.1 G (m_X11_isBit hI  h) cw_X11_isBit qw_21_2 qw_21_3 rfl rfl (Nat.le_of_ble_eq_true rfl) ⟨Nat.le_of_ble_eq_true rfl, Nat.le_of_ble_eq_true rfl⟩ ⟨Nat.le_refl _, Nat.le_refl _⟩ dX11_ahead_22) (fun r7 M6 H locs G h => ?_)
  refine lv_if_ne (tgt := 31) hx hb dX11_ahead_25 (by decide) (fun c8 => ?_) (fun c8 => ?_)
  · have h := h.2 c8
    refine lv_aload_n hx hb dX11_ahead_31 rfl (lv_at hl 0 rfl) ?_
    refine gf_PH_foretold X G qw_2_22 dX11_ahead_32 ?_
    refine lv_iload_n hx hb dX11_ahead_35 rfl (lv_at hl 1 rfl) ?_
    refine lv_iload_n hx hb dX11_ahead_36 rfl (lv_at hl 2 rfl) ?_
    refine lv_iload_n hx hb dX11_ahead_37 rfl (lv_at hl 3 rfl) ?_
    refine gq_calli G (gc_VN (C := RX4) (rest := []) X hl.1 G (m_X4_after hI  h) cw_X4_after nm_45 qw_26_9 qw_26_10 ob_Fore rfl rfl rfl rfl (Nat.le_of_ble_eq_true rfl) ⟨Nat.le_of_ble_eq_true rfl, Nat.le_of_ble_eq_true rfl⟩ ⟨Nat.le_refl _, Nat.le_refl _⟩ dX11_ahead_38) (fun r10 M9 H locs G h => ?_)
    exact gq_iret X G h dX11_ahead_41
  have h := h.1 c8
  refine gq_ldc (v := (-1000001)) X qw_6_5 dX11_ahead_28 ?_
  exact gq_iret X G h dX11_ahead_30
def l_X4_daysUntilAllKnown_13 (K : Int32 → Mm → Prop) (v1 : Int32) : Nat → Int32 → Mm → Prop
  | 0, _, _ => False
  | n + 1, v2, M => ((((60 : Int32) < v2 : Prop) → K (-1000000) M) ∧ (¬ ((60 : Int32) < v2 : Prop) → (vp_in (v1) 5 ∧ (f_X6_allCells 56 M (fun r4 M3 => ((((M (56 + 6) (v1 : Int32).toNatClampNeg : Int32) = r4 : Prop) → K (v2) M3) ∧ (¬ ((M (56 + 6) (v1 : Int32).toNatClampNeg : Int32) = r4 : Prop) → (f_X6_walk 56 (v1) M3 (fun M6 => (f_X6_endDay 56 M6 (fun M7 => (l_X4_daysUntilAllKnown_13 K v1 n) (v2 + 1) M7)))))))))))
def f_X4_daysUntilAllKnown (v1 : Int32) (M : Mm) (K : Int32 → Mm → Prop) : Prop := (f_X6_become 56 26 M (fun M8 => ∃ z, l_X4_daysUntilAllKnown_13 K (v1) z (0) M8))
set_option maxHeartbeats 4000000 in
set_option maxRecDepth 100000 in
theorem m_X4_daysUntilAllKnown (hI : gI 91 ad) {v1 : Int32} {M : Mm} {K : Int32 → Mm → Prop} (h : f_X4_daysUntilAllKnown v1 M K) : gM l D cy 91 ad (shC ad cy) yX4_daysUntilAllKnown cX4_daysUntilAllKnown 3 (some .int) 4 89 [.ref (ad 55), .int (v1)] M (gQi D 91 ad (shC ad cy) K) := by
  refine gM.of (own := RX4) (lv := [(0, .ref (ad 55)), (1, .int (v1))]) (by decide) rfl hI (Nat.le_of_ble_eq_true rfl) rfl ?_
  intro p e s m below meth c ls H locs X G hl
  have hx := X.1
  have hb := X.2.1
  have hL13 : ∀ (n : Nat) (v2 : Int32) (M : Mm) (H : Heap) (locs : List Loc) (ls : Array Slot), gS D s 91 ad (shC ad cy) H locs M → lv_has ls 3 [(0, .ref (ad 55)), (1, .int (v1)), (2, .int (v2))] → l_X4_daysUntilAllKnown_13 K v1 n v2 M → gWk p l e 4 89 s m ([.ref (ad 55), .int (v1)] : List Value).toArray below meth c H locs (gQi D 91 ad (shC ad cy) K) 91 ad 13 ls [] := by
    intro n13
    induction n13 with
    | zero =>
      intro v2 M H locs ls G hl h
      exact False.elim h
    | succ n13 ih13 =>
      intro v2 M H locs ls G hl h
      rw [l_X4_daysUntilAllKnown_13] at h
      refine lv_iload_n hx hb dX4_daysUntilAllKnown_13 rfl (lv_at hl 2 rfl) ?_
      refine lv_bipush (v := (60)) hx hb dX4_daysUntilAllKnown_14 (by decide) ?_
      refine lv_icmp_gt (tgt := 61) hx hb dX4_daysUntilAllKnown_16 (by decide) (fun c1 => ?_) (fun c1 => ?_)
      · have h := h.1 c1
        refine gq_ldc (v := (-1000000)) X qw_27_7 dX4_daysUntilAllKnown_61 ?_
        exact gq_iret X G h dX4_daysUntilAllKnown_63
      have h := h.2 c1
      refine lv_aload_n hx hb dX4_daysUntilAllKnown_19 rfl (lv_at hl 0 rfl) ?_
      refine gf_Fore_later X G qw_4_21 dX4_daysUntilAllKnown_20 ?_
      refine gfN_Paper_knows X G isPap_56 nf_19 dX4_daysUntilAllKnown_23 ?_
      refine lv_iload_n hx hb dX4_daysUntilAllKnown_26 rfl (lv_at hl 1 rfl) ?_
      obtain ⟨q2, h⟩ := h
      refine gq_iald X G (ar_Paper_knows isPap_56) q2 dX4_daysUntilAllKnown_27 ?_
      refine lv_aload_n hx hb dX4_daysUntilAllKnown_28 rfl (lv_at hl 0 rfl) ?_
      refine gf_Fore_later X G qw_4_21 dX4_daysUntilAllKnown_29 ?_
      refine gq_calli G (gc_VN (C := RX6) (rest := [.int (M (56 + 6) (v1 : Int32).toNatClampNeg)]) X hl.1 G (m_X6_allCells hI isPap_56 h) cw_X6_allCells nm_50 qw_19_0 qw_19_1 (ob_Paper isPap_56) rfl rfl rfl rfl (Nat.le_of_ble_eq_true rfl) ⟨Nat.le_of_ble_eq_true rfl, Nat.le_of_ble_eq_true rfl⟩ ⟨Nat.le_refl _, Nat.le_refl _⟩ dX4_daysUntilAllKnown_32) (fun r4 M3 H locs G h => ?_)
      refine lv_icmp_ne (tgt := 40) hx hb dX4_daysUntilAllKnown_35 (by decide) (fun c5 => ?_) (fun c5 => ?_)
      · have h := h.2 c5
        refine lv_aload_n hx hb dX4_daysUntilAllKnown_40 rfl (lv_at hl 0 rfl) ?_
        refine gf_Fore_later X G qw_4_21 dX4_daysUntilAllKnown_41 ?_
        refine lv_iload_n hx hb dX4_daysUntilAllKnown_44 rfl (lv_at hl 1 rfl) ?_
        refine gq_callv G (gc_VN (C := RX6) (rest := []) X hl.1 G (m_X6_walk hI isPap_56 h) cw_X6_walk nm_47 qw_17_8 qw_17_9 (ob_Paper isPap_56) rfl rfl rfl rfl (Nat.le_of_ble_eq_true rfl) ⟨Nat.le_of_ble_eq_true rfl, Nat.le_of_ble_eq_true rfl⟩ ⟨Nat.le_refl _, Nat.le_refl _⟩ dX4_daysUntilAllKnown_45) (fun M6 H locs G h => ?_)
        refine lv_aload_n hx hb dX4_daysUntilAllKnown_48 rfl (lv_at hl 0 rfl) ?_
        refine gf_Fore_later X G qw_4_21 dX4_daysUntilAllKnown_49 ?_
        refine gq_callv G (gc_VN (C := RX6) (rest := []) X hl.1 G (m_X6_endDay hI isPap_56 h) cw_X6_endDay nm_48 qw_19_4 qw_19_5 (ob_Paper isPap_56) rfl rfl rfl rfl (Nat.le_of_ble_eq_true rfl) ⟨Nat.le_of_ble_eq_true rfl, Nat.le_of_ble_eq_true rfl⟩ ⟨Nat.le_refl _, Nat.le_refl _⟩ dX4_daysUntilAllKnown_52) (fun M7 H locs G h => ?_)
        refine lv_iinc (v := v2 + 1) (lv' := [(2, .int (v2 + 1)), (0, .ref (ad 55)), (1, .int (v1))]) hx hb dX4_daysUntilAllKnown_55 hl (k := 2) rfl rfl (by decide) rfl (fun ls hl => ?_)
        refine lv_goto (tgt := 13) hx hb dX4_daysUntilAllKnown_58 (by decide) ?_
        exact ih13 (v2 + 1) M7 H locs ls G  (lv_sub hl [1, 2, 0] rfl) h
      have h := h.1 c5
      refine lv_iload_n hx hb dX4_daysUntilAllKnown_38 rfl (lv_at hl 2 rfl) ?_
      exact gq_iret X G h dX4_daysUntilAllKnown_39
  unfold f_X4_daysUntilAllKnown at h
  refine lv_aload_n hx hb dX4_daysUntilAllKnown_0 rfl (lv_at hl 0 rfl) ?_
  refine gf_Fore_later X G qw_4_21 dX4_daysUntilAllKnown_1 ?_
  refine lv_aload_n hx hb dX4_daysUntilAllKnown_4 rfl (lv_at hl 0 rfl) ?_
  refine gf_Fore_now X G qw_4_19 dX4_daysUntilAllKnown_5 ?_
  refine gq_callv G (gc_VN (C := RX6) (rest := []) X hl.1 G (m_X6_become hI isPap_56 isPap_26 h) cw_X6_become nm_46 qw_13_14 qw_13_15 (ob_Paper isPap_56) rfl rfl rfl rfl (Nat.le_of_ble_eq_true rfl) ⟨Nat.le_of_ble_eq_true rfl, Nat.le_of_ble_eq_true rfl⟩ ⟨Nat.le_refl _, Nat.le_refl _⟩ dX4_daysUntilAllKnown_8) (fun M8 H locs G h => ?_)
  refine lv_iconst (v := (0)) hx hb dX4_daysUntilAllKnown_11 (by decide) ?_
  refine lv_istore_n (lv' := [(2, .int (0)), (0, .ref (ad 55)), (1, .int (v1))]) hx hb dX4_daysUntilAllKnown_12 rfl hl (by decide) rfl (fun ls hl => ?_)
  obtain ⟨n9, h⟩ := h
  exact hL13   n9 (0) M8 H locs ls G  (lv_sub hl [1, 2, 0] rfl) h
def f_X11_all (v1 : Int32) (M : Mm) (K : Int32 → Mm → Prop) : Prop := (f_X6_hasFolk 26 (v1) M (fun r2 M1 => ((((r2 : Int32) = 0 : Prop) → K (-1000001) M1) ∧ (¬ ((r2 : Int32) = 0 : Prop) → (f_X4_daysUntilAllKnown (v1) M1 (fun r5 M4 => K (r5) M4))))))
set_option maxHeartbeats 4000000 in
set_option maxRecDepth 100000 in
theorem m_X11_all (hI : gI 91 ad) {v1 : Int32} {M : Mm} {K : Int32 → Mm → Prop} (h : f_X11_all v1 M K) : gM l D cy 91 ad (shC ad cy) yX11_all cX11_all 2 (some .int) 5 111 [.ref (ad 0), .int (v1)] M (gQi D 91 ad (shC ad cy) K) := by
  refine gM.of (own := RX11) (lv := [(0, .ref (ad 0)), (1, .int (v1))]) (by decide) rfl hI (Nat.le_of_ble_eq_true rfl) rfl ?_
  intro p e s m below meth c ls H locs X G hl
  have hx := X.1
  have hb := X.2.1
  unfold f_X11_all at h
  refine lv_aload_n hx hb dX11_all_0 rfl (lv_at hl 0 rfl) ?_
  refine gf_PH_now X G qw_2_16 dX11_all_1 ?_
  refine lv_iload_n hx hb dX11_all_4 rfl (lv_at hl 1 rfl) ?_
  refine gq_calli G (gc_VN (C := RX6) (rest := []) X hl.1 G (m_X6_hasFolk hI isPap_26 h) cw_X6_hasFolk nm_34 qw_22_17 qw_22_18 (ob_Paper isPap_26) rfl rfl rfl rfl (Nat.le_of_ble_eq_true rfl) ⟨Nat.le_of_ble_eq_true rfl, Nat.le_of_ble_eq_true rfl⟩ ⟨Nat.le_refl _, Nat.le_refl _⟩ dX11_all_5) (fun r2 M1 H locs G h => ?_)
  refine lv_if_ne (tgt := 14) hx hb dX11_all_8 (by decide) (fun c3 => ?_) (fun c3 => ?_)
  · have h := h.2 c3
    refine lv_aload_n hx hb dX11_all_14 rfl (lv_at hl 0 rfl) ?_
    refine gf_PH_foretold X G qw_2_22 dX11_all_15 ?_
    refine lv_iload_n hx hb dX11_all_18 rfl (lv_at hl 1 rfl) ?_
    refine gq_calli G (gc_VN (C := RX4) (rest := []) X hl.1 G (m_X4_daysUntilAllKnown hI  h) cw_X4_daysUntilAllKnown nm_49 qw_27_4 qw_27_5 ob_Fore rfl rfl rfl rfl (Nat.le_of_ble_eq_true rfl) ⟨Nat.le_of_ble_eq_true rfl, Nat.le_of_ble_eq_true rfl⟩ ⟨Nat.le_refl _, Nat.le_refl _⟩ dX11_all_19) (fun r5 M4 H locs G h => ?_)
    exact gq_iret X G h dX11_all_22
  have h := h.1 c3
  refine gq_ldc (v := (-1000001)) X qw_6_5 dX11_all_11 ?_
  exact gq_iret X G h dX11_all_13
def l_X4_firstToKnowAll_9 (K : Int32 → Mm → Prop) (v1 : Int32) : Nat → Int32 → Int32 → Int32 → Mm → Prop
  | 0, _, _, _, _ => False
  | n + 1, v2, v3, v4, M => ((((M 26 10 : Int32) ≤ v4 : Prop) → ((((v1 : Int32) = 0 : Prop) → K (v2) M) ∧ (¬ ((v1 : Int32) = 0 : Prop) → ((((v2 : Int32) = -1000000 : Prop) → K (v2) M) ∧ (¬ ((v2 : Int32) = -1000000 : Prop) → K (v3) M))))) ∧ (¬ ((M 26 10 : Int32) ≤ v4 : Prop) → (f_X4_daysUntilAllKnown (v4) M (fun r5 M4 => ((((r5 : Int32) = -1000000 : Prop) → (l_X4_firstToKnowAll_9 K v1 n) (v2) (v3) (v4 + 1) M4) ∧ (¬ ((r5 : Int32) = -1000000 : Prop) → ((((v3 : Int32) ≤ r5 : Prop) → (l_X4_firstToKnowAll_9 K v1 n) (v2) (v3) (v4 + 1) M4) ∧ (¬ ((v3 : Int32) ≤ r5 : Prop) → (l_X4_firstToKnowAll_9 K v1 n) (v4) (r5) (v4 + 1) M4))))))))
def f_X4_firstToKnowAll (v1 : Int32) (M : Mm) (K : Int32 → Mm → Prop) : Prop := ∃ z, l_X4_firstToKnowAll_9 K (v1) z (-1000000) (61) (0) M
set_option maxHeartbeats 4000000 in
set_option maxRecDepth 100000 in
theorem m_X4_firstToKnowAll (hI : gI 91 ad) {v1 : Int32} {M : Mm} {K : Int32 → Mm → Prop} (h : f_X4_firstToKnowAll v1 M K) : gM l D cy 91 ad (shC ad cy) yX4_firstToKnowAll cX4_firstToKnowAll 6 (some .int) 5 111 [.ref (ad 55), .int (v1)] M (gQi D 91 ad (shC ad cy) K) := by
  refine gM.of (own := RX4) (lv := [(0, .ref (ad 55)), (1, .int (v1))]) (by decide) rfl hI (Nat.le_of_ble_eq_true rfl) rfl ?_
  intro p e s m below meth c ls H locs X G hl
  have hx := X.1
  have hb := X.2.1
  have hL9 : ∀ (n : Nat) (v2 : Int32) (v3 : Int32) (v4 : Int32) (M : Mm) (H : Heap) (locs : List Loc) (ls : Array Slot), gS D s 91 ad (shC ad cy) H locs M → lv_has ls 6 [(0, .ref (ad 55)), (1, .int (v1)), (2, .int (v2)), (3, .int (v3)), (4, .int (v4))] → l_X4_firstToKnowAll_9 K v1 n v2 v3 v4 M → gWk p l e 5 111 s m ([.ref (ad 55), .int (v1)] : List Value).toArray below meth c H locs (gQi D 91 ad (shC ad cy) K) 91 ad 9 ls [] := by
    intro n9
    induction n9 with
    | zero =>
      intro v2 v3 v4 M H locs ls G hl h
      exact False.elim h
    | succ n9 ih9 =>
      intro v2 v3 v4 M H locs ls G hl h
      rw [l_X4_firstToKnowAll_9] at h
      refine lv_iload hx hb dX4_firstToKnowAll_9 (lv_at hl 4 rfl) ?_
      refine lv_aload_n hx hb dX4_firstToKnowAll_11 rfl (lv_at hl 0 rfl) ?_
      refine gf_Fore_now X G qw_4_19 dX4_firstToKnowAll_12 ?_
      refine gfN_Paper_folkCount X G isPap_26 nf_30 dX4_firstToKnowAll_15 ?_
      refine lv_icmp_ge (tgt := 54) hx hb dX4_firstToKnowAll_18 (by decide) (fun c1 => ?_) (fun c1 => ?_)
      · have h := h.1 c1
        refine lv_iload_n hx hb dX4_firstToKnowAll_54 rfl (lv_at hl 1 rfl) ?_
        refine lv_if_eq (tgt := 64) hx hb dX4_firstToKnowAll_55 (by decide) (fun c2 => ?_) (fun c2 => ?_)
        · have h := h.1 c2
          refine lv_iload_n hx hb dX4_firstToKnowAll_64 rfl (lv_at hl 2 rfl) ?_
          refine lv_goto (tgt := 69) hx hb dX4_firstToKnowAll_65 (by decide) ?_
          exact gq_iret X G h dX4_firstToKnowAll_69
        have h := h.2 c2
        refine lv_iload_n hx hb dX4_firstToKnowAll_58 rfl (lv_at hl 2 rfl) ?_
        refine gq_ldc (v := (-1000000)) X qw_27_7 dX4_firstToKnowAll_59 ?_
        refine lv_icmp_ne (tgt := 68) hx hb dX4_firstToKnowAll_61 (by decide) (fun c3 => ?_) (fun c3 => ?_)
        · have h := h.2 c3
          refine lv_iload_n hx hb dX4_firstToKnowAll_68 rfl (lv_at hl 3 rfl) ?_
          exact gq_iret X G h dX4_firstToKnowAll_69
        have h := h.1 c3
        refine lv_iload_n hx hb dX4_firstToKnowAll_64 rfl (lv_at hl 2 rfl) ?_
        refine lv_goto (tgt := 69) hx hb dX4_firstToKnowAll_65 (by decide) ?_
        exact gq_iret X G h dX4_firstToKnowAll_69
      have h := h.2 c1
      refine lv_aload_n hx hb dX4_firstToKnowAll_21 rfl (lv_at hl 0 rfl) ?_
      refine lv_iload hx hb dX4_firstToKnowAll_22 (lv_at hl 4 rfl) ?_
      refine gq_calli G (gc_V (C := RX4) (rest := []) X hl.1 G (m_X4_daysUntilAllKnown hI  h) cw_X4_daysUntilAllKnown qw_28_3 qw_27_4 qw_27_5 ob_Fore rfl rfl rfl rfl (Nat.le_of_ble_eq_true rfl) ⟨Nat.le_of_ble_eq_true rfl, Nat.le_of_ble_eq_true rfl⟩ ⟨Nat.le_refl _, Nat.le_refl _⟩ dX4_firstToKnowAll_24) (fun r5 M4 H locs G h => ?_)
      refine lv_istore (lv' := [(5, .int (r5)), (0, .ref (ad 55)), (1, .int (v1)), (2, .int (v2)), (3, .int (v3)), (4, .int (v4))]) hx hb dX4_firstToKnowAll_27 hl (by decide) rfl (fun ls hl => ?_)
      refine lv_iload hx hb dX4_firstToKnowAll_29 (lv_at hl 0 rfl) ?_
      refine gq_ldc (v := (-1000000)) X qw_27_7 dX4_firstToKnowAll_31 ?_
      refine lv_icmp_eq (tgt := 48) hx hb dX4_firstToKnowAll_33 (by decide) (fun c6 => ?_) (fun c6 => ?_)
      · have h := h.1 c6
        refine lv_iinc (v := v4 + 1) (lv' := [(4, .int (v4 + 1)), (5, .int (r5)), (0, .ref (ad 55)), (1, .int (v1)), (2, .int (v2)), (3, .int (v3))]) hx hb dX4_firstToKnowAll_48 hl (k := 5) rfl rfl (by decide) rfl (fun ls hl => ?_)
        refine lv_goto (tgt := 9) hx hb dX4_firstToKnowAll_51 (by decide) ?_
        exact ih9 (v2) (v3) (v4 + 1) M4 H locs ls G  (lv_sub hl [2, 3, 4, 5, 0] rfl) h
      have h := h.2 c6
      refine lv_iload hx hb dX4_firstToKnowAll_36 (lv_at hl 0 rfl) ?_
      refine lv_iload_n hx hb dX4_firstToKnowAll_38 rfl (lv_at hl 4 rfl) ?_
      refine lv_icmp_ge (tgt := 48) hx hb dX4_firstToKnowAll_39 (by decide) (fun c7 => ?_) (fun c7 => ?_)
      · have h := h.1 c7
        refine lv_iinc (v := v4 + 1) (lv' := [(4, .int (v4 + 1)), (5, .int (r5)), (0, .ref (ad 55)), (1, .int (v1)), (2, .int (v2)), (3, .int (v3))]) hx hb dX4_firstToKnowAll_48 hl (k := 5) rfl rfl (by decide) rfl (fun ls hl => ?_)
        refine lv_goto (tgt := 9) hx hb dX4_firstToKnowAll_51 (by decide) ?_
        exact ih9 (v2) (v3) (v4 + 1) M4 H locs ls G  (lv_sub hl [2, 3, 4, 5, 0] rfl) h
      have h := h.2 c7
      refine lv_iload hx hb dX4_firstToKnowAll_42 (lv_at hl 5 rfl) ?_
      refine lv_istore_n (lv' := [(2, .int (v4)), (5, .int (r5)), (0, .ref (ad 55)), (1, .int (v1)), (3, .int (v3)), (4, .int (v4))]) hx hb dX4_firstToKnowAll_44 rfl hl (by decide) rfl (fun ls hl => ?_)
      refine lv_iload hx hb dX4_firstToKnowAll_45 (lv_at hl 1 rfl) ?_
      refine lv_istore_n (lv' := [(3, .int (r5)), (2, .int (v4)), (5, .int (r5)), (0, .ref (ad 55)), (1, .int (v1)), (4, .int (v4))]) hx hb dX4_firstToKnowAll_47 rfl hl (by decide) rfl (fun ls hl => ?_)
      refine lv_iinc (v := v4 + 1) (lv' := [(4, .int (v4 + 1)), (3, .int (r5)), (2, .int (v4)), (5, .int (r5)), (0, .ref (ad 55)), (1, .int (v1))]) hx hb dX4_firstToKnowAll_48 hl (k := 5) rfl rfl (by decide) rfl (fun ls hl => ?_)
      refine lv_goto (tgt := 9) hx hb dX4_firstToKnowAll_51 (by decide) ?_
      exact ih9 (v4) (r5) (v4 + 1) M4 H locs ls G  (lv_sub hl [4, 5, 2, 1, 0] rfl) h
  unfold f_X4_firstToKnowAll at h
  refine gq_ldc (v := (-1000000)) X qw_27_7 dX4_firstToKnowAll_0 ?_
  refine lv_istore_n (lv' := [(2, .int (-1000000)), (0, .ref (ad 55)), (1, .int (v1))]) hx hb dX4_firstToKnowAll_2 rfl hl (by decide) rfl (fun ls hl => ?_)
  refine lv_bipush (v := (61)) hx hb dX4_firstToKnowAll_3 (by decide) ?_
  refine lv_istore_n (lv' := [(3, .int (61)), (2, .int (-1000000)), (0, .ref (ad 55)), (1, .int (v1))]) hx hb dX4_firstToKnowAll_5 rfl hl (by decide) rfl (fun ls hl => ?_)
  refine lv_iconst (v := (0)) hx hb dX4_firstToKnowAll_6 (by decide) ?_
  refine lv_istore (lv' := [(4, .int (0)), (3, .int (61)), (2, .int (-1000000)), (0, .ref (ad 55)), (1, .int (v1))]) hx hb dX4_firstToKnowAll_7 hl (by decide) rfl (fun ls hl => ?_)
  obtain ⟨n8, h⟩ := h
  exact hL9   n8 (-1000000) (61) (0) M H locs ls G  (lv_sub hl [3, 4, 2, 1, 0] rfl) h
def f_X11_first (v1 : Int32) (M : Mm) (K : Int32 → Mm → Prop) : Prop := (f_X11_noPaper  M (fun r2 M1 => ((((r2 : Int32) = 0 : Prop) → (f_X11_isBit (v1) M1 (fun r5 M4 => ((((r5 : Int32) = 0 : Prop) → K (-1000001) M4) ∧ (¬ ((r5 : Int32) = 0 : Prop) → (f_X4_firstToKnowAll (v1) M4 (fun r8 M7 => K (r8) M7))))))) ∧ (¬ ((r2 : Int32) = 0 : Prop) → K (-1000002) M1))))
set_option maxHeartbeats 4000000 in
set_option maxRecDepth 100000 in
theorem m_X11_first (hI : gI 91 ad) {v1 : Int32} {M : Mm} {K : Int32 → Mm → Prop} (h : f_X11_first v1 M K) : gM l D cy 91 ad (shC ad cy) yX11_first cX11_first 2 (some .int) 6 136 [.ref (ad 0), .int (v1)] M (gQi D 91 ad (shC ad cy) K) := by
  refine gM.of (own := RX11) (lv := [(0, .ref (ad 0)), (1, .int (v1))]) (by decide) rfl hI (Nat.le_of_ble_eq_true rfl) rfl ?_
  intro p e s m below meth c ls H locs X G hl
  have hx := X.1
  have hb := X.2.1
  unfold f_X11_first at h
  refine lv_aload_n hx hb dX11_first_0 rfl (lv_at hl 0 rfl) ?_
  refine gq_calli G (gc_V (C := RX11) (rest := []) X hl.1 G (m_X11_noPaper hI  h) cw_X11_noPaper qw_16_17 qw_16_18 qw_16_19 ob_PH rfl rfl rfl rfl (Nat.le_of_ble_eq_true rfl) ⟨Nat.le_of_ble_eq_true rfl, Nat.le_of_ble_eq_true rfl⟩ ⟨Nat.le_refl _, Nat.le_refl _⟩ dX11_first_1) (fun r2 M1 H locs G h => ?_)
  refine lv_if_eq (tgt := 10) hx hb dX11_first_4 (by decide) (fun c3 => ?_) (fun c3 => ?_)
  · have h := h.1 c3
    refine lv_iload_n hx hb dX11_first_10 rfl (lv_at hl 1 rfl) ?_
    refine gq_calli G (gc_S (rest := []) X hl.1 G (m_X11_isBit hI  h) cw_X11_isBit qw_21_2 qw_21_3 rfl rfl (Nat.le_of_ble_eq_true rfl) ⟨Nat.le_of_ble_eq_true rfl, Nat.le_of_ble_eq_true rfl⟩ ⟨Nat.le_refl _, Nat.le_refl _⟩ dX11_first_11) (fun r5 M4 H locs G h => ?_)
    refine lv_if_ne (tgt := 20) hx hb dX11_first_14 (by decide) (fun c6 => ?_) (fun c6 => ?_)
    · have h := h.2 c6
      refine lv_aload_n hx hb dX11_first_20 rfl (lv_at hl 0 rfl) ?_
      refine gf_PH_foretold X G qw_2_22 dX11_first_21 ?_
      refine lv_iload_n hx hb dX11_first_24 rfl (lv_at hl 1 rfl) ?_
      refine gq_calli G (gc_VN (C := RX4) (rest := []) X hl.1 G (m_X4_firstToKnowAll hI  h) cw_X4_firstToKnowAll nm_51 qw_28_0 qw_28_1 ob_Fore rfl rfl rfl rfl (Nat.le_of_ble_eq_true rfl) ⟨Nat.le_of_ble_eq_true rfl, Nat.le_of_ble_eq_true rfl⟩ ⟨Nat.le_refl _, Nat.le_refl _⟩ dX11_first_25) (fun r8 M7 H locs G h => ?_)
      exact gq_iret X G h dX11_first_28
    have h := h.1 c6
    refine gq_ldc (v := (-1000001)) X qw_6_5 dX11_first_17 ?_
    exact gq_iret X G h dX11_first_19
  have h := h.2 c3
  refine gq_ldc (v := (-1000002)) X qw_16_16 dX11_first_7 ?_
  exact gq_iret X G h dX11_first_9
def f_J6_bitCount_0f7a4 (v0 : Int32) (M : Mm) (K : Int32 → Mm → Prop) : Prop := K ((((((((v0 - ((((v0).toUInt32 >>> ((1 : Int32).toUInt32 &&& Int32.toUInt32 31)).toInt32) &&& 1431655765)) &&& 858993459) + ((((v0 - ((((v0).toUInt32 >>> ((1 : Int32).toUInt32 &&& Int32.toUInt32 31)).toInt32) &&& 1431655765)).toUInt32 >>> ((2 : Int32).toUInt32 &&& Int32.toUInt32 31)).toInt32) &&& 858993459)) + (((((v0 - ((((v0).toUInt32 >>> ((1 : Int32).toUInt32 &&& Int32.toUInt32 31)).toInt32) &&& 1431655765)) &&& 858993459) + ((((v0 - ((((v0).toUInt32 >>> ((1 : Int32).toUInt32 &&& Int32.toUInt32 31)).toInt32) &&& 1431655765)).toUInt32 >>> ((2 : Int32).toUInt32 &&& Int32.toUInt32 31)).toInt32) &&& 858993459)).toUInt32 >>> ((4 : Int32).toUInt32 &&& Int32.toUInt32 31)).toInt32)) &&& 252645135) + (((((((v0 - ((((v0).toUInt32 >>> ((1 : Int32).toUInt32 &&& Int32.toUInt32 31)).toInt32) &&& 1431655765)) &&& 858993459) + ((((v0 - ((((v0).toUInt32 >>> ((1 : Int32).toUInt32 &&& Int32.toUInt32 31)).toInt32) &&& 1431655765)).toUInt32 >>> ((2 : Int32).toUInt32 &&& Int32.toUInt32 31)).toInt32) &&& 858993459)) + (((((v0 - ((((v0).toUInt32 >>> ((1 : Int32).toUInt32 &&& Int32.toUInt32 31)).toInt32) &&& 1431655765)) &&& 858993459) + ((((v0 - ((((v0).toUInt32 >>> ((1 : Int32).toUInt32 &&& Int32.toUInt32 31)).toInt32) &&& 1431655765)).toUInt32 >>> ((2 : Int32).toUInt32 &&& Int32.toUInt32 31)).toInt32) &&& 858993459)).toUInt32 >>> ((4 : Int32).toUInt32 &&& Int32.toUInt32 31)).toInt32)) &&& 252645135).toUInt32 >>> ((8 : Int32).toUInt32 &&& Int32.toUInt32 31)).toInt32)) + ((((((((v0 - ((((v0).toUInt32 >>> ((1 : Int32).toUInt32 &&& Int32.toUInt32 31)).toInt32) &&& 1431655765)) &&& 858993459) + ((((v0 - ((((v0).toUInt32 >>> ((1 : Int32).toUInt32 &&& Int32.toUInt32 31)).toInt32) &&& 1431655765)).toUInt32 >>> ((2 : Int32).toUInt32 &&& Int32.toUInt32 31)).toInt32) &&& 858993459)) + (((((v0 - ((((v0).toUInt32 >>> ((1 : Int32).toUInt32 &&& Int32.toUInt32 31)).toInt32) &&& 1431655765)) &&& 858993459) + ((((v0 - ((((v0).toUInt32 >>> ((1 : Int32).toUInt32 &&& Int32.toUInt32 31)).toInt32) &&& 1431655765)).toUInt32 >>> ((2 : Int32).toUInt32 &&& Int32.toUInt32 31)).toInt32) &&& 858993459)).toUInt32 >>> ((4 : Int32).toUInt32 &&& Int32.toUInt32 31)).toInt32)) &&& 252645135) + (((((((v0 - ((((v0).toUInt32 >>> ((1 : Int32).toUInt32 &&& Int32.toUInt32 31)).toInt32) &&& 1431655765)) &&& 858993459) + ((((v0 - ((((v0).toUInt32 >>> ((1 : Int32).toUInt32 &&& Int32.toUInt32 31)).toInt32) &&& 1431655765)).toUInt32 >>> ((2 : Int32).toUInt32 &&& Int32.toUInt32 31)).toInt32) &&& 858993459)) + (((((v0 - ((((v0).toUInt32 >>> ((1 : Int32).toUInt32 &&& Int32.toUInt32 31)).toInt32) &&& 1431655765)) &&& 858993459) + ((((v0 - ((((v0).toUInt32 >>> ((1 : Int32).toUInt32 &&& Int32.toUInt32 31)).toInt32) &&& 1431655765)).toUInt32 >>> ((2 : Int32).toUInt32 &&& Int32.toUInt32 31)).toInt32) &&& 858993459)).toUInt32 >>> ((4 : Int32).toUInt32 &&& Int32.toUInt32 31)).toInt32)) &&& 252645135).toUInt32 >>> ((8 : Int32).toUInt32 &&& Int32.toUInt32 31)).toInt32)).toUInt32 >>> ((16 : Int32).toUInt32 &&& Int32.toUInt32 31)).toInt32)) &&& 63) M
set_option maxHeartbeats 4000000 in
set_option maxRecDepth 100000 in
theorem m_J6_bitCount_0f7a4 (hI : gI 91 ad) {v0 : Int32} {M : Mm} {K : Int32 → Mm → Prop} (h : f_J6_bitCount_0f7a4 v0 M K) : gM l D cy 91 ad (shC ad cy) yJ6_bitCount_0f7a4 cJ6_bitCount_0f7a4 1 (some .int) 0 0 [.int (v0)] M (gQi D 91 ad (shC ad cy) K) := by
  refine gM.of (own := RJ6) (lv := [(0, .int (v0))]) (by decide) rfl hI (Nat.le_of_ble_eq_true rfl) rfl ?_
  intro p e s m below meth c ls H locs X G hl
  have hx := X.1
  have hb := X.2.1
  unfold f_J6_bitCount_0f7a4 at h
  refine lv_iload_n hx hb dJ6_bitCount_0f7a4_0 rfl (lv_at hl 0 rfl) ?_
  refine lv_iload_n hx hb dJ6_bitCount_0f7a4_1 rfl (lv_at hl 0 rfl) ?_
  refine lv_iconst (v := (1)) hx hb dJ6_bitCount_0f7a4_2 (by decide) ?_
  refine lv_iushr hx hb dJ6_bitCount_0f7a4_3 rfl ?_
  refine gq_ldcw (v := (1431655765)) X qw_28_16 dJ6_bitCount_0f7a4_4 ?_
  refine lv_iand hx hb dJ6_bitCount_0f7a4_7 ?_
  refine lv_isub hx hb dJ6_bitCount_0f7a4_8 ?_
  refine lv_istore_n (lv' := [(0, .int (v0 - ((((v0).toUInt32 >>> ((1 : Int32).toUInt32 &&& Int32.toUInt32 31)).toInt32) &&& 1431655765)))]) hx hb dJ6_bitCount_0f7a4_9 rfl hl (by decide) rfl (fun ls hl => ?_)
  refine lv_iload_n hx hb dJ6_bitCount_0f7a4_10 rfl (lv_at hl 0 rfl) ?_
  refine gq_ldcw (v := (858993459)) X qw_28_17 dJ6_bitCount_0f7a4_11 ?_
  refine lv_iand hx hb dJ6_bitCount_0f7a4_14 ?_
  refine lv_iload_n hx hb dJ6_bitCount_0f7a4_15 rfl (lv_at hl 0 rfl) ?_
  refine lv_iconst (v := (2)) hx hb dJ6_bitCount_0f7a4_16 (by decide) ?_
  refine lv_iushr hx hb dJ6_bitCount_0f7a4_17 rfl ?_
  refine gq_ldcw (v := (858993459)) X qw_28_17 dJ6_bitCount_0f7a4_18 ?_
  refine lv_iand hx hb dJ6_bitCount_0f7a4_21 ?_
  refine lv_iadd hx hb dJ6_bitCount_0f7a4_22 ?_
  refine lv_istore_n (lv' := [(0, .int (((v0 - ((((v0).toUInt32 >>> ((1 : Int32).toUInt32 &&& Int32.toUInt32 31)).toInt32) &&& 1431655765)) &&& 858993459) + ((((v0 - ((((v0).toUInt32 >>> ((1 : Int32).toUInt32 &&& Int32.toUInt32 31)).toInt32) &&& 1431655765)).toUInt32 >>> ((2 : Int32).toUInt32 &&& Int32.toUInt32 31)).toInt32) &&& 858993459)))]) hx hb dJ6_bitCount_0f7a4_23 rfl hl (by decide) rfl (fun ls hl => ?_)
  refine lv_iload_n hx hb dJ6_bitCount_0f7a4_24 rfl (lv_at hl 0 rfl) ?_
  refine lv_iload_n hx hb dJ6_bitCount_0f7a4_25 rfl (lv_at hl 0 rfl) ?_
  refine lv_iconst (v := (4)) hx hb dJ6_bitCount_0f7a4_26 (by decide) ?_
  refine lv_iushr hx hb dJ6_bitCount_0f7a4_27 rfl ?_
  refine lv_iadd hx hb dJ6_bitCount_0f7a4_28 ?_
  refine gq_ldcw (v := (252645135)) X qw_28_18 dJ6_bitCount_0f7a4_29 ?_
  refine lv_iand hx hb dJ6_bitCount_0f7a4_32 ?_
  refine lv_istore_n (lv' := [(0, .int (((((v0 - ((((v0).toUInt32 >>> ((1 : Int32).toUInt32 &&& Int32.toUInt32 31)).toInt32) &&& 1431655765)) &&& 858993459) + ((((v0 - ((((v0).toUInt32 >>> ((1 : Int32).toUInt32 &&& Int32.toUInt32 31)).toInt32) &&& 1431655765)).toUInt32 >>> ((2 : Int32).toUInt32 &&& Int32.toUInt32 31)).toInt32) &&& 858993459)) + (((((v0 - ((((v0).toUInt32 >>> ((1 : Int32).toUInt32 &&& Int32.toUInt32 31)).toInt32) &&& 1431655765)) &&& 858993459) + ((((v0 - ((((v0).toUInt32 >>> ((1 : Int32).toUInt32 &&& Int32.toUInt32 31)).toInt32) &&& 1431655765)).toUInt32 >>> ((2 : Int32).toUInt32 &&& Int32.toUInt32 31)).toInt32) &&& 858993459)).toUInt32 >>> ((4 : Int32).toUInt32 &&& Int32.toUInt32 31)).toInt32)) &&& 252645135))]) hx hb dJ6_bitCount_0f7a4_33 rfl hl (by decide) rfl (fun ls hl => ?_)
  refine lv_iload_n hx hb dJ6_bitCount_0f7a4_34 rfl (lv_at hl 0 rfl) ?_
  refine lv_iload_n hx hb dJ6_bitCount_0f7a4_35 rfl (lv_at hl 0 rfl) ?_
  refine lv_bipush (v := (8)) hx hb dJ6_bitCount_0f7a4_36 (by decide) ?_
  refine lv_iushr hx hb dJ6_bitCount_0f7a4_38 rfl ?_
  refine lv_iadd hx hb dJ6_bitCount_0f7a4_39 ?_
  refine lv_istore_n (lv' := [(0, .int ((((((v0 - ((((v0).toUInt32 >>> ((1 : Int32).toUInt32 &&& Int32.toUInt32 31)).toInt32) &&& 1431655765)) &&& 858993459) + ((((v0 - ((((v0).toUInt32 >>> ((1 : Int32).toUInt32 &&& Int32.toUInt32 31)).toInt32) &&& 1431655765)).toUInt32 >>> ((2 : Int32).toUInt32 &&& Int32.toUInt32 31)).toInt32) &&& 858993459)) + (((((v0 - ((((v0).toUInt32 >>> ((1 : Int32).toUInt32 &&& Int32.toUInt32 31)).toInt32) &&& 1431655765)) &&& 858993459) + ((((v0 - ((((v0).toUInt32 >>> ((1 : Int32).toUInt32 &&& Int32.toUInt32 31)).toInt32) &&& 1431655765)).toUInt32 >>> ((2 : Int32).toUInt32 &&& Int32.toUInt32 31)).toInt32) &&& 858993459)).toUInt32 >>> ((4 : Int32).toUInt32 &&& Int32.toUInt32 31)).toInt32)) &&& 252645135) + (((((((v0 - ((((v0).toUInt32 >>> ((1 : Int32).toUInt32 &&& Int32.toUInt32 31)).toInt32) &&& 1431655765)) &&& 858993459) + ((((v0 - ((((v0).toUInt32 >>> ((1 : Int32).toUInt32 &&& Int32.toUInt32 31)).toInt32) &&& 1431655765)).toUInt32 >>> ((2 : Int32).toUInt32 &&& Int32.toUInt32 31)).toInt32) &&& 858993459)) + (((((v0 - ((((v0).toUInt32 >>> ((1 : Int32).toUInt32 &&& Int32.toUInt32 31)).toInt32) &&& 1431655765)) &&& 858993459) + ((((v0 - ((((v0).toUInt32 >>> ((1 : Int32).toUInt32 &&& Int32.toUInt32 31)).toInt32) &&& 1431655765)).toUInt32 >>> ((2 : Int32).toUInt32 &&& Int32.toUInt32 31)).toInt32) &&& 858993459)).toUInt32 >>> ((4 : Int32).toUInt32 &&& Int32.toUInt32 31)).toInt32)) &&& 252645135).toUInt32 >>> ((8 : Int32).toUInt32 &&& Int32.toUInt32 31)).toInt32)))]) hx hb dJ6_bitCount_0f7a4_40 rfl hl (by decide) rfl (fun ls hl => ?_)
  refine lv_iload_n hx hb dJ6_bitCount_0f7a4_41 rfl (lv_at hl 0 rfl) ?_
  refine lv_iload_n hx hb dJ6_bitCount_0f7a4_42 rfl (lv_at hl 0 rfl) ?_
  refine lv_bipush (v := (16)) hx hb dJ6_bitCount_0f7a4_43 (by decide) ?_
  refine lv_iushr hx hb dJ6_bitCount_0f7a4_45 rfl ?_
  refine lv_iadd hx hb dJ6_bitCount_0f7a4_46 ?_
  refine lv_istore_n (lv' := [(0, .int (((((((v0 - ((((v0).toUInt32 >>> ((1 : Int32).toUInt32 &&& Int32.toUInt32 31)).toInt32) &&& 1431655765)) &&& 858993459) + ((((v0 - ((((v0).toUInt32 >>> ((1 : Int32).toUInt32 &&& Int32.toUInt32 31)).toInt32) &&& 1431655765)).toUInt32 >>> ((2 : Int32).toUInt32 &&& Int32.toUInt32 31)).toInt32) &&& 858993459)) + (((((v0 - ((((v0).toUInt32 >>> ((1 : Int32).toUInt32 &&& Int32.toUInt32 31)).toInt32) &&& 1431655765)) &&& 858993459) + ((((v0 - ((((v0).toUInt32 >>> ((1 : Int32).toUInt32 &&& Int32.toUInt32 31)).toInt32) &&& 1431655765)).toUInt32 >>> ((2 : Int32).toUInt32 &&& Int32.toUInt32 31)).toInt32) &&& 858993459)).toUInt32 >>> ((4 : Int32).toUInt32 &&& Int32.toUInt32 31)).toInt32)) &&& 252645135) + (((((((v0 - ((((v0).toUInt32 >>> ((1 : Int32).toUInt32 &&& Int32.toUInt32 31)).toInt32) &&& 1431655765)) &&& 858993459) + ((((v0 - ((((v0).toUInt32 >>> ((1 : Int32).toUInt32 &&& Int32.toUInt32 31)).toInt32) &&& 1431655765)).toUInt32 >>> ((2 : Int32).toUInt32 &&& Int32.toUInt32 31)).toInt32) &&& 858993459)) + (((((v0 - ((((v0).toUInt32 >>> ((1 : Int32).toUInt32 &&& Int32.toUInt32 31)).toInt32) &&& 1431655765)) &&& 858993459) + ((((v0 - ((((v0).toUInt32 >>> ((1 : Int32).toUInt32 &&& Int32.toUInt32 31)).toInt32) &&& 1431655765)).toUInt32 >>> ((2 : Int32).toUInt32 &&& Int32.toUInt32 31)).toInt32) &&& 858993459)).toUInt32 >>> ((4 : Int32).toUInt32 &&& Int32.toUInt32 31)).toInt32)) &&& 252645135).toUInt32 >>> ((8 : Int32).toUInt32 &&& Int32.toUInt32 31)).toInt32)) + ((((((((v0 - ((((v0).toUInt32 >>> ((1 : Int32).toUInt32 &&& Int32.toUInt32 31)).toInt32) &&& 1431655765)) &&& 858993459) + ((((v0 - ((((v0).toUInt32 >>> ((1 : Int32).toUInt32 &&& Int32.toUInt32 31)).toInt32) &&& 1431655765)).toUInt32 >>> ((2 : Int32).toUInt32 &&& Int32.toUInt32 31)).toInt32) &&& 858993459)) + (((((v0 - ((((v0).toUInt32 >>> ((1 : Int32).toUInt32 &&& Int32.toUInt32 31)).toInt32) &&& 1431655765)) &&& 858993459) + ((((v0 - ((((v0).toUInt32 >>> ((1 : Int32).toUInt32 &&& Int32.toUInt32 31)).toInt32) &&& 1431655765)).toUInt32 >>> ((2 : Int32).toUInt32 &&& Int32.toUInt32 31)).toInt32) &&& 858993459)).toUInt32 >>> ((4 : Int32).toUInt32 &&& Int32.toUInt32 31)).toInt32)) &&& 252645135) + (((((((v0 - ((((v0).toUInt32 >>> ((1 : Int32).toUInt32 &&& Int32.toUInt32 31)).toInt32) &&& 1431655765)) &&& 858993459) + ((((v0 - ((((v0).toUInt32 >>> ((1 : Int32).toUInt32 &&& Int32.toUInt32 31)).toInt32) &&& 1431655765)).toUInt32 >>> ((2 : Int32).toUInt32 &&& Int32.toUInt32 31)).toInt32) &&& 858993459)) + (((((v0 - ((((v0).toUInt32 >>> ((1 : Int32).toUInt32 &&& Int32.toUInt32 31)).toInt32) &&& 1431655765)) &&& 858993459) + ((((v0 - ((((v0).toUInt32 >>> ((1 : Int32).toUInt32 &&& Int32.toUInt32 31)).toInt32) &&& 1431655765)).toUInt32 >>> ((2 : Int32).toUInt32 &&& Int32.toUInt32 31)).toInt32) &&& 858993459)).toUInt32 >>> ((4 : Int32).toUInt32 &&& Int32.toUInt32 31)).toInt32)) &&& 252645135).toUInt32 >>> ((8 : Int32).toUInt32 &&& Int32.toUInt32 31)).toInt32)).toUInt32 >>> ((16 : Int32).toUInt32 &&& Int32.toUInt32 31)).toInt32)))]) hx hb dJ6_bitCount_0f7a4_47 rfl hl (by decide) rfl (fun ls hl => ?_)
  refine lv_iload_n hx hb dJ6_bitCount_0f7a4_48 rfl (lv_at hl 0 rfl) ?_
  refine lv_bipush (v := (63)) hx hb dJ6_bitCount_0f7a4_49 (by decide) ?_
  refine lv_iand hx hb dJ6_bitCount_0f7a4_51 ?_
  exact gq_iret X G h dJ6_bitCount_0f7a4_52
def f_X11_both (v1 : Int32) (v2 : Int32) (v3 : Int32) (M : Mm) (K : Int32 → Mm → Prop) : Prop := (f_X6_hasFolk 26 (v1) M (fun r2 M1 => ((((r2 : Int32) = 0 : Prop) → K (-1000001) M1) ∧ (¬ ((r2 : Int32) = 0 : Prop) → (f_X6_hasFolk 26 (v2) M1 (fun r5 M4 => ((((r5 : Int32) = 0 : Prop) → K (-1000001) M4) ∧ (¬ ((r5 : Int32) = 0 : Prop) → ((((v1 : Int32) = v2 : Prop) → K (-1000001) M4) ∧ (¬ ((v1 : Int32) = v2 : Prop) → (f_X11_isBit (v3) M4 (fun r9 M8 => ((((r9 : Int32) = 0 : Prop) → K (-1000001) M8) ∧ (¬ ((r9 : Int32) = 0 : Prop) → (vp_in (v1) 5 ∧ (vp_in (v2) 5 ∧ ((((v3 : Int32) = 0 : Prop) → K ((M8 (26 + 6) (v1 : Int32).toNatClampNeg) &&& (M8 (26 + 6) (v2 : Int32).toNatClampNeg)) M8) ∧ (¬ ((v3 : Int32) = 0 : Prop) → (f_J6_bitCount_0f7a4 ((((M8 (26 + 6) (v1 : Int32).toNatClampNeg) <<< (1 &&& 31)) &&& (M8 (26 + 6) (v2 : Int32).toNatClampNeg)) &&& ((M8 (26 + 6) (v1 : Int32).toNatClampNeg) ^^^ (-1))) M8 (fun r15 M14 => K (r15) M14))))))))))))))))))))
set_option maxHeartbeats 4000000 in
set_option maxRecDepth 100000 in
theorem m_X11_both (hI : gI 91 ad) {v1 : Int32} {v2 : Int32} {v3 : Int32} {M : Mm} {K : Int32 → Mm → Prop} (h : f_X11_both v1 v2 v3 M K) : gM l D cy 91 ad (shC ad cy) yX11_both cX11_both 6 (some .int) 1 21 [.ref (ad 0), .int (v1), .int (v2), .int (v3)] M (gQi D 91 ad (shC ad cy) K) := by
  refine gM.of (own := RX11) (lv := [(0, .ref (ad 0)), (1, .int (v1)), (2, .int (v2)), (3, .int (v3))]) (by decide) rfl hI (Nat.le_of_ble_eq_true rfl) rfl ?_
  intro p e s m below meth c ls H locs X G hl
  have hx := X.1
  have hb := X.2.1
  unfold f_X11_both at h
  refine lv_aload_n hx hb dX11_both_0 rfl (lv_at hl 0 rfl) ?_
  refine gf_PH_now X G qw_2_16 dX11_both_1 ?_
  refine lv_iload_n hx hb dX11_both_4 rfl (lv_at hl 1 rfl) ?_
  refine gq_calli G (gc_VN (C := RX6) (rest := []) X hl.1 G (m_X6_hasFolk hI isPap_26 h) cw_X6_hasFolk nm_34 qw_22_17 qw_22_18 (ob_Paper isPap_26) rfl rfl rfl rfl (Nat.le_of_ble_eq_true rfl) ⟨Nat.le_of_ble_eq_true rfl, Nat.le_of_ble_eq_true rfl⟩ ⟨Nat.le_refl _, Nat.le_refl _⟩ dX11_both_5) (fun r2 M1 H locs G h => ?_)
  refine lv_if_eq (tgt := 34) hx hb dX11_both_8 (by decide) (fun c3 => ?_) (fun c3 => ?_)
  · have h := h.1 c3
    refine gq_ldc (v := (-1000001)) X qw_6_5 dX11_both_34 ?_
    exact gq_iret X G h dX11_both_36
  have h := h.2 c3
  refine lv_aload_n hx hb dX11_both_11 rfl (lv_at hl 0 rfl) ?_
  refine gf_PH_now X G qw_2_16 dX11_both_12 ?_
  refine lv_iload_n hx hb dX11_both_15 rfl (lv_at hl 2 rfl) ?_
  refine gq_calli G (gc_VN (C := RX6) (rest := []) X hl.1 G (m_X6_hasFolk hI isPap_26 h) cw_X6_hasFolk nm_34 qw_22_17 qw_22_18 (ob_Paper isPap_26) rfl rfl rfl rfl (Nat.le_of_ble_eq_true rfl) ⟨Nat.le_of_ble_eq_true rfl, Nat.le_of_ble_eq_true rfl⟩ ⟨Nat.le_refl _, Nat.le_refl _⟩ dX11_both_16) (fun r5 M4 H locs G h => ?_)
  refine lv_if_eq (tgt := 34) hx hb dX11_both_19 (by decide) (fun c6 => ?_) (fun c6 => ?_)
  · have h := h.1 c6
    refine gq_ldc (v := (-1000001)) X qw_6_5 dX11_both_34 ?_
    exact gq_iret X G h dX11_both_36
  have h := h.2 c6
  refine lv_iload_n hx hb dX11_both_22 rfl (lv_at hl 1 rfl) ?_
  refine lv_iload_n hx hb dX11_both_23 rfl (lv_at hl 2 rfl) ?_
  refine lv_icmp_eq (tgt := 34) hx hb dX11_both_24 (by decide) (fun c7 => ?_) (fun c7 => ?_)
  · have h := h.1 c7
    refine gq_ldc (v := (-1000001)) X qw_6_5 dX11_both_34 ?_
    exact gq_iret X G h dX11_both_36
  have h := h.2 c7
  refine lv_iload_n hx hb dX11_both_27 rfl (lv_at hl 3 rfl) ?_
  refine gq_calli G (gc_S (rest := []) X hl.1 G (m_X11_isBit hI  h) cw_X11_isBit qw_21_2 qw_21_3 rfl rfl (Nat.le_of_ble_eq_true rfl) ⟨Nat.le_of_ble_eq_true rfl, Nat.le_of_ble_eq_true rfl⟩ ⟨Nat.le_refl _, Nat.le_refl _⟩ dX11_both_28) (fun r9 M8 H locs G h => ?_)
  refine lv_if_ne (tgt := 37) hx hb dX11_both_31 (by decide) (fun c10 => ?_) (fun c10 => ?_)
  · have h := h.2 c10
    refine lv_aload_n hx hb dX11_both_37 rfl (lv_at hl 0 rfl) ?_
    refine gf_PH_now X G qw_2_16 dX11_both_38 ?_
    refine gfN_Paper_knows X G isPap_26 nf_20 dX11_both_41 ?_
    refine lv_iload_n hx hb dX11_both_44 rfl (lv_at hl 1 rfl) ?_
    obtain ⟨q11, h⟩ := h
    refine gq_iald X G (ar_Paper_knows isPap_26) q11 dX11_both_45 ?_
    refine lv_istore (lv' := [(4, .int (M8 (26 + 6) (v1 : Int32).toNatClampNeg)), (0, .ref (ad 0)), (1, .int (v1)), (2, .int (v2)), (3, .int (v3))]) hx hb dX11_both_46 hl (by decide) rfl (fun ls hl => ?_)
    refine lv_aload_n hx hb dX11_both_48 rfl (lv_at hl 1 rfl) ?_
    refine gf_PH_now X G qw_2_16 dX11_both_49 ?_
    refine gfN_Paper_knows X G isPap_26 nf_20 dX11_both_52 ?_
    refine lv_iload_n hx hb dX11_both_55 rfl (lv_at hl 3 rfl) ?_
    obtain ⟨q12, h⟩ := h
    refine gq_iald X G (ar_Paper_knows isPap_26) q12 dX11_both_56 ?_
    refine lv_istore (lv' := [(5, .int (M8 (26 + 6) (v2 : Int32).toNatClampNeg)), (4, .int (M8 (26 + 6) (v1 : Int32).toNatClampNeg)), (0, .ref (ad 0)), (1, .int (v1)), (2, .int (v2)), (3, .int (v3))]) hx hb dX11_both_57 hl (by decide) rfl (fun ls hl => ?_)
    refine lv_iload_n hx hb dX11_both_59 rfl (lv_at hl 5 rfl) ?_
    refine lv_if_ne (tgt := 71) hx hb dX11_both_60 (by decide) (fun c13 => ?_) (fun c13 => ?_)
    · have h := h.2 c13
      refine lv_iload hx hb dX11_both_71 (lv_at hl 1 rfl) ?_
      refine lv_iconst (v := (1)) hx hb dX11_both_73 (by decide) ?_
      refine lv_ishl hx hb dX11_both_74 ?_
      refine lv_iload hx hb dX11_both_75 (lv_at hl 0 rfl) ?_
      refine lv_iand hx hb dX11_both_77 ?_
      refine lv_iload hx hb dX11_both_78 (lv_at hl 1 rfl) ?_
      refine lv_iconst (v := (-1)) hx hb dX11_both_80 (by decide) ?_
      refine lv_ixor hx hb dX11_both_81 ?_
      refine lv_iand hx hb dX11_both_82 ?_
      refine gq_calli G (gc_S (rest := []) X hl.1 G (m_J6_bitCount_0f7a4 hI  h) cw_J6_bitCount_0f7a4 qw_28_12 qw_28_13 rfl rfl (Nat.le_of_ble_eq_true rfl) ⟨Nat.le_of_ble_eq_true rfl, Nat.le_of_ble_eq_true rfl⟩ ⟨Nat.le_refl _, Nat.le_refl _⟩ dX11_both_83) (fun r15 M14 H locs G h => ?_)
      exact gq_iret X G h dX11_both_86
    have h := h.1 c13
    refine lv_iload hx hb dX11_both_63 (lv_at hl 1 rfl) ?_
    refine lv_iload hx hb dX11_both_65 (lv_at hl 0 rfl) ?_
    refine lv_iand hx hb dX11_both_67 ?_
    refine lv_goto (tgt := 86) hx hb dX11_both_68 (by decide) ?_
    exact gq_iret X G h dX11_both_86
  have h := h.1 c10
  refine gq_ldc (v := (-1000001)) X qw_6_5 dX11_both_34 ?_
  exact gq_iret X G h dX11_both_36
end GEN02
