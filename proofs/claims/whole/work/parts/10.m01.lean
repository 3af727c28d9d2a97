section GEN01
variable {l : Launch} {D : va_G} {cy : Nat → ClassId} {ad : Nat → Nat}
def f_X9_readInto_55 (K : Int32 → Mm → Prop) (v1 : Nat) (s0 : Int32) (M : Mm) : Prop := ((((s0 : Int32) = 0 : Prop) → ((s0 = 0 ∨ s0 = 1) ∧ K (s0) M)) ∧ (¬ ((s0 : Int32) = 0 : Prop) → (f_X6_seeWhatRises v1 M (fun M2 => ((s0 = 0 ∨ s0 = 1) ∧ K (s0) M2)))))
def f_X9_readInto_54 (K : Int32 → Mm → Prop) (v1 : Nat) (M : Mm) : Prop := f_X9_readInto_55 K (v1) (0) M
def f_X9_readInto (v1 : Nat) (M : Mm) (K : Int32 → Mm → Prop) : Prop := (f_X6_clear v1 M (fun M3 => (∀ M4 : Mm, M4 = gU M3 24 2 (0) → (∀ M6 : Mm, M6 = gU M4 24 4 (0) → (f_X9_step  M6 (fun M8 => (f_X9_readLaw v1 M8 (fun r10 M9 => ((((r10 : Int32) = 0 : Prop) → f_X9_readInto_54 K (v1) M9) ∧ (¬ ((r10 : Int32) = 0 : Prop) → (f_X9_readPicture v1 M9 (fun r13 M12 => ((((r13 : Int32) = 0 : Prop) → f_X9_readInto_54 K (v1) M12) ∧ (¬ ((r13 : Int32) = 0 : Prop) → (f_X9_readWalls v1 M12 (fun r16 M15 => ((((r16 : Int32) = 0 : Prop) → f_X9_readInto_54 K (v1) M15) ∧ (¬ ((r16 : Int32) = 0 : Prop) → (f_X9_readFolk v1 M15 (fun r19 M18 => ((((r19 : Int32) = 0 : Prop) → f_X9_readInto_54 K (v1) M18) ∧ (¬ ((r19 : Int32) = 0 : Prop) → f_X9_readInto_55 K (v1) (1) M18))))))))))))))))))))))
set_option maxHeartbeats 4000000 in
set_option maxRecDepth 100000 in
theorem m_X9_readInto (hI : gI 91 ad) {v1 : Nat} (hv1 : isPap v1) {M : Mm} {K : Int32 → Mm → Prop} (h : f_X9_readInto v1 M K) : gM l D cy 91 ad (shC ad cy) yX9_readInto cX9_readInto 3 (some .boolean) 5 107 [.ref (ad 24), .ref (ad v1)] M (gQi D 91 ad (shC ad cy) K) := by
  refine gM.of (own := RX9) (lv := [(0, .ref (ad 24)), (1, .ref (ad v1))]) (by decide) rfl hI (Nat.le_of_ble_eq_true rfl) rfl ?_
  intro p e s m below meth c ls H locs X G hl
  have hx := X.1
  have hb := X.2.1
  have hJ55 : ∀ (s0 : Int32) (M : Mm) (H : Heap) (locs : List Loc) (ls : Array Slot), gS D s 91 ad (shC ad cy) H locs M → lv_has ls 3 [(1, .ref (ad v1))] → f_X9_readInto_55 K v1 s0 M → gWk p l e 5 107 s m ([.ref (ad 24), .ref (ad v1)] : List Value).toArray below meth c H locs (gQi D 91 ad (shC ad cy) K) 91 ad 55 ls [.int (s0)] := by
    intro s0 M H locs ls G hl h
    unfold f_X9_readInto_55 at h
    refine lv_istore_n (lv' := [(2, .int (s0)), (1, .ref (ad v1))]) hx hb dX9_readInto_55 rfl hl (by decide) rfl (fun ls hl => ?_)
    refine lv_iload_n hx hb dX9_readInto_56 rfl (lv_at hl 0 rfl) ?_
    refine lv_if_eq (tgt := 64) hx hb dX9_readInto_57 (by decide) (fun c1 => ?_) (fun c1 => ?_)
    · have h := h.1 c1
      refine lv_iload_n hx hb dX9_readInto_64 rfl (lv_at hl 0 rfl) ?_
      exact gq_zret X G h.1 h.2 dX9_readInto_65
    have h := h.2 c1
    refine lv_aload_n hx hb dX9_readInto_60 rfl (lv_at hl 1 rfl) ?_
    refine gq_callv G (gc_VN (C := RX6) (rest := []) X hl.1 G (m_X6_seeWhatRises hI hv1 h) cw_X6_seeWhatRises nm_25 qw_13_11 qw_13_12 (ob_Paper hv1) rfl rfl rfl rfl (Nat.le_of_ble_eq_true rfl) ⟨Nat.le_of_ble_eq_true rfl, Nat.le_of_ble_eq_true rfl⟩ ⟨Nat.le_refl _, Nat.le_refl _⟩ dX9_readInto_61) (fun M2 H locs G h => ?_)
    refine lv_iload_n hx hb dX9_readInto_64 rfl (lv_at hl 0 rfl) ?_
    exact gq_zret X G h.1 h.2 dX9_readInto_65
  have hJ54 : ∀ (M : Mm) (H : Heap) (locs : List Loc) (ls : Array Slot), gS D s 91 ad (shC ad cy) H locs M → lv_has ls 3 [(1, .ref (ad v1))] → f_X9_readInto_54 K v1 M → gWk p l e 5 107 s m ([.ref (ad 24), .ref (ad v1)] : List Value).toArray below meth c H locs (gQi D 91 ad (shC ad cy) K) 91 ad 54 ls [] := by
    intro M H locs ls G hl h
    unfold f_X9_readInto_54 at h
    refine lv_iconst (v := (0)) hx hb dX9_readInto_54 (by decide) ?_
    exact hJ55  (0) M H locs ls G  (lv_sub hl [0] rfl) h
  unfold f_X9_readInto at h
  refine lv_aload_n hx hb dX9_readInto_0 rfl (lv_at hl 1 rfl) ?_
  refine gq_callv G (gc_VN (C := RX6) (rest := []) X hl.1 G (m_X6_clear hI hv1 h) cw_X6_clear nm_23 qw_10_23 qw_11_0 (ob_Paper hv1) rfl rfl rfl rfl (Nat.le_of_ble_eq_true rfl) ⟨Nat.le_of_ble_eq_true rfl, Nat.le_of_ble_eq_true rfl⟩ ⟨Nat.le_refl _, Nat.le_refl _⟩ dX9_readInto_1) (fun M3 H locs G h => ?_)
  refine lv_aload_n hx hb dX9_readInto_4 rfl (lv_at hl 0 rfl) ?_
  refine lv_iconst (v := (0)) hx hb dX9_readInto_5 (by decide) ?_
  refine gp_Tape_at X G qw_10_21 dX9_readInto_6 (fun M4 H locs e5 G => ?_)
  have h := h M4 e5
  refine lv_aload_n hx hb dX9_readInto_9 rfl (lv_at hl 0 rfl) ?_
  refine lv_iconst (v := (0)) hx hb dX9_readInto_10 (by decide) ?_
  refine gp_Tape_width X G qw_10_22 dX9_readInto_11 (fun M6 H locs e7 G => ?_)
  have h := h M6 e7
  refine lv_aload_n hx hb dX9_readInto_14 rfl (lv_at hl 0 rfl) ?_
  refine gq_callv G (gc_V (C := RX9) (rest := []) X hl.1 G (m_X9_step hI  h) cw_X9_step qw_11_9 qw_11_10 qw_11_11 ob_Tape rfl rfl rfl rfl (Nat.le_of_ble_eq_true rfl) ⟨Nat.le_of_ble_eq_true rfl, Nat.le_of_ble_eq_true rfl⟩ ⟨Nat.le_refl _, Nat.le_refl _⟩ dX9_readInto_15) (fun M8 H locs G h => ?_)
  refine lv_aload_n hx hb dX9_readInto_18 rfl (lv_at hl 0 rfl) ?_
  refine lv_aload_n hx hb dX9_readInto_19 rfl (lv_at hl 1 rfl) ?_
  refine gq_calli G (gc_V (C := RX9) (rest := []) X hl.1 G (m_X9_readLaw hI hv1 h) cw_X9_readLaw qw_11_23 qw_12_0 qw_12_1 ob_Tape rfl rfl rfl rfl (Nat.le_of_ble_eq_true rfl) ⟨Nat.le_of_ble_eq_true rfl, Nat.le_of_ble_eq_true rfl⟩ ⟨Nat.le_refl _, Nat.le_refl _⟩ dX9_readInto_20) (fun r10 M9 H locs G h => ?_)
  refine lv_if_eq (tgt := 54) hx hb dX9_readInto_23 (by decide) (fun c11 => ?_) (fun c11 => ?_)
  · have h := h.1 c11
    exact hJ54   M9 H locs ls G  (lv_sub hl [1] rfl) h
  have h := h.2 c11
  refine lv_aload_n hx hb dX9_readInto_26 rfl (lv_at hl 0 rfl) ?_
  refine lv_aload_n hx hb dX9_readInto_27 rfl (lv_at hl 1 rfl) ?_
  refine gq_calli G (gc_V (C := RX9) (rest := []) X hl.1 G (m_X9_readPicture hI hv1 h) cw_X9_readPicture qw_12_17 qw_12_18 qw_12_19 ob_Tape rfl rfl rfl rfl (Nat.le_of_ble_eq_true rfl) ⟨Nat.le_of_ble_eq_true rfl, Nat.le_of_ble_eq_true rfl⟩ ⟨Nat.le_refl _, Nat.le_refl _⟩ dX9_readInto_28) (fun r13 M12 H locs G h => ?_)
  refine lv_if_eq (tgt := 54) hx hb dX9_readInto_31 (by decide) (fun c14 => ?_) (fun c14 => ?_)
  · have h := h.1 c14
    exact hJ54   M12 H locs ls G  (lv_sub hl [1] rfl) h
  have h := h.2 c14
  refine lv_aload_n hx hb dX9_readInto_34 rfl (lv_at hl 0 rfl) ?_
  refine lv_aload_n hx hb dX9_readInto_35 rfl (lv_at hl 1 rfl) ?_
  refine gq_calli G (gc_V (C := RX9) (rest := []) X hl.1 G (m_X9_readWalls hI hv1 h) cw_X9_readWalls qw_12_21 qw_12_22 qw_12_23 ob_Tape rfl rfl rfl rfl (Nat.le_of_ble_eq_true rfl) ⟨Nat.le_of_ble_eq_true rfl, Nat.le_of_ble_eq_true rfl⟩ ⟨Nat.le_refl _, Nat.le_refl _⟩ dX9_readInto_36) (fun r16 M15 H locs G h => ?_)
  refine lv_if_eq (tgt := 54) hx hb dX9_readInto_39 (by decide) (fun c17 => ?_) (fun c17 => ?_)
  · have h := h.1 c17
    exact hJ54   M15 H locs ls G  (lv_sub hl [1] rfl) h
  have h := h.2 c17
  refine lv_aload_n hx hb dX9_readInto_42 rfl (lv_at hl 0 rfl) ?_
  refine lv_aload_n hx hb dX9_readInto_43 rfl (lv_at hl 1 rfl) ?_
  refine gq_calli G (gc_V (C := RX9) (rest := []) X hl.1 G (m_X9_readFolk hI hv1 h) cw_X9_readFolk qw_13_1 qw_13_2 qw_13_3 ob_Tape rfl rfl rfl rfl (Nat.le_of_ble_eq_true rfl) ⟨Nat.le_of_ble_eq_true rfl, Nat.le_of_ble_eq_true rfl⟩ ⟨Nat.le_refl _, Nat.le_refl _⟩ dX9_readInto_44) (fun r19 M18 H locs G h => ?_)
  refine lv_if_eq (tgt := 54) hx hb dX9_readInto_47 (by decide) (fun c20 => ?_) (fun c20 => ?_)
  · have h := h.1 c20
    exact hJ54   M18 H locs ls G  (lv_sub hl [1] rfl) h
  have h := h.2 c20
  refine lv_iconst (v := (1)) hx hb dX9_readInto_50 (by decide) ?_
  refine lv_goto (tgt := 55) hx hb dX9_readInto_51 (by decide) ?_
  exact hJ55  (1) M18 H locs ls G  (lv_sub hl [1] rfl) h
def f_X6_become (v0 : Nat) (v1 : Nat) (M : Mm) (K : Mm → Prop) : Prop := (∀ M1 : Mm, M1 = gU M v0 7 (M v1 7) → (∀ M3 : Mm, M3 = gU M1 v0 8 (M1 v1 8) → (∀ M5 : Mm, M5 = gU M3 v0 9 (M3 v1 9) → (∀ M7 : Mm, M7 = gU M5 v0 10 (M5 v1 10) → (∀ M9 : Mm, M9 = gU M7 v0 11 (M7 v1 11) → (∀ M11 : Mm, M11 = gU M9 v0 12 (M9 v1 12) → (∀ M13 : Mm, M13 = gU M11 v0 13 (M11 v1 13) → (∀ M15 : Mm, M15 = gCp M13 (v1 + 1) (v0 + 1) (0 : Int32).toNatClampNeg (0 : Int32).toNatClampNeg (24 : Int32).toNatClampNeg → (∀ M17 : Mm, M17 = gCp M15 (v1 + 2) (v0 + 2) (0 : Int32).toNatClampNeg (0 : Int32).toNatClampNeg (5 : Int32).toNatClampNeg → (∀ M19 : Mm, M19 = gCp M17 (v1 + 3) (v0 + 3) (0 : Int32).toNatClampNeg (0 : Int32).toNatClampNeg (5 : Int32).toNatClampNeg → (∀ M21 : Mm, M21 = gCp M19 (v1 + 4) (v0 + 4) (0 : Int32).toNatClampNeg (0 : Int32).toNatClampNeg (5 : Int32).toNatClampNeg → (∀ M23 : Mm, M23 = gCp M21 (v1 + 5) (v0 + 5) (0 : Int32).toNatClampNeg (0 : Int32).toNatClampNeg (5 : Int32).toNatClampNeg → (∀ M25 : Mm, M25 = gCp M23 (v1 + 6) (v0 + 6) (0 : Int32).toNatClampNeg (0 : Int32).toNatClampNeg (5 : Int32).toNatClampNeg → K M25)))))))))))))
set_option maxHeartbeats 4000000 in
set_option maxRecDepth 100000 in
theorem m_X6_become (hI : gI 91 ad) {v0 : Nat} (hv0 : isPap v0) {v1 : Nat} (hv1 : isPap v1) {M : Mm} {K : Mm → Prop} (h : f_X6_become v0 v1 M K) : gM l D cy 91 ad (shC ad cy) yX6_become cX6_become 2 none 1 64 [.ref (ad v0), .ref (ad v1)] M (gQv D 91 ad (shC ad cy) K) := by
  refine gM.of (own := RX6) (lv := [(0, .ref (ad v0)), (1, .ref (ad v1))]) (by decide) rfl hI (Nat.le_of_ble_eq_true rfl) rfl ?_
  intro p e s m below meth c ls H locs X G hl
  have hx := X.1
  have hb := X.2.1
  unfold f_X6_become at h
  refine lv_aload_n hx hb dX6_become_0 rfl (lv_at hl 0 rfl) ?_
  refine lv_aload_n hx hb dX6_become_1 rfl (lv_at hl 1 rfl) ?_
  refine gf_Paper_law X G hv1 qw_11_2 dX6_become_2 ?_
  refine gp_Paper_law X G hv0 qw_11_2 dX6_become_5 (fun M1 H locs e2 G => ?_)
  have h := h M1 e2
  refine lv_aload_n hx hb dX6_become_8 rfl (lv_at hl 0 rfl) ?_
  refine lv_aload_n hx hb dX6_become_9 rfl (lv_at hl 1 rfl) ?_
  refine gf_Paper_cells X G hv1 qw_11_3 dX6_become_10 ?_
  refine gp_Paper_cells X G hv0 qw_11_3 dX6_become_13 (fun M3 H locs e4 G => ?_)
  have h := h M3 e4
  refine lv_aload_n hx hb dX6_become_16 rfl (lv_at hl 0 rfl) ?_
  refine lv_aload_n hx hb dX6_become_17 rfl (lv_at hl 1 rfl) ?_
  refine gf_Paper_wallCount X G hv1 qw_11_4 dX6_become_18 ?_
  refine gp_Paper_wallCount X G hv0 qw_11_4 dX6_become_21 (fun M5 H locs e6 G => ?_)
  have h := h M5 e6
  refine lv_aload_n hx hb dX6_become_24 rfl (lv_at hl 0 rfl) ?_
  refine lv_aload_n hx hb dX6_become_25 rfl (lv_at hl 1 rfl) ?_
  refine gf_Paper_folkCount X G hv1 qw_11_5 dX6_become_26 ?_
  refine gp_Paper_folkCount X G hv0 qw_11_5 dX6_become_29 (fun M7 H locs e8 G => ?_)
  have h := h M7 e8
  refine lv_aload_n hx hb dX6_become_32 rfl (lv_at hl 0 rfl) ?_
  refine lv_aload_n hx hb dX6_become_33 rfl (lv_at hl 1 rfl) ?_
  refine gf_Paper_rising X G hv1 qw_11_6 dX6_become_34 ?_
  refine gp_Paper_rising X G hv0 qw_11_6 dX6_become_37 (fun M9 H locs e10 G => ?_)
  have h := h M9 e10
  refine lv_aload_n hx hb dX6_become_40 rfl (lv_at hl 0 rfl) ?_
  refine lv_aload_n hx hb dX6_become_41 rfl (lv_at hl 1 rfl) ?_
  refine gf_Paper_faded X G hv1 qw_11_7 dX6_become_42 ?_
  refine gp_Paper_faded X G hv0 qw_11_7 dX6_become_45 (fun M11 H locs e12 G => ?_)
  have h := h M11 e12
  refine lv_aload_n hx hb dX6_become_48 rfl (lv_at hl 0 rfl) ?_
  refine lv_aload_n hx hb dX6_become_49 rfl (lv_at hl 1 rfl) ?_
  refine gf_Paper_day X G hv1 qw_11_8 dX6_become_50 ?_
  refine gp_Paper_day X G hv0 qw_11_8 dX6_become_53 (fun M13 H locs e14 G => ?_)
  have h := h M13 e14
  refine lv_aload_n hx hb dX6_become_56 rfl (lv_at hl 1 rfl) ?_
  refine gf_Paper_figures X G hv1 qw_4_8 dX6_become_57 ?_
  refine lv_iconst (v := (0)) hx hb dX6_become_60 (by decide) ?_
  refine lv_aload_n hx hb dX6_become_61 rfl (lv_at hl 0 rfl) ?_
  refine gf_Paper_figures X G hv0 qw_4_8 dX6_become_62 ?_
  refine lv_iconst (v := (0)) hx hb dX6_become_65 (by decide) ?_
  refine lv_bipush (v := (24)) hx hb dX6_become_66 (by decide) ?_
  refine gq_copy (rest := []) X hl.1 G (ar_Paper_figures hv1) (ar_Paper_figures hv0) qw_13_17 qw_8_23 qw_9_0 qw_9_1 (by unfold gCk; decide) (Nat.le_of_ble_eq_true rfl) (Nat.le_of_ble_eq_true rfl) dX6_become_68 (fun M15 H locs e16 G => ?_)
  have h := h M15 e16
  refine lv_aload_n hx hb dX6_become_71 rfl (lv_at hl 1 rfl) ?_
  refine gf_Paper_walls X G hv1 qw_4_9 dX6_become_72 ?_
  refine lv_iconst (v := (0)) hx hb dX6_become_75 (by decide) ?_
  refine lv_aload_n hx hb dX6_become_76 rfl (lv_at hl 0 rfl) ?_
  refine gf_Paper_walls X G hv0 qw_4_9 dX6_become_77 ?_
  refine lv_iconst (v := (0)) hx hb dX6_become_80 (by decide) ?_
  refine lv_iconst (v := (5)) hx hb dX6_become_81 (by decide) ?_
  refine gq_copy (rest := []) X hl.1 G (ar_Paper_walls hv1) (ar_Paper_walls hv0) qw_13_17 qw_8_23 qw_9_0 qw_9_1 (by unfold gCk; decide) (Nat.le_of_ble_eq_true rfl) (Nat.le_of_ble_eq_true rfl) dX6_become_82 (fun M17 H locs e18 G => ?_)
  have h := h M17 e18
  refine lv_aload_n hx hb dX6_become_85 rfl (lv_at hl 1 rfl) ?_
  refine gf_Paper_kinds X G hv1 qw_4_10 dX6_become_86 ?_
  refine lv_iconst (v := (0)) hx hb dX6_become_89 (by decide) ?_
  refine lv_aload_n hx hb dX6_become_90 rfl (lv_at hl 0 rfl) ?_
  refine gf_Paper_kinds X G hv0 qw_4_10 dX6_become_91 ?_
  refine lv_iconst (v := (0)) hx hb dX6_become_94 (by decide) ?_
  refine lv_iconst (v := (5)) hx hb dX6_become_95 (by decide) ?_
  refine gq_copy (rest := []) X hl.1 G (ar_Paper_kinds hv1) (ar_Paper_kinds hv0) qw_13_17 qw_8_23 qw_9_0 qw_9_1 (by unfold gCk; decide) (Nat.le_of_ble_eq_true rfl) (Nat.le_of_ble_eq_true rfl) dX6_become_96 (fun M19 H locs e20 G => ?_)
  have h := h M19 e20
  refine lv_aload_n hx hb dX6_become_99 rfl (lv_at hl 1 rfl) ?_
  refine gf_Paper_houses X G hv1 qw_4_11 dX6_become_100 ?_
  refine lv_iconst (v := (0)) hx hb dX6_become_103 (by decide) ?_
  refine lv_aload_n hx hb dX6_become_104 rfl (lv_at hl 0 rfl) ?_
  refine gf_Paper_houses X G hv0 qw_4_11 dX6_become_105 ?_
  refine lv_iconst (v := (0)) hx hb dX6_become_108 (by decide) ?_
  refine lv_iconst (v := (5)) hx hb dX6_become_109 (by decide) ?_
  refine gq_copy (rest := []) X hl.1 G (ar_Paper_houses hv1) (ar_Paper_houses hv0) qw_13_17 qw_8_23 qw_9_0 qw_9_1 (by unfold gCk; decide) (Nat.le_of_ble_eq_true rfl) (Nat.le_of_ble_eq_true rfl) dX6_become_110 (fun M21 H locs e22 G => ?_)
  have h := h M21 e22
  refine lv_aload_n hx hb dX6_become_113 rfl (lv_at hl 1 rfl) ?_
  refine gf_Paper_ways X G hv1 qw_4_12 dX6_become_114 ?_
  refine lv_iconst (v := (0)) hx hb dX6_become_117 (by decide) ?_
  refine lv_aload_n hx hb dX6_become_118 rfl (lv_at hl 0 rfl) ?_
  refine gf_Paper_ways X G hv0 qw_4_12 dX6_become_119 ?_
  refine lv_iconst (v := (0)) hx hb dX6_become_122 (by decide) ?_
  refine lv_iconst (v := (5)) hx hb dX6_become_123 (by decide) ?_
  refine gq_copy (rest := []) X hl.1 G (ar_Paper_ways hv1) (ar_Paper_ways hv0) qw_13_17 qw_8_23 qw_9_0 qw_9_1 (by unfold gCk; decide) (Nat.le_of_ble_eq_true rfl) (Nat.le_of_ble_eq_true rfl) dX6_become_124 (fun M23 H locs e24 G => ?_)
  have h := h M23 e24
  refine lv_aload_n hx hb dX6_become_127 rfl (lv_at hl 1 rfl) ?_
  refine gf_Paper_knows X G hv1 qw_4_13 dX6_become_128 ?_
  refine lv_iconst (v := (0)) hx hb dX6_become_131 (by decide) ?_
  refine lv_aload_n hx hb dX6_become_132 rfl (lv_at hl 0 rfl) ?_
  refine gf_Paper_knows X G hv0 qw_4_13 dX6_become_133 ?_
  refine lv_iconst (v := (0)) hx hb dX6_become_136 (by decide) ?_
  refine lv_iconst (v := (5)) hx hb dX6_become_137 (by decide) ?_
  refine gq_copy (rest := []) X hl.1 G (ar_Paper_knows hv1) (ar_Paper_knows hv0) qw_13_17 qw_8_23 qw_9_0 qw_9_1 (by unfold gCk; decide) (Nat.le_of_ble_eq_true rfl) (Nat.le_of_ble_eq_true rfl) dX6_become_138 (fun M25 H locs e26 G => ?_)
  have h := h M25 e26
  exact gq_vret X G h dX6_become_141
def f_X11_forgetActs  (M : Mm) (K : Mm → Prop) : Prop := (∀ M1 : Mm, M1 = gU M 0 9 (0) → (∀ M3 : Mm, M3 = gU M1 0 10 (0) → K M3))
set_option maxHeartbeats 4000000 in
set_option maxRecDepth 100000 in
theorem m_X11_forgetActs (hI : gI 91 ad)  {M : Mm} {K : Mm → Prop} (h : f_X11_forgetActs  M K) : gM l D cy 91 ad (shC ad cy) yX11_forgetActs cX11_forgetActs 1 none 0 0 [.ref (ad 0)] M (gQv D 91 ad (shC ad cy) K) := by
  refine gM.of (own := RX11) (lv := [(0, .ref (ad 0))]) (by decide) rfl hI (Nat.le_of_ble_eq_true rfl) rfl ?_
  intro p e s m below meth c ls H locs X G hl
  have hx := X.1
  have hb := X.2.1
  unfold f_X11_forgetActs at h
  refine lv_aload_n hx hb dX11_forgetActs_0 rfl (lv_at hl 0 rfl) ?_
  refine lv_iconst (v := (0)) hx hb dX11_forgetActs_1 (by decide) ?_
  refine gp_PH_actsKept X G qw_13_22 dX11_forgetActs_2 (fun M1 H locs e2 G => ?_)
  have h := h M1 e2
  refine lv_aload_n hx hb dX11_forgetActs_5 rfl (lv_at hl 0 rfl) ?_
  refine lv_iconst (v := (0)) hx hb dX11_forgetActs_6 (by decide) ?_
  refine gp_PH_nextAct X G qw_13_23 dX11_forgetActs_7 (fun M3 H locs e4 G => ?_)
  have h := h M3 e4
  exact gq_vret X G h dX11_forgetActs_10
def f_X11_paper  (M : Mm) (K : Int32 → Mm → Prop) : Prop := (f_X9_readInto 33 M (fun r2 M1 => (∀ M3 : Mm, M3 = gU M1 24 1 (0) → ((((r2 : Int32) = 0 : Prop) → (∀ M8 : Mm, M8 = gU M3 0 12 (M3 24 6) → K ((-1000100) - (M8 24 7)) M8)) ∧ (¬ ((r2 : Int32) = 0 : Prop) → (f_X6_become 26 33 M3 (fun M6 => (f_X11_forgetActs  M6 (fun M7 => K (M7 26 8) M7)))))))))
set_option maxHeartbeats 4000000 in
set_option maxRecDepth 100000 in
theorem m_X11_paper (hI : gI 91 ad)  {M : Mm} {K : Int32 → Mm → Prop} (h : f_X11_paper  M K) : gM l D cy 91 ad (shC ad cy) yX11_paper cX11_paper 2 (some .int) 6 129 [.ref (ad 0)] M (gQi D 91 ad (shC ad cy) K) := by
  refine gM.of (own := RX11) (lv := [(0, .ref (ad 0))]) (by decide) rfl hI (Nat.le_of_ble_eq_true rfl) rfl ?_
  intro p e s m below meth c ls H locs X G hl
  have hx := X.1
  have hb := X.2.1
  unfold f_X11_paper at h
  refine lv_aload_n hx hb dX11_paper_0 rfl (lv_at hl 0 rfl) ?_
  refine gf_PH_tape X G qw_2_12 dX11_paper_1 ?_
  refine lv_aload_n hx hb dX11_paper_4 rfl (lv_at hl 0 rfl) ?_
  refine gf_PH_draft X G qw_2_17 dX11_paper_5 ?_
  refine gq_calli G (gc_VN (C := RX9) (rest := []) X hl.1 G (m_X9_readInto hI isPap_33 h) cw_X9_readInto nm_22 qw_10_18 qw_10_19 ob_Tape rfl rfl rfl rfl (Nat.le_of_ble_eq_true rfl) ⟨Nat.le_of_ble_eq_true rfl, Nat.le_of_ble_eq_true rfl⟩ ⟨Nat.le_refl _, Nat.le_refl _⟩ dX11_paper_8) (fun r2 M1 H locs G h => ?_)
  refine lv_istore_n (lv' := [(1, .int (r2)), (0, .ref (ad 0))]) hx hb dX11_paper_11 rfl hl (by decide) rfl (fun ls hl => ?_)
  refine lv_aload_n hx hb dX11_paper_12 rfl (lv_at hl 1 rfl) ?_
  refine gf_PH_tape X G qw_2_12 dX11_paper_13 ?_
  refine lv_iconst (v := (0)) hx hb dX11_paper_16 (by decide) ?_
  refine gpN_Tape_length X G nf_5 dX11_paper_17 (fun M3 H locs e4 G => ?_)
  have h := h M3 e4
  refine lv_iload_n hx hb dX11_paper_20 rfl (lv_at hl 0 rfl) ?_
  refine lv_if_ne (tgt := 46) hx hb dX11_paper_21 (by decide) (fun c5 => ?_) (fun c5 => ?_)
  · have h := h.2 c5
    refine lv_aload_n hx hb dX11_paper_46 rfl (lv_at hl 1 rfl) ?_
    refine gf_PH_now X G qw_2_16 dX11_paper_47 ?_
    refine lv_aload_n hx hb dX11_paper_50 rfl (lv_at hl 1 rfl) ?_
    refine gf_PH_draft X G qw_2_17 dX11_paper_51 ?_
    refine gq_callv G (gc_VN (C := RX6) (rest := []) X hl.1 G (m_X6_become hI isPap_26 isPap_33 h) cw_X6_become nm_26 qw_13_14 qw_13_15 (ob_Paper isPap_26) rfl rfl rfl rfl (Nat.le_of_ble_eq_true rfl) ⟨Nat.le_of_ble_eq_true rfl, Nat.le_of_ble_eq_true rfl⟩ ⟨Nat.le_refl _, Nat.le_refl _⟩ dX11_paper_54) (fun M6 H locs G h => ?_)
    refine lv_aload_n hx hb dX11_paper_57 rfl (lv_at hl 1 rfl) ?_
    refine gq_callv G (gc_V (C := RX11) (rest := []) X hl.1 G (m_X11_forgetActs hI  h) cw_X11_forgetActs qw_13_18 qw_13_19 qw_13_20 ob_PH rfl rfl rfl rfl (Nat.le_of_ble_eq_true rfl) ⟨Nat.le_of_ble_eq_true rfl, Nat.le_of_ble_eq_true rfl⟩ ⟨Nat.le_refl _, Nat.le_refl _⟩ dX11_paper_58) (fun M7 H locs G h => ?_)
    refine lv_aload_n hx hb dX11_paper_61 rfl (lv_at hl 1 rfl) ?_
    refine gf_PH_now X G qw_2_16 dX11_paper_62 ?_
    refine gfN_Paper_cells X G isPap_26 nf_26 dX11_paper_65 ?_
    exact gq_iret X G h dX11_paper_68
  have h := h.1 c5
  refine lv_aload_n hx hb dX11_paper_24 rfl (lv_at hl 1 rfl) ?_
  refine lv_aload_n hx hb dX11_paper_25 rfl (lv_at hl 1 rfl) ?_
  refine gf_PH_tape X G qw_2_12 dX11_paper_26 ?_
  refine gfN_Tape_faultNumber X G nf_6 dX11_paper_29 ?_
  refine gp_PH_latestFault X G qw_10_16 dX11_paper_32 (fun M8 H locs e9 G => ?_)
  have h := h M8 e9
  refine gq_ldc (v := (-1000100)) X qw_10_17 dX11_paper_35 ?_
  refine lv_aload_n hx hb dX11_paper_37 rfl (lv_at hl 1 rfl) ?_
  refine gf_PH_tape X G qw_2_12 dX11_paper_38 ?_
  refine gfN_Tape_faultPlace X G nf_7 dX11_paper_41 ?_
  refine lv_isub hx hb dX11_paper_44 ?_
  exact gq_iret X G h dX11_paper_45
def f_X11_fault  (M : Mm) (K : Int32 → Mm → Prop) : Prop := K (M 0 12) M
set_option maxHeartbeats 4000000 in
set_option maxRecDepth 100000 in
theorem m_X11_fault (hI : gI 91 ad)  {M : Mm} {K : Int32 → Mm → Prop} (h : f_X11_fault  M K) : gM l D cy 91 ad (shC ad cy) yX11_fault cX11_fault 1 (some .int) 0 0 [.ref (ad 0)] M (gQi D 91 ad (shC ad cy) K) := by
  refine gM.of (own := RX11) (lv := [(0, .ref (ad 0))]) (by decide) rfl hI (Nat.le_of_ble_eq_true rfl) rfl ?_
  intro p e s m below meth c ls H locs X G hl
  have hx := X.1
  have hb := X.2.1
  unfold f_X11_fault at h
  refine lv_aload_n hx hb dX11_fault_0 rfl (lv_at hl 0 rfl) ?_
  refine gf_PH_latestFault X G qw_10_16 dX11_fault_1 ?_
  exact gq_iret X G h dX11_fault_4
def f_X11_noPaper  (M : Mm) (K : Int32 → Mm → Prop) : Prop := ((((M 26 8 : Int32) = 0 : Prop) → K 1 M) ∧ (¬ ((M 26 8 : Int32) = 0 : Prop) → K 0 M))
set_option maxHeartbeats 4000000 in
set_option maxRecDepth 100000 in
theorem m_X11_noPaper (hI : gI 91 ad)  {M : Mm} {K : Int32 → Mm → Prop} (h : f_X11_noPaper  M K) : gM l D cy 91 ad (shC ad cy) yX11_noPaper cX11_noPaper 1 (some .boolean) 0 0 [.ref (ad 0)] M (gQi D 91 ad (shC ad cy) K) := by
  refine gM.of (own := RX11) (lv := [(0, .ref (ad 0))]) (by decide) rfl hI (Nat.le_of_ble_eq_true rfl) rfl ?_
  intro p e s m below meth c ls H locs X G hl
  have hx := X.1
  have hb := X.2.1
  unfold f_X11_noPaper at h
  refine lv_aload_n hx hb dX11_noPaper_0 rfl (lv_at hl 0 rfl) ?_
  refine gf_PH_now X G qw_2_16 dX11_noPaper_1 ?_
  refine gfN_Paper_cells X G isPap_26 nf_26 dX11_noPaper_4 ?_
  refine lv_if_ne (tgt := 14) hx hb dX11_noPaper_7 (by decide) (fun c1 => ?_) (fun c1 => ?_)
  · have h := h.2 c1
    refine lv_iconst (v := (0)) hx hb dX11_noPaper_14 (by decide) ?_
    exact gq_zret X G (Or.inl rfl) h dX11_noPaper_15
  have h := h.1 c1
  refine lv_iconst (v := (1)) hx hb dX11_noPaper_10 (by decide) ?_
  refine lv_goto (tgt := 15) hx hb dX11_noPaper_11 (by decide) ?_
  exact gq_zret X G (Or.inr rfl) h dX11_noPaper_15
def l_X6_knownByAnybody_4 (K : Int32 → Mm → Prop) (v0 : Nat) : Nat → Int32 → Int32 → Mm → Prop
  | 0, _, _, _ => False
  | n + 1, v1, v2, M => ((((M v0 10 : Int32) ≤ v2 : Prop) → K (v1) M) ∧ (¬ ((M v0 10 : Int32) ≤ v2 : Prop) → (vp_in (v2) 5 ∧ (l_X6_knownByAnybody_4 K v0 n) (v1 ||| (M (v0 + 6) (v2 : Int32).toNatClampNeg)) (v2 + 1) M)))
def f_X6_knownByAnybody (v0 : Nat) (M : Mm) (K : Int32 → Mm → Prop) : Prop := ∃ z, l_X6_knownByAnybody_4 K (v0) z (0) (0) M
set_option maxHeartbeats 4000000 in
set_option maxRecDepth 100000 in
theorem m_X6_knownByAnybody (hI : gI 91 ad) {v0 : Nat} (hv0 : isPap v0) {M : Mm} {K : Int32 → Mm → Prop} (h : f_X6_knownByAnybody v0 M K) : gM l D cy 91 ad (shC ad cy) yX6_knownByAnybody cX6_knownByAnybody 3 (some .int) 0 0 [.ref (ad v0)] M (gQi D 91 ad (shC ad cy) K) := by
  refine gM.of (own := RX6) (lv := [(0, .ref (ad v0))]) (by decide) rfl hI (Nat.le_of_ble_eq_true rfl) rfl ?_
  intro p e s m below meth c ls H locs X G hl
  have hx := X.1
  have hb := X.2.1
  have hL4 : ∀ (n : Nat) (v1 : Int32) (v2 : Int32) (M : Mm) (H : Heap) (locs : List Loc) (ls : Array Slot), gS D s 91 ad (shC ad cy) H locs M → lv_has ls 3 [(0, .ref (ad v0)), (1, .int (v1)), (2, .int (v2))] → l_X6_knownByAnybody_4 K v0 n v1 v2 M → gWk p l e 0 0 s m ([.ref (ad v0)] : List Value).toArray below meth c H locs (gQi D 91 ad (shC ad cy) K) 91 ad 4 ls [] := by
    intro n4
    induction n4 with
    | zero =>
      intro v1 v2 M H locs ls G hl h
      exact False.elim h
    | succ n4 ih4 =>
      intro v1 v2 M H locs ls G hl h
      rw [l_X6_knownByAnybody_4] at h
      refine lv_iload_n hx hb dX6_knownByAnybody_4 rfl (lv_at hl 2 rfl) ?_
      refine lv_aload_n hx hb dX6_knownByAnybody_5 rfl (lv_at hl 0 rfl) ?_
      refine gf_Paper_folkCount X G hv0 qw_11_5 dX6_knownByAnybody_6 ?_
      refine lv_icmp_ge (tgt := 27) hx hb dX6_knownByAnybody_9 (by decide) (fun c1 => ?_) (fun c1 => ?_)
      · have h := h.1 c1
        refine lv_iload_n hx hb dX6_knownByAnybody_27 rfl (lv_at hl 1 rfl) ?_
        exact gq_iret X G h dX6_knownByAnybody_28
      have h := h.2 c1
      refine lv_iload_n hx hb dX6_knownByAnybody_12 rfl (lv_at hl 1 rfl) ?_
      refine lv_aload_n hx hb dX6_knownByAnybody_13 rfl (lv_at hl 0 rfl) ?_
      refine gf_Paper_knows X G hv0 qw_4_13 dX6_knownByAnybody_14 ?_
      refine lv_iload_n hx hb dX6_knownByAnybody_17 rfl (lv_at hl 2 rfl) ?_
      obtain ⟨q2, h⟩ := h
      refine gq_iald X G (ar_Paper_knows hv0) q2 dX6_knownByAnybody_18 ?_
      refine lv_ior hx hb dX6_knownByAnybody_19 ?_
      refine lv_istore_n (lv' := [(1, .int (v1 ||| (M (v0 + 6) (v2 : Int32).toNatClampNeg))), (0, .ref (ad v0)), (2, .int (v2))]) hx hb dX6_knownByAnybody_20 rfl hl (by decide) rfl (fun ls hl => ?_)
      refine lv_iinc (v := v2 + 1) (lv' := [(2, .int (v2 + 1)), (1, .int (v1 ||| (M (v0 + 6) (v2 : Int32).toNatClampNeg))), (0, .ref (ad v0))]) hx hb dX6_knownByAnybody_21 hl (k := 2) rfl rfl (by decide) rfl (fun ls hl => ?_)
      refine lv_goto (tgt := 4) hx hb dX6_knownByAnybody_24 (by decide) ?_
      exact ih4 (v1 ||| (M (v0 + 6) (v2 : Int32).toNatClampNeg)) (v2 + 1) M H locs ls G  (lv_sub hl [2, 1, 0] rfl) h
  unfold f_X6_knownByAnybody at h
  refine lv_iconst (v := (0)) hx hb dX6_knownByAnybody_0 (by decide) ?_
  refine lv_istore_n (lv' := [(1, .int (0)), (0, .ref (ad v0))]) hx hb dX6_knownByAnybody_1 rfl hl (by decide) rfl (fun ls hl => ?_)
  refine lv_iconst (v := (0)) hx hb dX6_knownByAnybody_2 (by decide) ?_
  refine lv_istore_n (lv' := [(2, .int (0)), (1, .int (0)), (0, .ref (ad v0))]) hx hb dX6_knownByAnybody_3 rfl hl (by decide) rfl (fun ls hl => ?_)
  obtain ⟨n3, h⟩ := h
  exact hL4   n3 (0) (0) M H locs ls G  (lv_sub hl [2, 1, 0] rfl) h
def f_X6_getScene (v0 : Nat) (v1 : Nat) (M : Mm) (K : Mm → Prop) : Prop := (∀ M2 : Mm, M2 = gU M v1 (0 : Int32).toNatClampNeg (M v0 13) → (∀ M4 : Mm, M4 = gU M2 v1 (1 : Int32).toNatClampNeg (M2 v0 12) → (∀ M6 : Mm, M6 = gCp M4 (v0 + 2) v1 (0 : Int32).toNatClampNeg (2 : Int32).toNatClampNeg (5 : Int32).toNatClampNeg → (∀ M8 : Mm, M8 = gCp M6 (v0 + 4) v1 (0 : Int32).toNatClampNeg (7 : Int32).toNatClampNeg (5 : Int32).toNatClampNeg → (∀ M10 : Mm, M10 = gCp M8 (v0 + 5) v1 (0 : Int32).toNatClampNeg (12 : Int32).toNatClampNeg (5 : Int32).toNatClampNeg → (∀ M12 : Mm, M12 = gCp M10 (v0 + 6) v1 (0 : Int32).toNatClampNeg (17 : Int32).toNatClampNeg (5 : Int32).toNatClampNeg → K M12))))))
set_option maxHeartbeats 4000000 in
set_option maxRecDepth 100000 in
theorem m_X6_getScene (hI : gI 91 ad) {v0 : Nat} (hv0 : isPap v0) {v1 : Nat} (hv1 : isAct v1) {M : Mm} {K : Mm → Prop} (h : f_X6_getScene v0 v1 M K) : gM l D cy 91 ad (shC ad cy) yX6_getScene cX6_getScene 2 none 1 64 [.ref (ad v0), .ref (ad v1)] M (gQv D 91 ad (shC ad cy) K) := by
  refine gM.of (own := RX6) (lv := [(0, .ref (ad v0)), (1, .ref (ad v1))]) (by decide) rfl hI (Nat.le_of_ble_eq_true rfl) rfl ?_
  intro p e s m below meth c ls H locs X G hl
  have hx := X.1
  have hb := X.2.1
  unfold f_X6_getScene at h
  refine lv_aload_n hx hb dX6_getScene_0 rfl (lv_at hl 1 rfl) ?_
  refine lv_ifnull hx hb dX6_getScene_1 ?_
  refine lv_aload_n hx hb dX6_getScene_4 rfl (lv_at hl 1 rfl) ?_
  refine gq_alenC (v := 22) X G (ar_act hv1) (by decide) dX6_getScene_5 ?_
  refine lv_bipush (v := (22)) hx hb dX6_getScene_6 (by decide) ?_
  refine lv_icmp_ge (tgt := 12) hx hb dX6_getScene_8 (by decide) (fun c1 => ?_) (fun c1 => ?_)
  · refine lv_aload_n hx hb dX6_getScene_12 rfl (lv_at hl 1 rfl) ?_
    refine lv_iconst (v := (0)) hx hb dX6_getScene_13 (by decide) ?_
    refine lv_aload_n hx hb dX6_getScene_14 rfl (lv_at hl 0 rfl) ?_
    refine gf_Paper_day X G hv0 qw_11_8 dX6_getScene_15 ?_
    refine gq_iast X G (ar_act hv1) (by unfold vp_in; decide) dX6_getScene_18 (fun M2 H locs e3 G => ?_)
    have h := h M2 e3
    refine lv_aload_n hx hb dX6_getScene_19 rfl (lv_at hl 1 rfl) ?_
    refine lv_iconst (v := (1)) hx hb dX6_getScene_20 (by decide) ?_
    refine lv_aload_n hx hb dX6_getScene_21 rfl (lv_at hl 0 rfl) ?_
    refine gf_Paper_faded X G hv0 qw_11_7 dX6_getScene_22 ?_
    refine gq_iast X G (ar_act hv1) (by unfold vp_in; decide) dX6_getScene_25 (fun M4 H locs e5 G => ?_)
    have h := h M4 e5
    refine lv_aload_n hx hb dX6_getScene_26 rfl (lv_at hl 0 rfl) ?_
    refine gf_Paper_walls X G hv0 qw_4_9 dX6_getScene_27 ?_
    refine lv_iconst (v := (0)) hx hb dX6_getScene_30 (by decide) ?_
    refine lv_aload_n hx hb dX6_getScene_31 rfl (lv_at hl 1 rfl) ?_
    refine lv_iconst (v := (2)) hx hb dX6_getScene_32 (by decide) ?_
    refine lv_iconst (v := (5)) hx hb dX6_getScene_33 (by decide) ?_
    refine gq_copy (rest := []) X hl.1 G (ar_Paper_walls hv0) (ar_act hv1) qw_13_17 qw_8_23 qw_9_0 qw_9_1 (by unfold gCk; decide) (Nat.le_of_ble_eq_true rfl) (Nat.le_of_ble_eq_true rfl) dX6_getScene_34 (fun M6 H locs e7 G => ?_)
    have h := h M6 e7
    refine lv_aload_n hx hb dX6_getScene_37 rfl (lv_at hl 0 rfl) ?_
    refine gf_Paper_houses X G hv0 qw_4_11 dX6_getScene_38 ?_
    refine lv_iconst (v := (0)) hx hb dX6_getScene_41 (by decide) ?_
    refine lv_aload_n hx hb dX6_getScene_42 rfl (lv_at hl 1 rfl) ?_
    refine lv_bipush (v := (7)) hx hb dX6_getScene_43 (by decide) ?_
    refine lv_iconst (v := (5)) hx hb dX6_getScene_45 (by decide) ?_
    refine gq_copy (rest := []) X hl.1 G (ar_Paper_houses hv0) (ar_act hv1) qw_13_17 qw_8_23 qw_9_0 qw_9_1 (by unfold gCk; decide) (Nat.le_of_ble_eq_true rfl) (Nat.le_of_ble_eq_true rfl) dX6_getScene_46 (fun M8 H locs e9 G => ?_)
    have h := h M8 e9
    refine lv_aload_n hx hb dX6_getScene_49 rfl (lv_at hl 0 rfl) ?_
    refine gf_Paper_ways X G hv0 qw_4_12 dX6_getScene_50 ?_
    refine lv_iconst (v := (0)) hx hb dX6_getScene_53 (by decide) ?_
    refine lv_aload_n hx hb dX6_getScene_54 rfl (lv_at hl 1 rfl) ?_
    refine lv_bipush (v := (12)) hx hb dX6_getScene_55 (by decide) ?_
    refine lv_iconst (v := (5)) hx hb dX6_getScene_57 (by decide) ?_
    refine gq_copy (rest := []) X hl.1 G (ar_Paper_ways hv0) (ar_act hv1) qw_13_17 qw_8_23 qw_9_0 qw_9_1 (by unfold gCk; decide) (Nat.le_of_ble_eq_true rfl) (Nat.le_of_ble_eq_true rfl) dX6_getScene_58 (fun M10 H locs e11 G => ?_)
    have h := h M10 e11
    refine lv_aload_n hx hb dX6_getScene_61 rfl (lv_at hl 0 rfl) ?_
    refine gf_Paper_knows X G hv0 qw_4_13 dX6_getScene_62 ?_
    refine lv_iconst (v := (0)) hx hb dX6_getScene_65 (by decide) ?_
    refine lv_aload_n hx hb dX6_getScene_66 rfl (lv_at hl 1 rfl) ?_
    refine lv_bipush (v := (17)) hx hb dX6_getScene_67 (by decide) ?_
    refine lv_iconst (v := (5)) hx hb dX6_getScene_69 (by decide) ?_
    refine gq_copy (rest := []) X hl.1 G (ar_Paper_knows hv0) (ar_act hv1) qw_13_17 qw_8_23 qw_9_0 qw_9_1 (by unfold gCk; decide) (Nat.le_of_ble_eq_true rfl) (Nat.le_of_ble_eq_true rfl) dX6_getScene_70 (fun M12 H locs e13 G => ?_)
    have h := h M12 e13
    exact gq_vret X G h dX6_getScene_73
  exact absurd (by decide) c1
def f_X11_keepAct_36 (K : Mm → Prop) (s0 : Int32) (s1 : Nat) (M : Mm) : Prop := (∀ M1 : Mm, M1 = gU M 0 10 (s0) → ((((24 : Int32) ≤ M1 0 9 : Prop) → K M1) ∧ (¬ ((24 : Int32) ≤ M1 0 9 : Prop) → (∀ M4 : Mm, M4 = gU M1 0 9 ((M1 0 9) + 1) → K M4))))
def f_X11_keepAct  (M : Mm) (K : Mm → Prop) : Prop := (vp_in (M 0 10) 24 ∧ (f_X6_getScene 26 (67 + (M 0 10 : Int32).toNatClampNeg) M (fun M7 => ((((M7 0 10 : Int32) = 23 : Prop) → f_X11_keepAct_36 K (0) (0) M7) ∧ (¬ ((M7 0 10 : Int32) = 23 : Prop) → f_X11_keepAct_36 K ((M7 0 10) + 1) (0) M7)))))
set_option maxHeartbeats 4000000 in
set_option maxRecDepth 100000 in
theorem m_X11_keepAct (hI : gI 91 ad)  {M : Mm} {K : Mm → Prop} (h : f_X11_keepAct  M K) : gM l D cy 91 ad (shC ad cy) yX11_keepAct cX11_keepAct 1 none 2 85 [.ref (ad 0)] M (gQv D 91 ad (shC ad cy) K) := by
  refine gM.of (own := RX11) (lv := [(0, .ref (ad 0))]) (by decide) rfl hI (Nat.le_of_ble_eq_true rfl) rfl ?_
  intro p e s m below meth c ls H locs X G hl
  have hx := X.1
  have hb := X.2.1
  have hJ36 : ∀ (s0 : Int32) (s1 : Nat) (M : Mm) (H : Heap) (locs : List Loc) (ls : Array Slot), gS D s 91 ad (shC ad cy) H locs M → lv_has ls 1 [(0, .ref (ad 0))] → f_X11_keepAct_36 K s0 s1 M → gWk p l e 2 85 s m ([.ref (ad 0)] : List Value).toArray below meth c H locs (gQv D 91 ad (shC ad cy) K) 91 ad 36 ls [.int (s0), .ref (ad 0)] := by
    intro s0 s1 M H locs ls G hl h
    unfold f_X11_keepAct_36 at h
    refine gp_PH_nextAct X G qw_13_23 dX11_keepAct_36 (fun M1 H locs e2 G => ?_)
    have h := h M1 e2
    refine lv_aload_n hx hb dX11_keepAct_39 rfl (lv_at hl 0 rfl) ?_
    refine gf_PH_actsKept X G qw_13_22 dX11_keepAct_40 ?_
    refine lv_bipush (v := (24)) hx hb dX11_keepAct_43 (by decide) ?_
    refine lv_icmp_ge (tgt := 58) hx hb dX11_keepAct_45 (by decide) (fun c3 => ?_) (fun c3 => ?_)
    · have h := h.1 c3
      exact gq_vret X G h dX11_keepAct_58
    have h := h.2 c3
    refine lv_aload_n hx hb dX11_keepAct_48 rfl (lv_at hl 0 rfl) ?_
    refine lv_dup hx hb dX11_keepAct_49 rfl ?_
    refine gf_PH_actsKept X G qw_13_22 dX11_keepAct_50 ?_
    refine lv_iconst (v := (1)) hx hb dX11_keepAct_53 (by decide) ?_
    refine lv_iadd hx hb dX11_keepAct_54 ?_
    refine gp_PH_actsKept X G qw_13_22 dX11_keepAct_55 (fun M4 H locs e5 G => ?_)
    have h := h M4 e5
    exact gq_vret X G h dX11_keepAct_58
  unfold f_X11_keepAct at h
  refine lv_aload_n hx hb dX11_keepAct_0 rfl (lv_at hl 0 rfl) ?_
  refine gf_PH_now X G qw_2_16 dX11_keepAct_1 ?_
  refine lv_aload_n hx hb dX11_keepAct_4 rfl (lv_at hl 0 rfl) ?_
  refine gf_PH_acts X G qw_3_5 dX11_keepAct_5 ?_
  refine lv_aload_n hx hb dX11_keepAct_8 rfl (lv_at hl 0 rfl) ?_
  refine gf_PH_nextAct X G qw_13_23 dX11_keepAct_9 ?_
  obtain ⟨q6, h⟩ := h
  refine ga_acts X G q6 dX11_keepAct_12 ?_
  refine gq_callv G (gc_VN (C := RX6) (rest := []) X hl.1 G (m_X6_getScene hI isPap_26 (isAct_of q6) h) cw_X6_getScene nm_27 qw_17_1 qw_17_2 (ob_Paper isPap_26) rfl rfl rfl rfl (Nat.le_of_ble_eq_true rfl) ⟨Nat.le_of_ble_eq_true rfl, Nat.le_of_ble_eq_true rfl⟩ ⟨Nat.le_refl _, Nat.le_refl _⟩ dX11_keepAct_13) (fun M7 H locs G h => ?_)
  refine lv_aload_n hx hb dX11_keepAct_16 rfl (lv_at hl 0 rfl) ?_
  refine lv_aload_n hx hb dX11_keepAct_17 rfl (lv_at hl 0 rfl) ?_
  refine gf_PH_nextAct X G qw_13_23 dX11_keepAct_18 ?_
  refine lv_bipush (v := (23)) hx hb dX11_keepAct_21 (by decide) ?_
  refine lv_icmp_ne (tgt := 30) hx hb dX11_keepAct_23 (by decide) (fun c8 => ?_) (fun c8 => ?_)
  · have h := h.2 c8
    refine lv_aload_n hx hb dX11_keepAct_30 rfl (lv_at hl 0 rfl) ?_
    refine gf_PH_nextAct X G qw_13_23 dX11_keepAct_31 ?_
    refine lv_iconst (v := (1)) hx hb dX11_keepAct_34 (by decide) ?_
    refine lv_iadd hx hb dX11_keepAct_35 ?_
    exact hJ36  ((M7 0 10) + 1) (0) M7 H locs ls G  (lv_sub hl [0] rfl) h
  have h := h.1 c8
  refine lv_iconst (v := (0)) hx hb dX11_keepAct_26 (by decide) ?_
  refine lv_goto (tgt := 36) hx hb dX11_keepAct_27 (by decide) ?_
  exact hJ36  (0) (0) M7 H locs ls G  (lv_sub hl [0] rfl) h
def f_X6_endDay_39 (K : Mm → Prop) (v0 : Nat) (M : Mm) : Prop := (∀ M1 : Mm, M1 = gU M v0 13 ((M v0 13) + 1) → K M1)
def f_X6_endDay (v0 : Nat) (M : Mm) (K : Mm → Prop) : Prop := ((((M v0 7 : Int32) ≤ 0 : Prop) → f_X6_endDay_39 K (v0) M) ∧ (¬ ((M v0 7 : Int32) ≤ 0 : Prop) → ((((M v0 8 : Int32) ≤ 0 : Prop) → f_X6_endDay_39 K (v0) M) ∧ (¬ ((M v0 8 : Int32) ≤ 0 : Prop) → (¬ (M v0 8) = 0 ∧ (∀ M6 : Mm, M6 = gU M v0 12 ((M v0 12) ||| (1 <<< ((((M v0 13) * (M v0 7)) - ((M v0 13) * (M v0 7)) / (M v0 8) * (M v0 8)) &&& 31))) → f_X6_endDay_39 K (v0) M6))))))
set_option maxHeartbeats 4000000 in
set_option maxRecDepth 100000 in
theorem m_X6_endDay (hI : gI 91 ad) {v0 : Nat} (hv0 : isPap v0) {M : Mm} {K : Mm → Prop} (h : f_X6_endDay v0 M K) : gM l D cy 91 ad (shC ad cy) yX6_endDay cX6_endDay 1 none 0 0 [.ref (ad v0)] M (gQv D 91 ad (shC ad cy) K) := by
  refine gM.of (own := RX6) (lv := [(0, .ref (ad v0))]) (by decide) rfl hI (Nat.le_of_ble_eq_true rfl) rfl ?_
  intro p e s m below meth c ls H locs X G hl
  have hx := X.1
  have hb := X.2.1
  have hJ39 : ∀ (M : Mm) (H : Heap) (locs : List Loc) (ls : Array Slot), gS D s 91 ad (shC ad cy) H locs M → lv_has ls 1 [(0, .ref (ad v0))] → f_X6_endDay_39 K v0 M → gWk p l e 0 0 s m ([.ref (ad v0)] : List Value).toArray below meth c H locs (gQv D 91 ad (shC ad cy) K) 91 ad 39 ls [] := by
    intro M H locs ls G hl h
    unfold f_X6_endDay_39 at h
    refine lv_aload_n hx hb dX6_endDay_39 rfl (lv_at hl 0 rfl) ?_
    refine lv_dup hx hb dX6_endDay_40 rfl ?_
    refine gf_Paper_day X G hv0 qw_11_8 dX6_endDay_41 ?_
    refine lv_iconst (v := (1)) hx hb dX6_endDay_44 (by decide) ?_
    refine lv_iadd hx hb dX6_endDay_45 ?_
    refine gp_Paper_day X G hv0 qw_11_8 dX6_endDay_46 (fun M1 H locs e2 G => ?_)
    have h := h M1 e2
    exact gq_vret X G h dX6_endDay_49
  unfold f_X6_endDay at h
  refine lv_aload_n hx hb dX6_endDay_0 rfl (lv_at hl 0 rfl) ?_
  refine gf_Paper_law X G hv0 qw_11_2 dX6_endDay_1 ?_
  refine lv_if_le (tgt := 39) hx hb dX6_endDay_4 (by decide) (fun c3 => ?_) (fun c3 => ?_)
  · have h := h.1 c3
    exact hJ39   M H locs ls G  (lv_sub hl [0] rfl) h
  have h := h.2 c3
  refine lv_aload_n hx hb dX6_endDay_7 rfl (lv_at hl 0 rfl) ?_
  refine gf_Paper_cells X G hv0 qw_11_3 dX6_endDay_8 ?_
  refine lv_if_le (tgt := 39) hx hb dX6_endDay_11 (by decide) (fun c4 => ?_) (fun c4 => ?_)
  · have h := h.1 c4
    exact hJ39   M H locs ls G  (lv_sub hl [0] rfl) h
  have h := h.2 c4
  refine lv_aload_n hx hb dX6_endDay_14 rfl (lv_at hl 0 rfl) ?_
  refine lv_dup hx hb dX6_endDay_15 rfl ?_
  refine gf_Paper_faded X G hv0 qw_11_7 dX6_endDay_16 ?_
  refine lv_iconst (v := (1)) hx hb dX6_endDay_19 (by decide) ?_
  refine lv_aload_n hx hb dX6_endDay_20 rfl (lv_at hl 0 rfl) ?_
  refine gf_Paper_day X G hv0 qw_11_8 dX6_endDay_21 ?_
  refine lv_aload_n hx hb dX6_endDay_24 rfl (lv_at hl 0 rfl) ?_
  refine gf_Paper_law X G hv0 qw_11_2 dX6_endDay_25 ?_
  refine lv_imul hx hb dX6_endDay_28 ?_
  refine lv_aload_n hx hb dX6_endDay_29 rfl (lv_at hl 0 rfl) ?_
  refine gf_Paper_cells X G hv0 qw_11_3 dX6_endDay_30 ?_
  obtain ⟨q5, h⟩ := h
  refine lv_irem hx hb dX6_endDay_33 q5 ?_
  refine lv_ishl hx hb dX6_endDay_34 ?_
  refine lv_ior hx hb dX6_endDay_35 ?_
  refine gp_Paper_faded X G hv0 qw_11_7 dX6_endDay_36 (fun M6 H locs e7 G => ?_)
  have h := h M6 e7
  exact hJ39   M6 H locs ls G  (lv_sub hl [0] rfl) h
def f_X6_sortOf (v0 : Nat) (v1 : Int32) (M : Mm) (K : Option Nat → Mm → Prop) : Prop := (vp_in (v1) 5 ∧ ((((M (v0 + 3) (v1 : Int32).toNatClampNeg : Int32) < 0 : Prop) → K none M) ∧ (¬ ((M (v0 + 3) (v1 : Int32).toNatClampNeg : Int32) < 0 : Prop) → ((((6 : Int32) ≤ M (v0 + 3) (v1 : Int32).toNatClampNeg : Prop) → K none M) ∧ (¬ ((6 : Int32) ≤ M (v0 + 3) (v1 : Int32).toNatClampNeg : Prop) → (vp_in (M (v0 + 3) (v1 : Int32).toNatClampNeg) 6 ∧ (((M (v0 + 3) (v1 : Int32).toNatClampNeg : Int32).toNatClampNeg = 0 → K none M) ∧ (¬ (M (v0 + 3) (v1 : Int32).toNatClampNeg : Int32).toNatClampNeg = 0 → K (some (18 + (M (v0 + 3) (v1 : Int32).toNatClampNeg : Int32).toNatClampNeg)) M))))))))
set_option maxHeartbeats 4000000 in
set_option maxRecDepth 100000 in
theorem m_X6_sortOf (hI : gI 91 ad) {v0 : Nat} (hv0 : isPap v0) {v1 : Int32} {M : Mm} {K : Option Nat → Mm → Prop} (h : f_X6_sortOf v0 v1 M K) : gM l D cy 91 ad (shC ad cy) yX6_sortOf cX6_sortOf 3 (some (.object "PaperHouses$Folk")) 0 0 [.ref (ad v0), .int (v1)] M (gQe D 91 ad (shC ad cy) K) := by
  refine gM.of (own := RX6) (lv := [(0, .ref (ad v0)), (1, .int (v1))]) (by decide) rfl hI (Nat.le_of_ble_eq_true rfl) rfl ?_
  intro p e s m below meth c ls H locs X G hl
  have hx := X.1
  have hb := X.2.1
  unfold f_X6_sortOf at h
  refine lv_aload_n hx hb dX6_sortOf_0 rfl (lv_at hl 0 rfl) ?_
  refine gf_Paper_kinds X G hv0 qw_4_10 dX6_sortOf_1 ?_
  refine lv_iload_n hx hb dX6_sortOf_4 rfl (lv_at hl 1 rfl) ?_
  obtain ⟨q1, h⟩ := h
  refine gq_iald X G (ar_Paper_kinds hv0) q1 dX6_sortOf_5 ?_
  refine lv_istore_n (lv' := [(2, .int (M (v0 + 3) (v1 : Int32).toNatClampNeg)), (0, .ref (ad v0)), (1, .int (v1))]) hx hb dX6_sortOf_6 rfl hl (by decide) rfl (fun ls hl => ?_)
  refine lv_iload_n hx hb dX6_sortOf_7 rfl (lv_at hl 0 rfl) ?_
  refine lv_if_lt (tgt := 29) hx hb dX6_sortOf_8 (by decide) (fun c2 => ?_) (fun c2 => ?_)
  · have h := h.1 c2
    refine lv_null hx hb dX6_sortOf_29 ?_
    exact gq_aretN X G h dX6_sortOf_30
  have h := h.2 c2
  refine lv_iload_n hx hb dX6_sortOf_11 rfl (lv_at hl 0 rfl) ?_
  refine lv_aload_n hx hb dX6_sortOf_12 rfl (lv_at hl 1 rfl) ?_
  refine gf_Paper_sorts X G hv0 qw_4_14 dX6_sortOf_13 ?_
  refine gl_sorts X G dX6_sortOf_16 ?_
  refine lv_icmp_ge (tgt := 29) hx hb dX6_sortOf_17 (by decide) (fun c3 => ?_) (fun c3 => ?_)
  · have h := h.1 c3
    refine lv_null hx hb dX6_sortOf_29 ?_
    exact gq_aretN X G h dX6_sortOf_30
  have h := h.2 c3
  refine lv_aload_n hx hb dX6_sortOf_20 rfl (lv_at hl 1 rfl) ?_
  refine gf_Paper_sorts X G hv0 qw_4_14 dX6_sortOf_21 ?_
  refine lv_iload_n hx hb dX6_sortOf_24 rfl (lv_at hl 0 rfl) ?_
  obtain ⟨q4, h⟩ := h
  refine ga_sorts X G q4 dX6_sortOf_25 (fun c5 => ?_) (fun c5 => ?_)
  · have h := h.1 c5
    refine lv_goto (tgt := 30) hx hb dX6_sortOf_26 (by decide) ?_
    exact gq_aretN X G h dX6_sortOf_30
  have h := h.2 c5
  refine lv_goto (tgt := 30) hx hb dX6_sortOf_26 (by decide) ?_
  exact gq_aret X G h dX6_sortOf_30
def f_X6_startOf (v0 : Nat) (v1 : Int32) (M : Mm) (K : Int32 → Mm → Prop) : Prop := ((((0 : Int32) < v1 : Prop) → ((((M v0 9 : Int32) < v1 : Prop) → K (M v0 8) M) ∧ (¬ ((M v0 9 : Int32) < v1 : Prop) → (vp_in (v1 - 1) 5 ∧ K (M (v0 + 2) (v1 - 1 : Int32).toNatClampNeg) M)))) ∧ (¬ ((0 : Int32) < v1 : Prop) → K (0) M))
set_option maxHeartbeats 4000000 in
set_option maxRecDepth 100000 in
theorem m_X6_startOf (hI : gI 91 ad) {v0 : Nat} (hv0 : isPap v0) {v1 : Int32} {M : Mm} {K : Int32 → Mm → Prop} (h : f_X6_startOf v0 v1 M K) : gM l D cy 91 ad (shC ad cy) yX6_startOf cX6_startOf 2 (some .int) 0 0 [.ref (ad v0), .int (v1)] M (gQi D 91 ad (shC ad cy) K) := by
  refine gM.of (own := RX6) (lv := [(0, .ref (ad v0)), (1, .int (v1))]) (by decide) rfl hI (Nat.le_of_ble_eq_true rfl) rfl ?_
  intro p e s m below meth c ls H locs X G hl
  have hx := X.1
  have hb := X.2.1
  unfold f_X6_startOf at h
  refine lv_iload_n hx hb dX6_startOf_0 rfl (lv_at hl 1 rfl) ?_
  refine lv_if_gt (tgt := 6) hx hb dX6_startOf_1 (by decide) (fun c1 => ?_) (fun c1 => ?_)
  · have h := h.1 c1
    refine lv_iload_n hx hb dX6_startOf_6 rfl (lv_at hl 1 rfl) ?_
    refine lv_aload_n hx hb dX6_startOf_7 rfl (lv_at hl 0 rfl) ?_
    refine gf_Paper_wallCount X G hv0 qw_11_4 dX6_startOf_8 ?_
    refine lv_icmp_gt (tgt := 25) hx hb dX6_startOf_11 (by decide) (fun c2 => ?_) (fun c2 => ?_)
    · have h := h.1 c2
      refine lv_aload_n hx hb dX6_startOf_25 rfl (lv_at hl 0 rfl) ?_
      refine gf_Paper_cells X G hv0 qw_11_3 dX6_startOf_26 ?_
      exact gq_iret X G h dX6_startOf_29
    have h := h.2 c2
    refine lv_aload_n hx hb dX6_startOf_14 rfl (lv_at hl 0 rfl) ?_
    refine gf_Paper_walls X G hv0 qw_4_9 dX6_startOf_15 ?_
    refine lv_iload_n hx hb dX6_startOf_18 rfl (lv_at hl 1 rfl) ?_
    refine lv_iconst (v := (1)) hx hb dX6_startOf_19 (by decide) ?_
    refine lv_isub hx hb dX6_startOf_20 ?_
    obtain ⟨q3, h⟩ := h
    refine gq_iald X G (ar_Paper_walls hv0) q3 dX6_startOf_21 ?_
    refine lv_goto (tgt := 29) hx hb dX6_startOf_22 (by decide) ?_
    exact gq_iret X G h dX6_startOf_29
  have h := h.2 c1
  refine lv_iconst (v := (0)) hx hb dX6_startOf_4 (by decide) ?_
  exact gq_iret X G h dX6_startOf_5
def f_X6_cellBits (v0 : Nat) (v1 : Int32) (M : Mm) (K : Int32 → Mm → Prop) : Prop := (f_X6_startOf v0 (v1 + 1) M (fun r2 M1 => (f_X6_startOf v0 (v1) M1 (fun r4 M3 => K ((1 <<< (r2 &&& 31)) - (1 <<< (r4 &&& 31))) M3))))
set_option maxHeartbeats 4000000 in
set_option maxRecDepth 100000 in
theorem m_X6_cellBits (hI : gI 91 ad) {v0 : Nat} (hv0 : isPap v0) {v1 : Int32} {M : Mm} {K : Int32 → Mm → Prop} (h : f_X6_cellBits v0 v1 M K) : gM l D cy 91 ad (shC ad cy) yX6_cellBits cX6_cellBits 2 (some .int) 1 21 [.ref (ad v0), .int (v1)] M (gQi D 91 ad (shC ad cy) K) := by
  refine gM.of (own := RX6) (lv := [(0, .ref (ad v0)), (1, .int (v1))]) (by decide) rfl hI (Nat.le_of_ble_eq_true rfl) rfl ?_
  intro p e s m below meth c ls H locs X G hl
  have hx := X.1
  have hb := X.2.1
  unfold f_X6_cellBits at h
  refine lv_iconst (v := (1)) hx hb dX6_cellBits_0 (by decide) ?_
  refine lv_aload_n hx hb dX6_cellBits_1 rfl (lv_at hl 0 rfl) ?_
  refine lv_iload_n hx hb dX6_cellBits_2 rfl (lv_at hl 1 rfl) ?_
  refine lv_iconst (v := (1)) hx hb dX6_cellBits_3 (by decide) ?_
  refine lv_iadd hx hb dX6_cellBits_4 ?_
  refine gq_calli G (gc_V (C := RX6) (rest := [.int (1)]) X hl.1 G (m_X6_startOf hI hv0 h) cw_X6_startOf qw_17_23 qw_18_0 qw_18_1 (ob_Paper hv0) rfl rfl rfl rfl (Nat.le_of_ble_eq_true rfl) ⟨Nat.le_of_ble_eq_true rfl, Nat.le_of_ble_eq_true rfl⟩ ⟨Nat.le_refl _, Nat.le_refl _⟩ dX6_cellBits_5) (fun r2 M1 H locs G h => ?_)
  refine lv_ishl hx hb dX6_cellBits_8 ?_
  refine lv_iconst (v := (1)) hx hb dX6_cellBits_9 (by decide) ?_
  refine lv_aload_n hx hb dX6_cellBits_10 rfl (lv_at hl 0 rfl) ?_
  refine lv_iload_n hx hb dX6_cellBits_11 rfl (lv_at hl 1 rfl) ?_
  refine gq_calli G (gc_V (C := RX6) (rest := [.int (1), .int (1 <<< (r2 &&& 31))]) X hl.1 G (m_X6_startOf hI hv0 h) cw_X6_startOf qw_17_23 qw_18_0 qw_18_1 (ob_Paper hv0) rfl rfl rfl rfl (Nat.le_of_ble_eq_true rfl) ⟨Nat.le_of_ble_eq_true rfl, Nat.le_of_ble_eq_true rfl⟩ ⟨Nat.le_refl _, Nat.le_refl _⟩ dX6_cellBits_12) (fun r4 M3 H locs G h => ?_)
  refine lv_ishl hx hb dX6_cellBits_15 ?_
  refine lv_isub hx hb dX6_cellBits_16 ?_
  exact gq_iret X G h dX6_cellBits_17
def f_X5_sees_19 (v1 : Nat) (v2 : Int32) (M : Mm) (K : Int32 → Mm → Prop) : Prop := K (v2 &&& ((M v1 12) ^^^ (-1))) M
set_option maxHeartbeats 4000000 in
set_option maxRecDepth 100000 in
theorem m_X5_sees_19 (hI : gI 91 ad) {v1 : Nat} (hv1 : isPap v1) {v2 : Int32} {M : Mm} {K : Int32 → Mm → Prop} (h : f_X5_sees_19 v1 v2 M K) : gM l D cy 91 ad (shC ad cy) yX5_sees cX5_sees 3 (some .int) 0 0 [.ref (ad 19), .ref (ad v1), .int (v2)] M (gQi D 91 ad (shC ad cy) K) := by
  refine gM.of (own := RX5) (lv := [(0, .ref (ad 19)), (1, .ref (ad v1)), (2, .int (v2))]) (by decide) rfl hI (Nat.le_of_ble_eq_true rfl) rfl ?_
  intro p e s m below meth c ls H locs X G hl
  have hx := X.1
  have hb := X.2.1
  unfold f_X5_sees_19 at h
  refine lv_iload_n hx hb dX5_sees_0 rfl (lv_at hl 2 rfl) ?_
  refine lv_aload_n hx hb dX5_sees_1 rfl (lv_at hl 1 rfl) ?_
  refine gfN_Paper_faded X G hv1 nf_35 dX5_sees_2 ?_
  refine lv_iconst (v := (-1)) hx hb dX5_sees_5 (by decide) ?_
  refine lv_ixor hx hb dX5_sees_6 ?_
  refine lv_iand hx hb dX5_sees_7 ?_
  exact gq_iret X G h dX5_sees_8
def f_X6_allCells (v0 : Nat) (M : Mm) (K : Int32 → Mm → Prop) : Prop := K ((1 <<< ((M v0 8) &&& 31)) - 1) M
set_option maxHeartbeats 4000000 in
set_option maxRecDepth 100000 in
theorem m_X6_allCells (hI : gI 91 ad) {v0 : Nat} (hv0 : isPap v0) {M : Mm} {K : Int32 → Mm → Prop} (h : f_X6_allCells v0 M K) : gM l D cy 91 ad (shC ad cy) yX6_allCells cX6_allCells 1 (some .int) 0 0 [.ref (ad v0)] M (gQi D 91 ad (shC ad cy) K) := by
  refine gM.of (own := RX6) (lv := [(0, .ref (ad v0))]) (by decide) rfl hI (Nat.le_of_ble_eq_true rfl) rfl ?_
  intro p e s m below meth c ls H locs X G hl
  have hx := X.1
  have hb := X.2.1
  unfold f_X6_allCells at h
  refine lv_iconst (v := (1)) hx hb dX6_allCells_0 (by decide) ?_
  refine lv_aload_n hx hb dX6_allCells_1 rfl (lv_at hl 0 rfl) ?_
  refine gf_Paper_cells X G hv0 qw_11_3 dX6_allCells_2 ?_
  refine lv_ishl hx hb dX6_allCells_5 ?_
  refine lv_iconst (v := (1)) hx hb dX6_allCells_6 (by decide) ?_
  refine lv_isub hx hb dX6_allCells_7 ?_
  exact gq_iret X G h dX6_allCells_8
def f_X10_sees_20 (v1 : Nat) (v2 : Int32) (M : Mm) (K : Int32 → Mm → Prop) : Prop := (f_X6_allCells v1 M (fun r2 M1 => K ((((v2 ||| (v2 <<< (1 &&& 31))) ||| (v2 >>> (1 &&& 31))) &&& r2) &&& ((M1 v1 12) ^^^ (-1))) M1))
set_option maxHeartbeats 4000000 in
set_option maxRecDepth 100000 in
theorem m_X10_sees_20 (hI : gI 91 ad) {v1 : Nat} (hv1 : isPap v1) {v2 : Int32} {M : Mm} {K : Int32 → Mm → Prop} (h : f_X10_sees_20 v1 v2 M K) : gM l D cy 91 ad (shC ad cy) yX10_sees cX10_sees 3 (some .int) 1 20 [.ref (ad 20), .ref (ad v1), .int (v2)] M (gQi D 91 ad (shC ad cy) K) := by
  refine gM.of (own := RX10) (lv := [(0, .ref (ad 20)), (1, .ref (ad v1)), (2, .int (v2))]) (by decide) rfl hI (Nat.le_of_ble_eq_true rfl) rfl ?_
  intro p e s m below meth c ls H locs X G hl
  have hx := X.1
  have hb := X.2.1
  unfold f_X10_sees_20 at h
  refine lv_iload_n hx hb dX10_sees_0 rfl (lv_at hl 2 rfl) ?_
  refine lv_iload_n hx hb dX10_sees_1 rfl (lv_at hl 2 rfl) ?_
  refine lv_iconst (v := (1)) hx hb dX10_sees_2 (by decide) ?_
  refine lv_ishl hx hb dX10_sees_3 ?_
  refine lv_ior hx hb dX10_sees_4 ?_
  refine lv_iload_n hx hb dX10_sees_5 rfl (lv_at hl 2 rfl) ?_
  refine lv_iconst (v := (1)) hx hb dX10_sees_6 (by decide) ?_
  refine lv_ishr hx hb dX10_sees_7 ?_
  refine lv_ior hx hb dX10_sees_8 ?_
  refine lv_aload_n hx hb dX10_sees_9 rfl (lv_at hl 1 rfl) ?_
  refine gq_calli G (gc_VN (C := RX6) (rest := [.int ((v2 ||| (v2 <<< (1 &&& 31))) ||| (v2 >>> (1 &&& 31)))]) X hl.1 G (m_X6_allCells hI hv1 h) cw_X6_allCells nm_29 qw_19_0 qw_19_1 (ob_Paper hv1) rfl rfl rfl rfl (Nat.le_of_ble_eq_true rfl) ⟨Nat.le_of_ble_eq_true rfl, Nat.le_of_ble_eq_true rfl⟩ ⟨Nat.le_refl _, Nat.le_refl _⟩ dX10_sees_10) (fun r2 M1 H locs G h => ?_)
  refine lv_iand hx hb dX10_sees_13 ?_
  refine lv_aload_n hx hb dX10_sees_14 rfl (lv_at hl 1 rfl) ?_
  refine gfN_Paper_faded X G hv1 nf_37 dX10_sees_15 ?_
  refine lv_iconst (v := (-1)) hx hb dX10_sees_18 (by decide) ?_
  refine lv_ixor hx hb dX10_sees_19 ?_
  refine lv_iand hx hb dX10_sees_20 ?_
  exact gq_iret X G h dX10_sees_21
def f_X5_sees_21 (v1 : Nat) (v2 : Int32) (M : Mm) (K : Int32 → Mm → Prop) : Prop := K (v2 &&& ((M v1 12) ^^^ (-1))) M
set_option maxHeartbeats 4000000 in
set_option maxRecDepth 100000 in
theorem m_X5_sees_21 (hI : gI 91 ad) {v1 : Nat} (hv1 : isPap v1) {v2 : Int32} {M : Mm} {K : Int32 → Mm → Prop} (h : f_X5_sees_21 v1 v2 M K) : gM l D cy 91 ad (shC ad cy) yX5_sees cX5_sees 3 (some .int) 0 0 [.ref (ad 21), .ref (ad v1), .int (v2)] M (gQi D 91 ad (shC ad cy) K) := by
  refine gM.of (own := RX5) (lv := [(0, .ref (ad 21)), (1, .ref (ad v1)), (2, .int (v2))]) (by decide) rfl hI (Nat.le_of_ble_eq_true rfl) rfl ?_
  intro p e s m below meth c ls H locs X G hl
  have hx := X.1
  have hb := X.2.1
  unfold f_X5_sees_21 at h
  refine lv_iload_n hx hb dX5_sees_0 rfl (lv_at hl 2 rfl) ?_
  refine lv_aload_n hx hb dX5_sees_1 rfl (lv_at hl 1 rfl) ?_
  refine gfN_Paper_faded X G hv1 nf_35 dX5_sees_2 ?_
  refine lv_iconst (v := (-1)) hx hb dX5_sees_5 (by decide) ?_
  refine lv_ixor hx hb dX5_sees_6 ?_
  refine lv_iand hx hb dX5_sees_7 ?_
  exact gq_iret X G h dX5_sees_8
def f_X8_sees_21 (v1 : Nat) (v2 : Int32) (M : Mm) (K : Int32 → Mm → Prop) : Prop := (f_X5_sees_21 v1 (v2) M (fun r2 M1 => K (r2 &&& 5592405) M1))
set_option maxHeartbeats 4000000 in
set_option maxRecDepth 100000 in
theorem m_X8_sees_21 (hI : gI 91 ad) {v1 : Nat} (hv1 : isPap v1) {v2 : Int32} {M : Mm} {K : Int32 → Mm → Prop} (h : f_X8_sees_21 v1 v2 M K) : gM l D cy 91 ad (shC ad cy) yX8_sees cX8_sees 3 (some .int) 1 22 [.ref (ad 21), .ref (ad v1), .int (v2)] M (gQi D 91 ad (shC ad cy) K) := by
  refine gM.of (own := RX8) (lv := [(0, .ref (ad 21)), (1, .ref (ad v1)), (2, .int (v2))]) (by decide) rfl hI (Nat.le_of_ble_eq_true rfl) rfl ?_
  intro p e s m below meth c ls H locs X G hl
  have hx := X.1
  have hb := X.2.1
  unfold f_X8_sees_21 at h
  refine lv_aload_n hx hb dX8_sees_0 rfl (lv_at hl 0 rfl) ?_
  refine lv_aload_n hx hb dX8_sees_1 rfl (lv_at hl 1 rfl) ?_
  refine lv_iload_n hx hb dX8_sees_2 rfl (lv_at hl 2 rfl) ?_
  refine gq_calli G (gc_SU (rest := []) X hl.1 G (m_X5_sees_21 hI hv1 h) cw_X5_sees qw_18_18 qw_18_19 qw_18_20 qw_18_12 (by decide) ob_Short rfl rfl rfl (Nat.le_of_ble_eq_true rfl) ⟨Nat.le_of_ble_eq_true rfl, Nat.le_of_ble_eq_true rfl⟩ ⟨Nat.le_refl _, Nat.le_refl _⟩ dX8_sees_3) (fun r2 M1 H locs G h => ?_)
  refine gq_ldc (v := (5592405)) X qw_18_17 dX8_sees_6 ?_
  refine lv_iand hx hb dX8_sees_8 ?_
  exact gq_iret X G h dX8_sees_9
def f_X2_sees_22 (v1 : Nat) (v2 : Int32) (M : Mm) (K : Int32 → Mm → Prop) : Prop := K ((v2 &&& (M v1 11)) &&& ((M v1 12) ^^^ (-1))) M
set_option maxHeartbeats 4000000 in
set_option maxRecDepth 100000 in
theorem m_X2_sees_22 (hI : gI 91 ad) {v1 : Nat} (hv1 : isPap v1) {v2 : Int32} {M : Mm} {K : Int32 → Mm → Prop} (h : f_X2_sees_22 v1 v2 M K) : gM l D cy 91 ad (shC ad cy) yX2_sees cX2_sees 3 (some .int) 0 0 [.ref (ad 22), .ref (ad v1), .int (v2)] M (gQi D 91 ad (shC ad cy) K) := by
  refine gM.of (own := RX2) (lv := [(0, .ref (ad 22)), (1, .ref (ad v1)), (2, .int (v2))]) (by decide) rfl hI (Nat.le_of_ble_eq_true rfl) rfl ?_
  intro p e s m below meth c ls H locs X G hl
  have hx := X.1
  have hb := X.2.1
  unfold f_X2_sees_22 at h
  refine lv_iload_n hx hb dX2_sees_0 rfl (lv_at hl 2 rfl) ?_
  refine lv_aload_n hx hb dX2_sees_1 rfl (lv_at hl 1 rfl) ?_
  refine gfN_Paper_rising X G hv1 nf_34 dX2_sees_2 ?_
  refine lv_iand hx hb dX2_sees_5 ?_
  refine lv_aload_n hx hb dX2_sees_6 rfl (lv_at hl 1 rfl) ?_
  refine gfN_Paper_faded X G hv1 nf_36 dX2_sees_7 ?_
  refine lv_iconst (v := (-1)) hx hb dX2_sees_10 (by decide) ?_
  refine lv_ixor hx hb dX2_sees_11 ?_
  refine lv_iand hx hb dX2_sees_12 ?_
  exact gq_iret X G h dX2_sees_13
def f_X1_sees_23 (v1 : Nat) (v2 : Int32) (M : Mm) (K : Int32 → Mm → Prop) : Prop := K (v2 &&& (M v1 11)) M
set_option maxHeartbeats 4000000 in
set_option maxRecDepth 100000 in
theorem m_X1_sees_23 (hI : gI 91 ad) {v1 : Nat} (hv1 : isPap v1) {v2 : Int32} {M : Mm} {K : Int32 → Mm → Prop} (h : f_X1_sees_23 v1 v2 M K) : gM l D cy 91 ad (shC ad cy) yX1_sees cX1_sees 3 (some .int) 0 0 [.ref (ad 23), .ref (ad v1), .int (v2)] M (gQi D 91 ad (shC ad cy) K) := by
  refine gM.of (own := RX1) (lv := [(0, .ref (ad 23)), (1, .ref (ad v1)), (2, .int (v2))]) (by decide) rfl hI (Nat.le_of_ble_eq_true rfl) rfl ?_
  intro p e s m below meth c ls H locs X G hl
  have hx := X.1
  have hb := X.2.1
  unfold f_X1_sees_23 at h
  refine lv_iload_n hx hb dX1_sees_0 rfl (lv_at hl 2 rfl) ?_
  refine lv_aload_n hx hb dX1_sees_1 rfl (lv_at hl 1 rfl) ?_
  refine gfN_Paper_rising X G hv1 nf_33 dX1_sees_2 ?_
  refine lv_iand hx hb dX1_sees_5 ?_
  exact gq_iret X G h dX1_sees_6
def f_X6_seenBy (v0 : Nat) (v1 : Int32) (M : Mm) (K : Int32 → Mm → Prop) : Prop := (f_X6_sortOf v0 (v1) M (fun o17 M1 => (o17 = none → K (0) M1) ∧ (∀ p2 : Nat, o17 = some p2 → (vp_in (v1) 5 ∧ (f_X6_cellBits v0 (M1 (v0 + 4) (v1 : Int32).toNatClampNeg) M1 (fun r5 M4 => (isFolk p2 ∧ ((p2 = 19 → (f_X5_sees_19 v0 (r5) M4 (fun r8 M7 => K (r8) M7))) ∧ (p2 = 20 → (f_X10_sees_20 v0 (r5) M4 (fun r10 M9 => K (r10) M9))) ∧ (p2 = 21 → (f_X8_sees_21 v0 (r5) M4 (fun r12 M11 => K (r12) M11))) ∧ (p2 = 22 → (f_X2_sees_22 v0 (r5) M4 (fun r14 M13 => K (r14) M13))) ∧ (p2 = 23 → (f_X1_sees_23 v0 (r5) M4 (fun r16 M15 => K (r16) M15)))))))))))
set_option maxHeartbeats 4000000 in
set_option maxRecDepth 100000 in
theorem m_X6_seenBy (hI : gI 91 ad) {v0 : Nat} (hv0 : isPap v0) {v1 : Int32} {M : Mm} {K : Int32 → Mm → Prop} (h : f_X6_seenBy v0 v1 M K) : gM l D cy 91 ad (shC ad cy) yX6_seenBy cX6_seenBy 3 (some .int) 2 44 [.ref (ad v0), .int (v1)] M (gQi D 91 ad (shC ad cy) K) := by
  refine gM.of (own := RX6) (lv := [(0, .ref (ad v0)), (1, .int (v1))]) (by decide) rfl hI (Nat.le_of_ble_eq_true rfl) rfl ?_
  intro p e s m below meth c ls H locs X G hl
  have hx := X.1
  have hb := X.2.1
  unfold f_X6_seenBy at h
  refine lv_aload_n hx hb dX6_seenBy_0 rfl (lv_at hl 0 rfl) ?_
  refine lv_iload_n hx hb dX6_seenBy_1 rfl (lv_at hl 1 rfl) ?_
  refine gq_calle G (gc_V (C := RX6) (rest := []) X hl.1 G (m_X6_sortOf hI hv0 h) cw_X6_sortOf qw_17_15 qw_17_16 qw_17_17 (ob_Paper hv0) rfl rfl rfl rfl (Nat.le_of_ble_eq_true rfl) ⟨Nat.le_of_ble_eq_true rfl, Nat.le_of_ble_eq_true rfl⟩ ⟨Nat.le_refl _, Nat.le_refl _⟩ dX6_seenBy_2) (fun M1 H locs G h => ?_) (fun p2 M1 H locs G h => ?_)
  · have h := h.1 rfl
    refine lv_astore_nN (lv' := [(2, .null), (0, .ref (ad v0)), (1, .int (v1))]) hx hb dX6_seenBy_5 rfl hl (by decide) rfl (fun ls hl => ?_)
    refine lv_aload_nN hx hb dX6_seenBy_6 rfl (lv_at hl 0 rfl) ?_
    refine lv_ifnonnullN hx hb dX6_seenBy_7 ?_
    refine lv_iconst (v := (0)) hx hb dX6_seenBy_10 (by decide) ?_
    refine lv_goto (tgt := 29) hx hb dX6_seenBy_11 (by decide) ?_
    exact gq_iret X G h dX6_seenBy_29
  have h := h.2 p2 rfl
  refine lv_astore_n (lv' := [(2, .ref (ad p2)), (0, .ref (ad v0)), (1, .int (v1))]) hx hb dX6_seenBy_5 rfl hl (by decide) rfl (fun ls hl => ?_)
  refine lv_aload_n hx hb dX6_seenBy_6 rfl (lv_at hl 0 rfl) ?_
  refine lv_ifnonnull (tgt := 14) hx hb dX6_seenBy_7 (by decide) ?_
  refine lv_aload_n hx hb dX6_seenBy_14 rfl (lv_at hl 0 rfl) ?_
  refine lv_aload_n hx hb dX6_seenBy_15 rfl (lv_at hl 1 rfl) ?_
  refine lv_aload_n hx hb dX6_seenBy_16 rfl (lv_at hl 1 rfl) ?_
  refine lv_aload_n hx hb dX6_seenBy_17 rfl (lv_at hl 1 rfl) ?_
  refine gf_Paper_houses X G hv0 qw_4_11 dX6_seenBy_18 ?_
  refine lv_iload_n hx hb dX6_seenBy_21 rfl (lv_at hl 2 rfl) ?_
  obtain ⟨q3, h⟩ := h
  refine gq_iald X G (ar_Paper_houses hv0) q3 dX6_seenBy_22 ?_
  refine gq_calli G (gc_V (C := RX6) (rest := [.ref (ad v0), .ref (ad p2)]) X hl.1 G (m_X6_cellBits hI hv0 h) cw_X6_cellBits qw_17_19 qw_17_20 qw_17_21 (ob_Paper hv0) rfl rfl rfl rfl (Nat.le_of_ble_eq_true rfl) ⟨Nat.le_of_ble_eq_true rfl, Nat.le_of_ble_eq_true rfl⟩ ⟨Nat.le_refl _, Nat.le_refl _⟩ dX6_seenBy_23) (fun r5 M4 H locs G h => ?_)
  obtain ⟨q6, h⟩ := h
  rcases q6 with hz | hz | hz | hz | hz
  · have h := h.1 hz
    rw [hz]
    refine gq_calli G (gc_O (x := ⟨"PaperHouses$Folk", "sees", "(LPaperHouses$Paper;I)I"⟩) (owner := "PaperHouses$Folk") (C := RX5) (rest := []) X hl.1 G (m_X5_sees_19 hI hv0 h) cw_X5_sees qw_18_3 qw_18_4 (va_Decl.abs X.2.2.2.2.2.1.2.2.2.2.2) (by decide) rfl qw_18_12 qw_18_11 ob_Lodger rfl rfl rfl rfl (Nat.le_of_ble_eq_true rfl) ⟨Nat.le_of_ble_eq_true rfl, Nat.le_of_ble_eq_true rfl⟩ ⟨Nat.le_refl _, Nat.le_refl _⟩ dX6_seenBy_26) (fun r8 M7 H locs G h => ?_)
    exact gq_iret X G h dX6_seenBy_29
  · have h := h.2.1 hz
    rw [hz]
    refine gq_calli G (gc_O (x := ⟨"PaperHouses$Folk", "sees", "(LPaperHouses$Paper;I)I"⟩) (owner := "PaperHouses$Folk") (C := RX10) (rest := []) X hl.1 G (m_X10_sees_20 hI hv0 h) cw_X10_sees qw_18_3 qw_18_4 (va_Decl.abs X.2.2.2.2.2.1.2.2.2.2.2) (by decide) rfl qw_18_22 qw_18_21 ob_Widow rfl rfl rfl rfl (Nat.le_of_ble_eq_true rfl) ⟨Nat.le_of_ble_eq_true rfl, Nat.le_of_ble_eq_true rfl⟩ ⟨Nat.le_refl _, Nat.le_refl _⟩ dX6_seenBy_26) (fun r10 M9 H locs G h => ?_)
    exact gq_iret X G h dX6_seenBy_29
  · have h := h.2.2.1 hz
    rw [hz]
    refine gq_calli G (gc_O (x := ⟨"PaperHouses$Folk", "sees", "(LPaperHouses$Paper;I)I"⟩) (owner := "PaperHouses$Folk") (C := RX8) (rest := []) X hl.1 G (m_X8_sees_21 hI hv0 h) cw_X8_sees qw_18_3 qw_18_4 (va_Decl.abs X.2.2.2.2.2.1.2.2.2.2.2) (by decide) rfl qw_18_15 qw_18_14 ob_Short rfl rfl rfl rfl (Nat.le_of_ble_eq_true rfl) ⟨Nat.le_of_ble_eq_true rfl, Nat.le_of_ble_eq_true rfl⟩ ⟨Nat.le_refl _, Nat.le_refl _⟩ dX6_seenBy_26) (fun r12 M11 H locs G h => ?_)
    exact gq_iret X G h dX6_seenBy_29
  · have h := h.2.2.2.1 hz
    rw [hz]
    refine gq_calli G (gc_O (x := ⟨"PaperHouses$Folk", "sees", "(LPaperHouses$Paper;I)I"⟩) (owner := "PaperHouses$Folk") (C := RX2) (rest := []) X hl.1 G (m_X2_sees_22 hI hv0 h) cw_X2_sees qw_18_3 qw_18_4 (va_Decl.abs X.2.2.2.2.2.1.2.2.2.2.2) (by decide) rfl qw_18_9 qw_18_8 ob_Doctor rfl rfl rfl rfl (Nat.le_of_ble_eq_true rfl) ⟨Nat.le_of_ble_eq_true rfl, Nat.le_of_ble_eq_true rfl⟩ ⟨Nat.le_refl _, Nat.le_refl _⟩ dX6_seenBy_26) (fun r14 M13 H locs G h => ?_)
    exact gq_iret X G h dX6_seenBy_29
  · have h := h.2.2.2.2 hz
    rw [hz]
    refine gq_calli G (gc_O (x := ⟨"PaperHouses$Folk", "sees", "(LPaperHouses$Paper;I)I"⟩) (owner := "PaperHouses$Folk") (C := RX1) (rest := []) X hl.1 G (m_X1_sees_23 hI hv0 h) cw_X1_sees qw_18_3 qw_18_4 (va_Decl.abs X.2.2.2.2.2.1.2.2.2.2.2) (by decide) rfl qw_18_6 qw_18_5 ob_Boy rfl rfl rfl rfl (Nat.le_of_ble_eq_true rfl) ⟨Nat.le_of_ble_eq_true rfl, Nat.le_of_ble_eq_true rfl⟩ ⟨Nat.le_refl _, Nat.le_refl _⟩ dX6_seenBy_26) (fun r16 M15 H locs G h => ?_)
    exact gq_iret X G h dX6_seenBy_29
def f_X6_walk_110 (K : Mm → Prop) (v0 : Nat) (v1 : Int32) (M : Mm) : Prop := (vp_in (v1) 5 ∧ (f_X6_seenBy v0 (v1) M (fun r3 M2 => (∀ M4 : Mm, M4 = gU M2 (v0 + 6) (v1 : Int32).toNatClampNeg ((M (v0 + 6) (v1 : Int32).toNatClampNeg) ||| r3) → K M4))))
def f_X6_walk_108 (K : Mm → Prop) (v0 : Nat) (v1 : Int32) (s0 : Int32) (s1 : Int32) (s2 : Int32) (s3 : Nat) (M : Mm) : Prop := (vp_in (s2) 5 ∧ (∀ M7 : Mm, M7 = gU M (v0 + 4) (s2 : Int32).toNatClampNeg (s1 + s0) → f_X6_walk_110 K (v0) (v1) M7))
def f_X6_walk_85 (K : Mm → Prop) (v0 : Nat) (v1 : Int32) (v2 : Int32) (M : Mm) : Prop := ((((M v0 9 : Int32) ≤ 0 : Prop) → f_X6_walk_110 K (v0) (v1) M) ∧ (¬ ((M v0 9 : Int32) ≤ 0 : Prop) → (vp_in (v1) 5 ∧ ((((v2 : Int32) = 0 : Prop) → f_X6_walk_108 K (v0) (v1) (-1) (M (v0 + 4) (v1 : Int32).toNatClampNeg) (v1) ((v0 + 4)) M) ∧ (¬ ((v2 : Int32) = 0 : Prop) → f_X6_walk_108 K (v0) (v1) (1) (M (v0 + 4) (v1 : Int32).toNatClampNeg) (v1) ((v0 + 4)) M)))))
def f_X6_walk_84 (K : Mm → Prop) (v0 : Nat) (v1 : Int32) (v2 : Int32) (s0 : Int32) (s1 : Int32) (s2 : Nat) (M : Mm) : Prop := (vp_in (s1) 5 ∧ (∀ M13 : Mm, M13 = gU M (v0 + 5) (s1 : Int32).toNatClampNeg (s0) → f_X6_walk_85 K (v0) (v1) (v2) M13))
def f_X6_walk_69 (K : Mm → Prop) (v0 : Nat) (v1 : Int32) (s0 : Int32) (M : Mm) : Prop := ((((s0 : Int32) = 0 : Prop) → f_X6_walk_84 K (v0) (v1) (s0) (0) (v1) ((v0 + 5)) M) ∧ (¬ ((s0 : Int32) = 0 : Prop) → f_X6_walk_84 K (v0) (v1) (s0) (1) (v1) ((v0 + 5)) M))
def f_X6_walk_55 (K : Mm → Prop) (v0 : Nat) (v1 : Int32) (v2 : Int32) (s0 : Int32) (M : Mm) : Prop := ((((s0 : Int32) = 0 : Prop) → f_X6_walk_85 K (v0) (v1) (v2) M) ∧ (¬ ((s0 : Int32) = 0 : Prop) → ((((v2 : Int32) = 0 : Prop) → f_X6_walk_69 K (v0) (v1) (1) M) ∧ (¬ ((v2 : Int32) = 0 : Prop) → f_X6_walk_69 K (v0) (v1) (0) M))))
def f_X6_walk_15 (K : Mm → Prop) (v0 : Nat) (v1 : Int32) (s0 : Int32) (M : Mm) : Prop := ((((s0 : Int32) = 0 : Prop) → (vp_in (v1) 5 ∧ ((((0 : Int32) < M (v0 + 4) (v1 : Int32).toNatClampNeg : Prop) → f_X6_walk_55 K (v0) (v1) (s0) (0) M) ∧ (¬ ((0 : Int32) < M (v0 + 4) (v1 : Int32).toNatClampNeg : Prop) → f_X6_walk_55 K (v0) (v1) (s0) (1) M)))) ∧ (¬ ((s0 : Int32) = 0 : Prop) → (vp_in (v1) 5 ∧ ((((M (v0 + 4) (v1 : Int32).toNatClampNeg : Int32) < M v0 9 : Prop) → f_X6_walk_55 K (v0) (v1) (s0) (0) M) ∧ (¬ ((M (v0 + 4) (v1 : Int32).toNatClampNeg : Int32) < M v0 9 : Prop) → f_X6_walk_55 K (v0) (v1) (s0) (1) M)))))
def f_X6_walk (v0 : Nat) (v1 : Int32) (M : Mm) (K : Mm → Prop) : Prop := (vp_in (v1) 5 ∧ ((((M (v0 + 5) (v1 : Int32).toNatClampNeg : Int32) = 1 : Prop) → f_X6_walk_15 K (v0) (v1) (1) M) ∧ (¬ ((M (v0 + 5) (v1 : Int32).toNatClampNeg : Int32) = 1 : Prop) → f_X6_walk_15 K (v0) (v1) (0) M)))
set_option maxHeartbeats 4000000 in
set_option maxRecDepth 100000 in
theorem m_X6_walk (hI : gI 91 ad) {v0 : Nat} (hv0 : isPap v0) {v1 : Int32} {M : Mm} {K : Mm → Prop} (h : f_X6_walk v0 v1 M K) : gM l D cy 91 ad (shC ad cy) yX6_walk cX6_walk 4 none 3 66 [.ref (ad v0), .int (v1)] M (gQv D 91 ad (shC ad cy) K) := by
  refine gM.of (own := RX6) (lv := [(0, .ref (ad v0)), (1, .int (v1))]) (by decide) rfl hI (Nat.le_of_ble_eq_true rfl) rfl ?_
  intro p e s m below meth c ls H locs X G hl
  have hx := X.1
  have hb := X.2.1
  have hJ110 : ∀ (M : Mm) (H : Heap) (locs : List Loc) (ls : Array Slot), gS D s 91 ad (shC ad cy) H locs M → lv_has ls 4 [(0, .ref (ad v0)), (1, .int (v1))] → f_X6_walk_110 K v0 v1 M → gWk p l e 3 66 s m ([.ref (ad v0), .int (v1)] : List Value).toArray below meth c H locs (gQv D 91 ad (shC ad cy) K) 91 ad 110 ls [] := by
    intro M H locs ls G hl h
    unfold f_X6_walk_110 at h
    refine lv_aload_n hx hb dX6_walk_110 rfl (lv_at hl 0 rfl) ?_
    refine gf_Paper_knows X G hv0 qw_4_13 dX6_walk_111 ?_
    refine lv_iload_n hx hb dX6_walk_114 rfl (lv_at hl 1 rfl) ?_
    refine lv_dup2_11 hx hb dX6_walk_115 rfl rfl ?_
    obtain ⟨q1, h⟩ := h
    refine gq_iald X G (ar_Paper_knows hv0) q1 dX6_walk_116 ?_
    refine lv_aload_n hx hb dX6_walk_117 rfl (lv_at hl 0 rfl) ?_
    refine lv_iload_n hx hb dX6_walk_118 rfl (lv_at hl 1 rfl) ?_
    refine gq_calli G (gc_V (C := RX6) (rest := [.int (M (v0 + 6) (v1 : Int32).toNatClampNeg), .int (v1), .ref (ad (v0 + 6))]) X hl.1 G (m_X6_seenBy hI hv0 h) cw_X6_seenBy qw_17_11 qw_17_12 qw_17_13 (ob_Paper hv0) rfl rfl rfl rfl (Nat.le_of_ble_eq_true rfl) ⟨Nat.le_of_ble_eq_true rfl, Nat.le_of_ble_eq_true rfl⟩ ⟨Nat.le_refl _, Nat.le_refl _⟩ dX6_walk_119) (fun r3 M2 H locs G h => ?_)
    refine lv_ior hx hb dX6_walk_122 ?_
    refine gq_iast X G (ar_Paper_knows hv0) q1 dX6_walk_123 (fun M4 H locs e5 G => ?_)
    have h := h M4 e5
    exact gq_vret X G h dX6_walk_124
  have hJ108 : ∀ (s0 : Int32) (s1 : Int32) (s2 : Int32) (s3 : Nat) (M : Mm) (H : Heap) (locs : List Loc) (ls : Array Slot), gS D s 91 ad (shC ad cy) H locs M → lv_has ls 4 [(0, .ref (ad v0)), (1, .int (v1))] → f_X6_walk_108 K v0 v1 s0 s1 s2 s3 M → gWk p l e 3 66 s m ([.ref (ad v0), .int (v1)] : List Value).toArray below meth c H locs (gQv D 91 ad (shC ad cy) K) 91 ad 108 ls [.int (s0), .int (s1), .int (s2), .ref (ad (v0 + 4))] := by
    intro s0 s1 s2 s3 M H locs ls G hl h
    unfold f_X6_walk_108 at h
    refine lv_iadd hx hb dX6_walk_108 ?_
    obtain ⟨q6, h⟩ := h
    refine gq_iast X G (ar_Paper_houses hv0) q6 dX6_walk_109 (fun M7 H locs e8 G => ?_)
    have h := h M7 e8
    exact hJ110   M7 H locs ls G  (lv_sub hl [0, 1] rfl) h
  have hJ85 : ∀ (v2 : Int32) (M : Mm) (H : Heap) (locs : List Loc) (ls : Array Slot), gS D s 91 ad (shC ad cy) H locs M → lv_has ls 4 [(0, .ref (ad v0)), (1, .int (v1)), (2, .int (v2))] → f_X6_walk_85 K v0 v1 v2 M → gWk p l e 3 66 s m ([.ref (ad v0), .int (v1)] : List Value).toArray below meth c H locs (gQv D 91 ad (shC ad cy) K) 91 ad 85 ls [] := by
    intro v2 M H locs ls G hl h
    unfold f_X6_walk_85 at h
    refine lv_aload_n hx hb dX6_walk_85 rfl (lv_at hl 0 rfl) ?_
    refine gf_Paper_wallCount X G hv0 qw_11_4 dX6_walk_86 ?_
    refine lv_if_le (tgt := 110) hx hb dX6_walk_89 (by decide) (fun c9 => ?_) (fun c9 => ?_)
    · have h := h.1 c9
      exact hJ110   M H locs ls G  (lv_sub hl [0, 1] rfl) h
    have h := h.2 c9
    refine lv_aload_n hx hb dX6_walk_92 rfl (lv_at hl 0 rfl) ?_
    refine gf_Paper_houses X G hv0 qw_4_11 dX6_walk_93 ?_
    refine lv_iload_n hx hb dX6_walk_96 rfl (lv_at hl 1 rfl) ?_
    refine lv_dup2_11 hx hb dX6_walk_97 rfl rfl ?_
    obtain ⟨q10, h⟩ := h
    refine gq_iald X G (ar_Paper_houses hv0) q10 dX6_walk_98 ?_
    refine lv_iload_n hx hb dX6_walk_99 rfl (lv_at hl 2 rfl) ?_
    refine lv_if_eq (tgt := 107) hx hb dX6_walk_100 (by decide) (fun c11 => ?_) (fun c11 => ?_)
    · have h := h.1 c11
      refine lv_iconst (v := (-1)) hx hb dX6_walk_107 (by decide) ?_
      exact hJ108  (-1) (M (v0 + 4) (v1 : Int32).toNatClampNeg) (v1) ((v0 + 4)) M H locs ls G  (lv_sub hl [0, 1] rfl) h
    have h := h.2 c11
    refine lv_iconst (v := (1)) hx hb dX6_walk_103 (by decide) ?_
    refine lv_goto (tgt := 108) hx hb dX6_walk_104 (by decide) ?_
    exact hJ108  (1) (M (v0 + 4) (v1 : Int32).toNatClampNeg) (v1) ((v0 + 4)) M H locs ls G  (lv_sub hl [0, 1] rfl) h
  have hJ84 : ∀ (v2 : Int32) (s0 : Int32) (s1 : Int32) (s2 : Nat) (M : Mm) (H : Heap) (locs : List Loc) (ls : Array Slot), gS D s 91 ad (shC ad cy) H locs M → lv_has ls 4 [(0, .ref (ad v0)), (1, .int (v1)), (2, .int (v2))] → f_X6_walk_84 K v0 v1 v2 s0 s1 s2 M → gWk p l e 3 66 s m ([.ref (ad v0), .int (v1)] : List Value).toArray below meth c H locs (gQv D 91 ad (shC ad cy) K) 91 ad 84 ls [.int (s0), .int (s1), .ref (ad (v0 + 5))] := by
    intro v2 s0 s1 s2 M H locs ls G hl h
    unfold f_X6_walk_84 at h
    obtain ⟨q12, h⟩ := h
    refine gq_iast X G (ar_Paper_ways hv0) q12 dX6_walk_84 (fun M13 H locs e14 G => ?_)
    have h := h M13 e14
    exact hJ85 (v2)  M13 H locs ls G  (lv_sub hl [0, 1, 2] rfl) h
  have hJ69 : ∀ (s0 : Int32) (M : Mm) (H : Heap) (locs : List Loc) (ls : Array Slot), gS D s 91 ad (shC ad cy) H locs M → lv_has ls 4 [(0, .ref (ad v0)), (1, .int (v1))] → f_X6_walk_69 K v0 v1 s0 M → gWk p l e 3 66 s m ([.ref (ad v0), .int (v1)] : List Value).toArray below meth c H locs (gQv D 91 ad (shC ad cy) K) 91 ad 69 ls [.int (s0)] := by
    intro s0 M H locs ls G hl h
    unfold f_X6_walk_69 at h
    refine lv_istore_n (lv' := [(2, .int (s0)), (0, .ref (ad v0)), (1, .int (v1))]) hx hb dX6_walk_69 rfl hl (by decide) rfl (fun ls hl => ?_)
    refine lv_aload_n hx hb dX6_walk_70 rfl (lv_at hl 1 rfl) ?_
    refine gf_Paper_ways X G hv0 qw_4_12 dX6_walk_71 ?_
    refine lv_iload_n hx hb dX6_walk_74 rfl (lv_at hl 2 rfl) ?_
    refine lv_iload_n hx hb dX6_walk_75 rfl (lv_at hl 0 rfl) ?_
    refine lv_if_eq (tgt := 83) hx hb dX6_walk_76 (by decide) (fun c15 => ?_) (fun c15 => ?_)
    · have h := h.1 c15
      refine lv_iconst (v := (0)) hx hb dX6_walk_83 (by decide) ?_
      exact hJ84 (s0) (0) (v1) ((v0 + 5)) M H locs ls G  (lv_sub hl [1, 2, 0] rfl) h
    have h := h.2 c15
    refine lv_iconst (v := (1)) hx hb dX6_walk_79 (by decide) ?_
    refine lv_goto (tgt := 84) hx hb dX6_walk_80 (by decide) ?_
    exact hJ84 (s0) (1) (v1) ((v0 + 5)) M H locs ls G  (lv_sub hl [1, 2, 0] rfl) h
  have hJ55 : ∀ (v2 : Int32) (s0 : Int32) (M : Mm) (H : Heap) (locs : List Loc) (ls : Array Slot), gS D s 91 ad (shC ad cy) H locs M → lv_has ls 4 [(0, .ref (ad v0)), (1, .int (v1)), (2, .int (v2))] → f_X6_walk_55 K v0 v1 v2 s0 M → gWk p l e 3 66 s m ([.ref (ad v0), .int (v1)] : List Value).toArray below meth c H locs (gQv D 91 ad (shC ad cy) K) 91 ad 55 ls [.int (s0)] := by
    intro v2 s0 M H locs ls G hl h
    unfold f_X6_walk_55 at h
    refine lv_istore_n (lv' := [(3, .int (s0)), (0, .ref (ad v0)), (1, .int (v1)), (2, .int (v2))]) hx hb dX6_walk_55 rfl hl (by decide) rfl (fun ls hl => ?_)
    refine lv_iload_n hx hb dX6_walk_56 rfl (lv_at hl 0 rfl) ?_
    refine lv_if_eq (tgt := 85) hx hb dX6_walk_57 (by decide) (fun c16 => ?_) (fun c16 => ?_)
    · have h := h.1 c16
      exact hJ85 (v2)  M H locs ls G  (lv_sub hl [1, 2, 3] rfl) h
    have h := h.2 c16
    refine lv_iload_n hx hb dX6_walk_60 rfl (lv_at hl 3 rfl) ?_
    refine lv_if_ne (tgt := 68) hx hb dX6_walk_61 (by decide) (fun c17 => ?_) (fun c17 => ?_)
    · have h := h.2 c17
      refine lv_iconst (v := (0)) hx hb dX6_walk_68 (by decide) ?_
      exact hJ69  (0) M H locs ls G  (lv_sub hl [1, 2] rfl) h
    have h := h.1 c17
    refine lv_iconst (v := (1)) hx hb dX6_walk_64 (by decide) ?_
    refine lv_goto (tgt := 69) hx hb dX6_walk_65 (by decide) ?_
    exact hJ69  (1) M H locs ls G  (lv_sub hl [1, 2] rfl) h
  have hJ15 : ∀ (s0 : Int32) (M : Mm) (H : Heap) (locs : List Loc) (ls : Array Slot), gS D s 91 ad (shC ad cy) H locs M → lv_has ls 4 [(0, .ref (ad v0)), (1, .int (v1))] → f_X6_walk_15 K v0 v1 s0 M → gWk p l e 3 66 s m ([.ref (ad v0), .int (v1)] : List Value).toArray below meth c H locs (gQv D 91 ad (shC ad cy) K) 91 ad 15 ls [.int (s0)] := by
    intro s0 M H locs ls G hl h
    unfold f_X6_walk_15 at h
    refine lv_istore_n (lv' := [(2, .int (s0)), (0, .ref (ad v0)), (1, .int (v1))]) hx hb dX6_walk_15 rfl hl (by decide) rfl (fun ls hl => ?_)
    refine lv_iload_n hx hb dX6_walk_16 rfl (lv_at hl 0 rfl) ?_
    refine lv_if_eq (tgt := 41) hx hb dX6_walk_17 (by decide) (fun c18 => ?_) (fun c18 => ?_)
    · have h := h.1 c18
      refine lv_aload_n hx hb dX6_walk_41 rfl (lv_at hl 1 rfl) ?_
      refine gf_Paper_houses X G hv0 qw_4_11 dX6_walk_42 ?_
      refine lv_iload_n hx hb dX6_walk_45 rfl (lv_at hl 2 rfl) ?_
      obtain ⟨q19, h⟩ := h
      refine gq_iald X G (ar_Paper_houses hv0) q19 dX6_walk_46 ?_
      refine lv_if_gt (tgt := 54) hx hb dX6_walk_47 (by decide) (fun c20 => ?_) (fun c20 => ?_)
      · have h := h.1 c20
        refine lv_iconst (v := (0)) hx hb dX6_walk_54 (by decide) ?_
        exact hJ55 (s0) (0) M H locs ls G  (lv_sub hl [1, 2, 0] rfl) h
      have h := h.2 c20
      refine lv_iconst (v := (1)) hx hb dX6_walk_50 (by decide) ?_
      refine lv_goto (tgt := 55) hx hb dX6_walk_51 (by decide) ?_
      exact hJ55 (s0) (1) M H locs ls G  (lv_sub hl [1, 2, 0] rfl) h
    have h := h.2 c18
    refine lv_aload_n hx hb dX6_walk_20 rfl (lv_at hl 1 rfl) ?_
    refine gf_Paper_houses X G hv0 qw_4_11 dX6_walk_21 ?_
    refine lv_iload_n hx hb dX6_walk_24 rfl (lv_at hl 2 rfl) ?_
    obtain ⟨q21, h⟩ := h
    refine gq_iald X G (ar_Paper_houses hv0) q21 dX6_walk_25 ?_
    refine lv_aload_n hx hb dX6_walk_26 rfl (lv_at hl 1 rfl) ?_
    refine gf_Paper_wallCount X G hv0 qw_11_4 dX6_walk_27 ?_
    refine lv_icmp_lt (tgt := 37) hx hb dX6_walk_30 (by decide) (fun c22 => ?_) (fun c22 => ?_)
    · have h := h.1 c22
      refine lv_iconst (v := (0)) hx hb dX6_walk_37 (by decide) ?_
      refine lv_goto (tgt := 55) hx hb dX6_walk_38 (by decide) ?_
      exact hJ55 (s0) (0) M H locs ls G  (lv_sub hl [1, 2, 0] rfl) h
    have h := h.2 c22
    refine lv_iconst (v := (1)) hx hb dX6_walk_33 (by decide) ?_
    refine lv_goto (tgt := 55) hx hb dX6_walk_34 (by decide) ?_
    exact hJ55 (s0) (1) M H locs ls G  (lv_sub hl [1, 2, 0] rfl) h
  unfold f_X6_walk at h
  refine lv_aload_n hx hb dX6_walk_0 rfl (lv_at hl 0 rfl) ?_
  refine gf_Paper_ways X G hv0 qw_4_12 dX6_walk_1 ?_
  refine lv_iload_n hx hb dX6_walk_4 rfl (lv_at hl 1 rfl) ?_
  obtain ⟨q23, h⟩ := h
  refine gq_iald X G (ar_Paper_ways hv0) q23 dX6_walk_5 ?_
  refine lv_iconst (v := (1)) hx hb dX6_walk_6 (by decide) ?_
  refine lv_icmp_ne (tgt := 14) hx hb dX6_walk_7 (by decide) (fun c24 => ?_) (fun c24 => ?_)
  · have h := h.2 c24
    refine lv_iconst (v := (0)) hx hb dX6_walk_14 (by decide) ?_
    exact hJ15  (0) M H locs ls G  (lv_sub hl [0, 1] rfl) h
  have h := h.1 c24
  refine lv_iconst (v := (1)) hx hb dX6_walk_10 (by decide) ?_
  refine lv_goto (tgt := 15) hx hb dX6_walk_11 (by decide) ?_
  exact hJ15  (1) M H locs ls G  (lv_sub hl [0, 1] rfl) h
def l_X6_passDay_2 (K : Mm → Prop) (v0 : Nat) : Nat → Int32 → Mm → Prop
  | 0, _, _ => False
  | n + 1, v1, M => ((((M v0 10 : Int32) ≤ v1 : Prop) → (f_X6_endDay v0 M (fun M2 => K M2))) ∧ (¬ ((M v0 10 : Int32) ≤ v1 : Prop) → (f_X6_walk v0 (v1) M (fun M3 => (l_X6_passDay_2 K v0 n) (v1 + 1) M3))))
def f_X6_passDay (v0 : Nat) (M : Mm) (K : Mm → Prop) : Prop := ∃ z, l_X6_passDay_2 K (v0) z (0) M
set_option maxHeartbeats 4000000 in
set_option maxRecDepth 100000 in
theorem m_X6_passDay (hI : gI 91 ad) {v0 : Nat} (hv0 : isPap v0) {M : Mm} {K : Mm → Prop} (h : f_X6_passDay v0 M K) : gM l D cy 91 ad (shC ad cy) yX6_passDay cX6_passDay 2 none 4 89 [.ref (ad v0)] M (gQv D 91 ad (shC ad cy) K) := by
  refine gM.of (own := RX6) (lv := [(0, .ref (ad v0))]) (by decide) rfl hI (Nat.le_of_ble_eq_true rfl) rfl ?_
  intro p e s m below meth c ls H locs X G hl
  have hx := X.1
  have hb := X.2.1
  have hL2 : ∀ (n : Nat) (v1 : Int32) (M : Mm) (H : Heap) (locs : List Loc) (ls : Array Slot), gS D s 91 ad (shC ad cy) H locs M → lv_has ls 2 [(0, .ref (ad v0)), (1, .int (v1))] → l_X6_passDay_2 K v0 n v1 M → gWk p l e 4 89 s m ([.ref (ad v0)] : List Value).toArray below meth c H locs (gQv D 91 ad (shC ad cy) K) 91 ad 2 ls [] := by
    intro n2
    induction n2 with
    | zero =>
      intro v1 M H locs ls G hl h
      exact False.elim h
    | succ n2 ih2 =>
      intro v1 M H locs ls G hl h
      rw [l_X6_passDay_2] at h
      refine lv_iload_n hx hb dX6_passDay_2 rfl (lv_at hl 1 rfl) ?_
      refine lv_aload_n hx hb dX6_passDay_3 rfl (lv_at hl 0 rfl) ?_
      refine gf_Paper_folkCount X G hv0 qw_11_5 dX6_passDay_4 ?_
      refine lv_icmp_ge (tgt := 21) hx hb dX6_passDay_7 (by decide) (fun c1 => ?_) (fun c1 => ?_)
      · have h := h.1 c1
        refine lv_aload_n hx hb dX6_passDay_21 rfl (lv_at hl 0 rfl) ?_
        refine gq_callv G (gc_V (C := RX6) (rest := []) X hl.1 G (m_X6_endDay hI hv0 h) cw_X6_endDay qw_19_3 qw_19_4 qw_19_5 (ob_Paper hv0) rfl rfl rfl rfl (Nat.le_of_ble_eq_true rfl) ⟨Nat.le_of_ble_eq_true rfl, Nat.le_of_ble_eq_true rfl⟩ ⟨Nat.le_refl _, Nat.le_refl _⟩ dX6_passDay_22) (fun M2 H locs G h => ?_)
        exact gq_vret X G h dX6_passDay_25
      have h := h.2 c1
      refine lv_aload_n hx hb dX6_passDay_10 rfl (lv_at hl 0 rfl) ?_
      refine lv_iload_n hx hb dX6_passDay_11 rfl (lv_at hl 1 rfl) ?_
      refine gq_callv G (gc_V (C := RX6) (rest := []) X hl.1 G (m_X6_walk hI hv0 h) cw_X6_walk qw_17_7 qw_17_8 qw_17_9 (ob_Paper hv0) rfl rfl rfl rfl (Nat.le_of_ble_eq_true rfl) ⟨Nat.le_of_ble_eq_true rfl, Nat.le_of_ble_eq_true rfl⟩ ⟨Nat.le_refl _, Nat.le_refl _⟩ dX6_passDay_12) (fun M3 H locs G h => ?_)
      refine lv_iinc (v := v1 + 1) (lv' := [(1, .int (v1 + 1)), (0, .ref (ad v0))]) hx hb dX6_passDay_15 hl (k := 1) rfl rfl (by decide) rfl (fun ls hl => ?_)
      refine lv_goto (tgt := 2) hx hb dX6_passDay_18 (by decide) ?_
      exact ih2 (v1 + 1) M3 H locs ls G  (lv_sub hl [1, 0] rfl) h
  unfold f_X6_passDay at h
  refine lv_iconst (v := (0)) hx hb dX6_passDay_0 (by decide) ?_
  refine lv_istore_n (lv' := [(1, .int (0)), (0, .ref (ad v0))]) hx hb dX6_passDay_1 rfl hl (by decide) rfl (fun ls hl => ?_)
  obtain ⟨n4, h⟩ := h
  exact hL2   n4 (0) M H locs ls G  (lv_sub hl [1, 0] rfl) h
def l_X11_days_44 (K : Int32 → Mm → Prop) (v1 : Int32) : Nat → Int32 → Mm → Prop
  | 0, _, _ => False
  | n + 1, v2, M => ((((v1 : Int32) ≤ v2 : Prop) → (f_X6_knownByAnybody 26 M (fun r3 M2 => K (r3) M2))) ∧ (¬ ((v1 : Int32) ≤ v2 : Prop) → (f_X11_keepAct  M (fun M4 => (f_X6_passDay 26 M4 (fun M5 => (l_X11_days_44 K v1 n) (v2 + 1) M5))))))
def f_X11_days (v1 : Int32) (M : Mm) (K : Int32 → Mm → Prop) : Prop := (f_X11_noPaper  M (fun r7 M6 => ((((r7 : Int32) = 0 : Prop) → ((((v1 : Int32) < 1 : Prop) → K (-1000001) M6) ∧ (¬ ((v1 : Int32) < 1 : Prop) → ((((v1 : Int32) ≤ 24 : Prop) → (((((M6 26 13) + v1 : Int32) ≤ 9999 : Prop) → ∃ z, l_X11_days_44 K (v1) z (0) M6) ∧ (¬ (((M6 26 13) + v1 : Int32) ≤ 9999 : Prop) → K (-1000003) M6))) ∧ (¬ ((v1 : Int32) ≤ 24 : Prop) → K (-1000001) M6))))) ∧ (¬ ((r7 : Int32) = 0 : Prop) → K (-1000002) M6))))
set_option maxHeartbeats 4000000 in
set_option maxRecDepth 100000 in
theorem m_X11_days (hI : gI 91 ad) {v1 : Int32} {M : Mm} {K : Int32 → Mm → Prop} (h : f_X11_days v1 M K) : gM l D cy 91 ad (shC ad cy) yX11_days cX11_days 3 (some .int) 5 110 [.ref (ad 0), .int (v1)] M (gQi D 91 ad (shC ad cy) K) := by
  refine gM.of (own := RX11) (lv := [(0, .ref (ad 0)), (1, .int (v1))]) (by decide) rfl hI (Nat.le_of_ble_eq_true rfl) rfl ?_
  intro p e s m below meth c ls H locs X G hl
  have hx := X.1
  have hb := X.2.1
  have hL44 : ∀ (n : Nat) (v2 : Int32) (M : Mm) (H : Heap) (locs : List Loc) (ls : Array Slot), gS D s 91 ad (shC ad cy) H locs M → lv_has ls 3 [(0, .ref (ad 0)), (1, .int (v1)), (2, .int (v2))] → l_X11_days_44 K v1 n v2 M → gWk p l e 5 110 s m ([.ref (ad 0), .int (v1)] : List Value).toArray below meth c H locs (gQi D 91 ad (shC ad cy) K) 91 ad 44 ls [] := by
    intro n44
    induction n44 with
    | zero =>
      intro v2 M H locs ls G hl h
      exact False.elim h
    | succ n44 ih44 =>
      intro v2 M H locs ls G hl h
      rw [l_X11_days_44] at h
      refine lv_iload_n hx hb dX11_days_44 rfl (lv_at hl 2 rfl) ?_
      refine lv_iload_n hx hb dX11_days_45 rfl (lv_at hl 1 rfl) ?_
      refine lv_icmp_ge (tgt := 66) hx hb dX11_days_46 (by decide) (fun c1 => ?_) (fun c1 => ?_)
      · have h := h.1 c1
        refine lv_aload_n hx hb dX11_days_66 rfl (lv_at hl 0 rfl) ?_
        refine gf_PH_now X G qw_2_16 dX11_days_67 ?_
        refine gq_calli G (gc_VN (C := RX6) (rest := []) X hl.1 G (m_X6_knownByAnybody hI isPap_26 h) cw_X6_knownByAnybody nm_30 qw_19_7 qw_19_8 (ob_Paper isPap_26) rfl rfl rfl rfl (Nat.le_of_ble_eq_true rfl) ⟨Nat.le_of_ble_eq_true rfl, Nat.le_of_ble_eq_true rfl⟩ ⟨Nat.le_refl _, Nat.le_refl _⟩ dX11_days_70) (fun r3 M2 H locs G h => ?_)
        exact gq_iret X G h dX11_days_73
      have h := h.2 c1
      refine lv_aload_n hx hb dX11_days_49 rfl (lv_at hl 0 rfl) ?_
      refine gq_callv G (gc_V (C := RX11) (rest := []) X hl.1 G (m_X11_keepAct hI  h) cw_X11_keepAct qw_16_21 qw_16_22 qw_16_23 ob_PH rfl rfl rfl rfl (Nat.le_of_ble_eq_true rfl) ⟨Nat.le_of_ble_eq_true rfl, Nat.le_of_ble_eq_true rfl⟩ ⟨Nat.le_refl _, Nat.le_refl _⟩ dX11_days_50) (fun M4 H locs G h => ?_)
      refine lv_aload_n hx hb dX11_days_53 rfl (lv_at hl 0 rfl) ?_
      refine gf_PH_now X G qw_2_16 dX11_days_54 ?_
      refine gq_callv G (gc_VN (C := RX6) (rest := []) X hl.1 G (m_X6_passDay hI isPap_26 h) cw_X6_passDay nm_28 qw_17_4 qw_17_5 (ob_Paper isPap_26) rfl rfl rfl rfl (Nat.le_of_ble_eq_true rfl) ⟨Nat.le_of_ble_eq_true rfl, Nat.le_of_ble_eq_true rfl⟩ ⟨Nat.le_refl _, Nat.le_refl _⟩ dX11_days_57) (fun M5 H locs G h => ?_)
      refine lv_iinc (v := v2 + 1) (lv' := [(2, .int (v2 + 1)), (0, .ref (ad 0)), (1, .int (v1))]) hx hb dX11_days_60 hl (k := 2) rfl rfl (by decide) rfl (fun ls hl => ?_)
      refine lv_goto (tgt := 44) hx hb dX11_days_63 (by decide) ?_
      exact ih44 (v2 + 1) M5 H locs ls G  (lv_sub hl [1, 2, 0] rfl) h
  unfold f_X11_days at h
  refine lv_aload_n hx hb dX11_days_0 rfl (lv_at hl 0 rfl) ?_
  refine gq_calli G (gc_V (C := RX11) (rest := []) X hl.1 G (m_X11_noPaper hI  h) cw_X11_noPaper qw_16_17 qw_16_18 qw_16_19 ob_PH rfl rfl rfl rfl (Nat.le_of_ble_eq_true rfl) ⟨Nat.le_of_ble_eq_true rfl, Nat.le_of_ble_eq_true rfl⟩ ⟨Nat.le_refl _, Nat.le_refl _⟩ dX11_days_1) (fun r7 M6 H locs G h => ?_)
  refine lv_if_eq (tgt := 10) hx hb dX11_days_4 (by decide) (fun c8 => ?_) (fun c8 => ?_)
  · have h := h.1 c8
    refine lv_iload_n hx hb dX11_days_10 rfl (lv_at hl 1 rfl) ?_
    refine lv_iconst (v := (1)) hx hb dX11_days_11 (by decide) ?_
    refine lv_icmp_lt (tgt := 21) hx hb dX11_days_12 (by decide) (fun c9 => ?_) (fun c9 => ?_)
    · have h := h.1 c9
      refine gq_ldc (v := (-1000001)) X qw_6_5 dX11_days_21 ?_
      exact gq_iret X G h dX11_days_23
    have h := h.2 c9
    refine lv_iload_n hx hb dX11_days_15 rfl (lv_at hl 1 rfl) ?_
    refine lv_bipush (v := (24)) hx hb dX11_days_16 (by decide) ?_
    refine lv_icmp_le (tgt := 24) hx hb dX11_days_18 (by decide) (fun c10 => ?_) (fun c10 => ?_)
    · have h := h.1 c10
      refine lv_aload_n hx hb dX11_days_24 rfl (lv_at hl 0 rfl) ?_
      refine gf_PH_now X G qw_2_16 dX11_days_25 ?_
      refine gfN_Paper_day X G isPap_26 nf_40 dX11_days_28 ?_
      refine lv_iload_n hx hb dX11_days_31 rfl (lv_at hl 1 rfl) ?_
      refine lv_iadd hx hb dX11_days_32 ?_
      refine lv_sipush (v := (9999)) hx hb dX11_days_33 (by decide) ?_
      refine lv_icmp_le (tgt := 42) hx hb dX11_days_36 (by decide) (fun c11 => ?_) (fun c11 => ?_)
      · have h := h.1 c11
        refine lv_iconst (v := (0)) hx hb dX11_days_42 (by decide) ?_
        refine lv_istore_n (lv' := [(2, .int (0)), (0, .ref (ad 0)), (1, .int (v1))]) hx hb dX11_days_43 rfl hl (by decide) rfl (fun ls hl => ?_)
        obtain ⟨n12, h⟩ := h
        exact hL44   n12 (0) M6 H locs ls G  (lv_sub hl [1, 2, 0] rfl) h
      have h := h.2 c11
      refine gq_ldc (v := (-1000003)) X qw_10_1 dX11_days_39 ?_
      exact gq_iret X G h dX11_days_41
    have h := h.2 c10
    refine gq_ldc (v := (-1000001)) X qw_6_5 dX11_days_21 ?_
    exact gq_iret X G h dX11_days_23
  have h := h.2 c8
  refine gq_ldc (v := (-1000002)) X qw_16_16 dX11_days_7 ?_
  exact gq_iret X G h dX11_days_9
def f_X6_hasWall (v0 : Nat) (v1 : Int32) (M : Mm) (K : Int32 → Mm → Prop) : Prop := ((((v1 : Int32) < 0 : Prop) → K 0 M) ∧ (¬ ((v1 : Int32) < 0 : Prop) → ((((M v0 9 : Int32) ≤ v1 : Prop) → K 0 M) ∧ (¬ ((M v0 9 : Int32) ≤ v1 : Prop) → K 1 M))))
set_option maxHeartbeats 4000000 in
set_option maxRecDepth 100000 in
theorem m_X6_hasWall (hI : gI 91 ad) {v0 : Nat} (hv0 : isPap v0) {v1 : Int32} {M : Mm} {K : Int32 → Mm → Prop} (h : f_X6_hasWall v0 v1 M K) : gM l D cy 91 ad (shC ad cy) yX6_hasWall cX6_hasWall 2 (some .boolean) 0 0 [.ref (ad v0), .int (v1)] M (gQi D 91 ad (shC ad cy) K) := by
  refine gM.of (own := RX6) (lv := [(0, .ref (ad v0)), (1, .int (v1))]) (by decide) rfl hI (Nat.le_of_ble_eq_true rfl) rfl ?_
  intro p e s m below meth c ls H locs X G hl
  have hx := X.1
  have hb := X.2.1
  unfold f_X6_hasWall at h
  refine lv_iload_n hx hb dX6_hasWall_0 rfl (lv_at hl 1 rfl) ?_
  refine lv_if_lt (tgt := 16) hx hb dX6_hasWall_1 (by decide) (fun c1 => ?_) (fun c1 => ?_)
  · have h := h.1 c1
    refine lv_iconst (v := (0)) hx hb dX6_hasWall_16 (by decide) ?_
    exact gq_zret X G (Or.inl rfl) h dX6_hasWall_17
  have h := h.2 c1
  refine lv_iload_n hx hb dX6_hasWall_4 rfl (lv_at hl 1 rfl) ?_
  refine lv_aload_n hx hb dX6_hasWall_5 rfl (lv_at hl 0 rfl) ?_
  refine gf_Paper_wallCount X G hv0 qw_11_4 dX6_hasWall_6 ?_
  refine lv_icmp_ge (tgt := 16) hx hb dX6_hasWall_9 (by decide) (fun c2 => ?_) (fun c2 => ?_)
  · have h := h.1 c2
    refine lv_iconst (v := (0)) hx hb dX6_hasWall_16 (by decide) ?_
    exact gq_zret X G (Or.inl rfl) h dX6_hasWall_17
  have h := h.2 c2
  refine lv_iconst (v := (1)) hx hb dX6_hasWall_12 (by decide) ?_
  refine lv_goto (tgt := 17) hx hb dX6_hasWall_13 (by decide) ?_
  exact gq_zret X G (Or.inr rfl) h dX6_hasWall_17
def f_X11_isBit (v0 : Int32) (M : Mm) (K : Int32 → Mm → Prop) : Prop := ((((v0 : Int32) = 0 : Prop) → K 1 M) ∧ (¬ ((v0 : Int32) = 0 : Prop) → ((((v0 : Int32) = 1 : Prop) → K 1 M) ∧ (¬ ((v0 : Int32) = 1 : Prop) → K 0 M))))
set_option maxHeartbeats 4000000 in
set_option maxRecDepth 100000 in
theorem m_X11_isBit (hI : gI 91 ad) {v0 : Int32} {M : Mm} {K : Int32 → Mm → Prop} (h : f_X11_isBit v0 M K) : gM l D cy 91 ad (shC ad cy) yX11_isBit cX11_isBit 1 (some .boolean) 0 0 [.int (v0)] M (gQi D 91 ad (shC ad cy) K) := by
  refine gM.of (own := RX11) (lv := [(0, .int (v0))]) (by decide) rfl hI (Nat.le_of_ble_eq_true rfl) rfl ?_
  intro p e s m below meth c ls H locs X G hl
  have hx := X.1
  have hb := X.2.1
  unfold f_X11_isBit at h
  refine lv_iload_n hx hb dX11_isBit_0 rfl (lv_at hl 0 rfl) ?_
  refine lv_if_eq (tgt := 9) hx hb dX11_isBit_1 (by decide) (fun c1 => ?_) (fun c1 => ?_)
  · have h := h.1 c1
    refine lv_iconst (v := (1)) hx hb dX11_isBit_9 (by decide) ?_
    refine lv_goto (tgt := 14) hx hb dX11_isBit_10 (by decide) ?_
    exact gq_zret X G (Or.inr rfl) h dX11_isBit_14
  have h := h.2 c1
  refine lv_iload_n hx hb dX11_isBit_4 rfl (lv_at hl 0 rfl) ?_
  refine lv_iconst (v := (1)) hx hb dX11_isBit_5 (by decide) ?_
  refine lv_icmp_ne (tgt := 13) hx hb dX11_isBit_6 (by decide) (fun c2 => ?_) (fun c2 => ?_)
  · have h := h.2 c2
    refine lv_iconst (v := (0)) hx hb dX11_isBit_13 (by decide) ?_
    exact gq_zret X G (Or.inl rfl) h dX11_isBit_14
  have h := h.1 c2
  refine lv_iconst (v := (1)) hx hb dX11_isBit_9 (by decide) ?_
  refine lv_goto (tgt := 14) hx hb dX11_isBit_10 (by decide) ?_
  exact gq_zret X G (Or.inr rfl) h dX11_isBit_14
def l_X6_freeForWall_17 (K : Int32 → Mm → Prop) (v0 : Nat) (v1 : Int32) : Nat → Int32 → Mm → Prop
  | 0, _, _ => False
  | n + 1, v2, M => ((((M v0 9 : Int32) ≤ v2 : Prop) → K 1 M) ∧ (¬ ((M v0 9 : Int32) ≤ v2 : Prop) → (vp_in (v2) 5 ∧ ((((M (v0 + 2) (v2 : Int32).toNatClampNeg : Int32) = v1 : Prop) → K 0 M) ∧ (¬ ((M (v0 + 2) (v2 : Int32).toNatClampNeg : Int32) = v1 : Prop) → (l_X6_freeForWall_17 K v0 v1 n) (v2 + 1) M)))))
def f_X6_freeForWall (v0 : Nat) (v1 : Int32) (M : Mm) (K : Int32 → Mm → Prop) : Prop := ((((v1 : Int32) < 1 : Prop) → K 0 M) ∧ (¬ ((v1 : Int32) < 1 : Prop) → ((((v1 : Int32) < M v0 8 : Prop) → ∃ z, l_X6_freeForWall_17 K (v0) (v1) z (0) M) ∧ (¬ ((v1 : Int32) < M v0 8 : Prop) → K 0 M))))
set_option maxHeartbeats 4000000 in
set_option maxRecDepth 100000 in
theorem m_X6_freeForWall (hI : gI 91 ad) {v0 : Nat} (hv0 : isPap v0) {v1 : Int32} {M : Mm} {K : Int32 → Mm → Prop} (h : f_X6_freeForWall v0 v1 M K) : gM l D cy 91 ad (shC ad cy) yX6_freeForWall cX6_freeForWall 3 (some .boolean) 0 0 [.ref (ad v0), .int (v1)] M (gQi D 91 ad (shC ad cy) K) := by
  refine gM.of (own := RX6) (lv := [(0, .ref (ad v0)), (1, .int (v1))]) (by decide) rfl hI (Nat.le_of_ble_eq_true rfl) rfl ?_
  intro p e s m below meth c ls H locs X G hl
  have hx := X.1
  have hb := X.2.1
  have hL17 : ∀ (n : Nat) (v2 : Int32) (M : Mm) (H : Heap) (locs : List Loc) (ls : Array Slot), gS D s 91 ad (shC ad cy) H locs M → lv_has ls 3 [(0, .ref (ad v0)), (1, .int (v1)), (2, .int (v2))] → l_X6_freeForWall_17 K v0 v1 n v2 M → gWk p l e 0 0 s m ([.ref (ad v0), .int (v1)] : List Value).toArray below meth c H locs (gQi D 91 ad (shC ad cy) K) 91 ad 17 ls [] := by
    intro n17
    induction n17 with
    | zero =>
      intro v2 M H locs ls G hl h
      exact False.elim h
    | succ n17 ih17 =>
      intro v2 M H locs ls G hl h
      rw [l_X6_freeForWall_17] at h
      refine lv_iload_n hx hb dX6_freeForWall_17 rfl (lv_at hl 2 rfl) ?_
      refine lv_aload_n hx hb dX6_freeForWall_18 rfl (lv_at hl 0 rfl) ?_
      refine gf_Paper_wallCount X G hv0 qw_11_4 dX6_freeForWall_19 ?_
      refine lv_icmp_ge (tgt := 43) hx hb dX6_freeForWall_22 (by decide) (fun c1 => ?_) (fun c1 => ?_)
      · have h := h.1 c1
        refine lv_iconst (v := (1)) hx hb dX6_freeForWall_43 (by decide) ?_
        exact gq_zret X G (Or.inr rfl) h dX6_freeForWall_44
      have h := h.2 c1
      refine lv_aload_n hx hb dX6_freeForWall_25 rfl (lv_at hl 0 rfl) ?_
      refine gf_Paper_walls X G hv0 qw_4_9 dX6_freeForWall_26 ?_
      refine lv_iload_n hx hb dX6_freeForWall_29 rfl (lv_at hl 2 rfl) ?_
      obtain ⟨q2, h⟩ := h
      refine gq_iald X G (ar_Paper_walls hv0) q2 dX6_freeForWall_30 ?_
      refine lv_iload_n hx hb dX6_freeForWall_31 rfl (lv_at hl 1 rfl) ?_
      refine lv_icmp_ne (tgt := 37) hx hb dX6_freeForWall_32 (by decide) (fun c3 => ?_) (fun c3 => ?_)
      · have h := h.2 c3
        refine lv_iinc (v := v2 + 1) (lv' := [(2, .int (v2 + 1)), (0, .ref (ad v0)), (1, .int (v1))]) hx hb dX6_freeForWall_37 hl (k := 2) rfl rfl (by decide) rfl (fun ls hl => ?_)
        refine lv_goto (tgt := 17) hx hb dX6_freeForWall_40 (by decide) ?_
        exact ih17 (v2 + 1) M H locs ls G  (lv_sub hl [1, 2, 0] rfl) h
      have h := h.1 c3
      refine lv_iconst (v := (0)) hx hb dX6_freeForWall_35 (by decide) ?_
      exact gq_zret X G (Or.inl rfl) h dX6_freeForWall_36
  unfold f_X6_freeForWall at h
  refine lv_iload_n hx hb dX6_freeForWall_0 rfl (lv_at hl 1 rfl) ?_
  refine lv_iconst (v := (1)) hx hb dX6_freeForWall_1 (by decide) ?_
  refine lv_icmp_lt (tgt := 13) hx hb dX6_freeForWall_2 (by decide) (fun c4 => ?_) (fun c4 => ?_)
  · have h := h.1 c4
    refine lv_iconst (v := (0)) hx hb dX6_freeForWall_13 (by decide) ?_
    exact gq_zret X G (Or.inl rfl) h dX6_freeForWall_14
  have h := h.2 c4
  refine lv_iload_n hx hb dX6_freeForWall_5 rfl (lv_at hl 1 rfl) ?_
  refine lv_aload_n hx hb dX6_freeForWall_6 rfl (lv_at hl 0 rfl) ?_
  refine gf_Paper_cells X G hv0 qw_11_3 dX6_freeForWall_7 ?_
  refine lv_icmp_lt (tgt := 15) hx hb dX6_freeForWall_10 (by decide) (fun c5 => ?_) (fun c5 => ?_)
  · have h := h.1 c5
    refine lv_iconst (v := (0)) hx hb dX6_freeForWall_15 (by decide) ?_
    refine lv_istore_n (lv' := [(2, .int (0)), (0, .ref (ad v0)), (1, .int (v1))]) hx hb dX6_freeForWall_16 rfl hl (by decide) rfl (fun ls hl => ?_)
    obtain ⟨n6, h⟩ := h
    exact hL17   n6 (0) M H locs ls G  (lv_sub hl [1, 2, 0] rfl) h
  have h := h.2 c5
  refine lv_iconst (v := (0)) hx hb dX6_freeForWall_13 (by decide) ?_
  exact gq_zret X G (Or.inl rfl) h dX6_freeForWall_14
def f_X11_move_40 (K : Int32 → Mm → Prop) (v1 : Int32) (s0 : Int32) (s1 : Int32) (M : Mm) : Prop := (f_X6_freeForWall 26 (s1 + s0) M (fun r2 M1 => ((((r2 : Int32) = 0 : Prop) → K (-1000002) M1) ∧ (¬ ((r2 : Int32) = 0 : Prop) → (f_X11_keepAct  M1 (fun M4 => (vp_in (v1) 5 ∧ (∀ M6 : Mm, M6 = gU M4 (26 + 2) (v1 : Int32).toNatClampNeg (s1 + s0) → K (s1 + s0) M6))))))))
def f_X11_move (v1 : Int32) (v2 : Int32) (M : Mm) (K : Int32 → Mm → Prop) : Prop := (f_X6_hasWall 26 (v1) M (fun r9 M8 => ((((r9 : Int32) = 0 : Prop) → K (-1000001) M8) ∧ (¬ ((r9 : Int32) = 0 : Prop) → (f_X11_isBit (v2) M8 (fun r12 M11 => ((((r12 : Int32) = 0 : Prop) → K (-1000001) M11) ∧ (¬ ((r12 : Int32) = 0 : Prop) → (vp_in (v1) 5 ∧ ((((v2 : Int32) = 1 : Prop) → f_X11_move_40 K (v1) (1) (M11 (26 + 2) (v1 : Int32).toNatClampNeg) M11) ∧ (¬ ((v2 : Int32) = 1 : Prop) → f_X11_move_40 K (v1) (-1) (M11 (26 + 2) (v1 : Int32).toNatClampNeg) M11)))))))))))
set_option maxHeartbeats 4000000 in
set_option maxRecDepth 100000 in
theorem m_X11_move (hI : gI 91 ad) {v1 : Int32} {v2 : Int32} {M : Mm} {K : Int32 → Mm → Prop} (h : f_X11_move v1 v2 M K) : gM l D cy 91 ad (shC ad cy) yX11_move cX11_move 4 (some .int) 3 105 [.ref (ad 0), .int (v1), .int (v2)] M (gQi D 91 ad (shC ad cy) K) := by
  refine gM.of (own := RX11) (lv := [(0, .ref (ad 0)), (1, .int (v1)), (2, .int (v2))]) (by decide) rfl hI (Nat.le_of_ble_eq_true rfl) rfl ?_
  intro p e s m below meth c ls H locs X G hl
  have hx := X.1
  have hb := X.2.1
  have hJ40 : ∀ (s0 : Int32) (s1 : Int32) (M : Mm) (H : Heap) (locs : List Loc) (ls : Array Slot), gS D s 91 ad (shC ad cy) H locs M → lv_has ls 4 [(0, .ref (ad 0)), (1, .int (v1))] → f_X11_move_40 K v1 s0 s1 M → gWk p l e 3 105 s m ([.ref (ad 0), .int (v1), .int (v2)] : List Value).toArray below meth c H locs (gQi D 91 ad (shC ad cy) K) 91 ad 40 ls [.int (s0), .int (s1)] := by
    intro s0 s1 M H locs ls G hl h
    unfold f_X11_move_40 at h
    refine lv_iadd hx hb dX11_move_40 ?_
    refine lv_istore_n (lv' := [(3, .int (s1 + s0)), (0, .ref (ad 0)), (1, .int (v1))]) hx hb dX11_move_41 rfl hl (by decide) rfl (fun ls hl => ?_)
    refine lv_aload_n hx hb dX11_move_42 rfl (lv_at hl 1 rfl) ?_
    refine gf_PH_now X G qw_2_16 dX11_move_43 ?_
    refine lv_iload_n hx hb dX11_move_46 rfl (lv_at hl 0 rfl) ?_
    refine gq_calli G (gc_VN (C := RX6) (rest := []) X hl.1 G (m_X6_freeForWall hI isPap_26 h) cw_X6_freeForWall nm_32 qw_21_5 qw_21_6 (ob_Paper isPap_26) rfl rfl rfl rfl (Nat.le_of_ble_eq_true rfl) ⟨Nat.le_of_ble_eq_true rfl, Nat.le_of_ble_eq_true rfl⟩ ⟨Nat.le_refl _, Nat.le_refl _⟩ dX11_move_47) (fun r2 M1 H locs G h => ?_)
    refine lv_if_ne (tgt := 56) hx hb dX11_move_50 (by decide) (fun c3 => ?_) (fun c3 => ?_)
    · have h := h.2 c3
      refine lv_aload_n hx hb dX11_move_56 rfl (lv_at hl 1 rfl) ?_
      refine gq_callv G (gc_V (C := RX11) (rest := []) X hl.1 G (m_X11_keepAct hI  h) cw_X11_keepAct qw_16_21 qw_16_22 qw_16_23 ob_PH rfl rfl rfl rfl (Nat.le_of_ble_eq_true rfl) ⟨Nat.le_of_ble_eq_true rfl, Nat.le_of_ble_eq_true rfl⟩ ⟨Nat.le_refl _, Nat.le_refl _⟩ dX11_move_57) (fun M4 H locs G h => ?_)
      refine lv_aload_n hx hb dX11_move_60 rfl (lv_at hl 1 rfl) ?_
      refine gf_PH_now X G qw_2_16 dX11_move_61 ?_
      refine gfN_Paper_walls X G isPap_26 nf_12 dX11_move_64 ?_
      refine lv_iload_n hx hb dX11_move_67 rfl (lv_at hl 2 rfl) ?_
      refine lv_iload_n hx hb dX11_move_68 rfl (lv_at hl 0 rfl) ?_
      obtain ⟨q5, h⟩ := h
      refine gq_iast X G (ar_Paper_walls isPap_26) q5 dX11_move_69 (fun M6 H locs e7 G => ?_)
      have h := h M6 e7
      refine lv_iload_n hx hb dX11_move_70 rfl (lv_at hl 0 rfl) ?_
      exact gq_iret X G h dX11_move_71
    have h := h.1 c3
    refine gq_ldc (v := (-1000002)) X qw_16_16 dX11_move_53 ?_
    exact gq_iret X G h dX11_move_55
  unfold f_X11_move at h
  refine lv_aload_n hx hb dX11_move_0 rfl (lv_at hl 0 rfl) ?_
  refine gf_PH_now X G qw_2_16 dX11_move_1 ?_
  refine lv_iload_n hx hb dX11_move_4 rfl (lv_at hl 1 rfl) ?_
  refine gq_calli G (gc_VN (C := RX6) (rest := []) X hl.1 G (m_X6_hasWall hI isPap_26 h) cw_X6_hasWall nm_31 qw_20_23 qw_21_0 (ob_Paper isPap_26) rfl rfl rfl rfl (Nat.le_of_ble_eq_true rfl) ⟨Nat.le_of_ble_eq_true rfl, Nat.le_of_ble_eq_true rfl⟩ ⟨Nat.le_refl _, Nat.le_refl _⟩ dX11_move_5) (fun r9 M8 H locs G h => ?_)
  refine lv_if_eq (tgt := 18) hx hb dX11_move_8 (by decide) (fun c10 => ?_) (fun c10 => ?_)
  · have h := h.1 c10
    refine gq_ldc (v := (-1000001)) X qw_6_5 dX11_move_18 ?_
    exact gq_iret X G h dX11_move_20
  have h := h.2 c10
  refine lv_iload_n hx hb dX11_move_11 rfl (lv_at hl 2 rfl) ?_
  refine gq_calli G (gc_S (rest := []) X hl.1 G (m_X11_isBit hI  h) cw_X11_isBit qw_21_2 qw_21_3 rfl rfl (Nat.le_of_ble_eq_true rfl) ⟨Nat.le_of_ble_eq_true rfl, Nat.le_of_ble_eq_true rfl⟩ ⟨Nat.le_refl _, Nat.le_refl _⟩ dX11_move_12) (fun r12 M11 H locs G h => ?_)
  refine lv_if_ne (tgt := 21) hx hb dX11_move_15 (by decide) (fun c13 => ?_) (fun c13 => ?_)
  · have h := h.2 c13
    refine lv_aload_n hx hb dX11_move_21 rfl (lv_at hl 0 rfl) ?_
    refine gf_PH_now X G qw_2_16 dX11_move_22 ?_
    refine gfN_Paper_walls X G isPap_26 nf_12 dX11_move_25 ?_
    refine lv_iload_n hx hb dX11_move_28 rfl (lv_at hl 1 rfl) ?_
    obtain ⟨q14, h⟩ := h
    refine gq_iald X G (ar_Paper_walls isPap_26) q14 dX11_move_29 ?_
    refine lv_iload_n hx hb dX11_move_30 rfl (lv_at hl 2 rfl) ?_
    refine lv_iconst (v := (1)) hx hb dX11_move_31 (by decide) ?_
    refine lv_icmp_ne (tgt := 39) hx hb dX11_move_32 (by decide) (fun c15 => ?_) (fun c15 => ?_)
    · have h := h.2 c15
      refine lv_iconst (v := (-1)) hx hb dX11_move_39 (by decide) ?_
      exact hJ40  (-1) (M11 (26 + 2) (v1 : Int32).toNatClampNeg) M11 H locs ls G  (lv_sub hl [0, 1] rfl) h
    have h := h.1 c15
    refine lv_iconst (v := (1)) hx hb dX11_move_35 (by decide) ?_
    refine lv_goto (tgt := 40) hx hb dX11_move_36 (by decide) ?_
    exact hJ40  (1) (M11 (26 + 2) (v1 : Int32).toNatClampNeg) M11 H locs ls G  (lv_sub hl [0, 1] rfl) h
  have h := h.1 c13
  refine gq_ldc (v := (-1000001)) X qw_6_5 dX11_move_18 ?_
  exact gq_iret X G h dX11_move_20
def f_X6_hasCell (v0 : Nat) (v1 : Int32) (M : Mm) (K : Int32 → Mm → Prop) : Prop := ((((v1 : Int32) < 0 : Prop) → K 0 M) ∧ (¬ ((v1 : Int32) < 0 : Prop) → ((((M v0 8 : Int32) ≤ v1 : Prop) → K 0 M) ∧ (¬ ((M v0 8 : Int32) ≤ v1 : Prop) → K 1 M))))
set_option maxHeartbeats 4000000 in
set_option maxRecDepth 100000 in
theorem m_X6_hasCell (hI : gI 91 ad) {v0 : Nat} (hv0 : isPap v0) {v1 : Int32} {M : Mm} {K : Int32 → Mm → Prop} (h : f_X6_hasCell v0 v1 M K) : gM l D cy 91 ad (shC ad cy) yX6_hasCell cX6_hasCell 2 (some .boolean) 0 0 [.ref (ad v0), .int (v1)] M (gQi D 91 ad (shC ad cy) K) := by
  refine gM.of (own := RX6) (lv := [(0, .ref (ad v0)), (1, .int (v1))]) (by decide) rfl hI (Nat.le_of_ble_eq_true rfl) rfl ?_
  intro p e s m below meth c ls H locs X G hl
  have hx := X.1
  have hb := X.2.1
  unfold f_X6_hasCell at h
  refine lv_iload_n hx hb dX6_hasCell_0 rfl (lv_at hl 1 rfl) ?_
  refine lv_if_lt (tgt := 16) hx hb dX6_hasCell_1 (by decide) (fun c1 => ?_) (fun c1 => ?_)
  · have h := h.1 c1
    refine lv_iconst (v := (0)) hx hb dX6_hasCell_16 (by decide) ?_
    exact gq_zret X G (Or.inl rfl) h dX6_hasCell_17
  have h := h.2 c1
  refine lv_iload_n hx hb dX6_hasCell_4 rfl (lv_at hl 1 rfl) ?_
  refine lv_aload_n hx hb dX6_hasCell_5 rfl (lv_at hl 0 rfl) ?_
  refine gf_Paper_cells X G hv0 qw_11_3 dX6_hasCell_6 ?_
  refine lv_icmp_ge (tgt := 16) hx hb dX6_hasCell_9 (by decide) (fun c2 => ?_) (fun c2 => ?_)
  · have h := h.1 c2
    refine lv_iconst (v := (0)) hx hb dX6_hasCell_16 (by decide) ?_
    exact gq_zret X G (Or.inl rfl) h dX6_hasCell_17
  have h := h.2 c2
  refine lv_iconst (v := (1)) hx hb dX6_hasCell_12 (by decide) ?_
  refine lv_goto (tgt := 17) hx hb dX6_hasCell_13 (by decide) ?_
  exact gq_zret X G (Or.inr rfl) h dX6_hasCell_17
def f_X11_bitOf (v0 : Int32) (v1 : Int32) (M : Mm) (K : Int32 → Mm → Prop) : Prop := K ((v0 >>> (v1 &&& 31)) &&& 1) M
set_option maxHeartbeats 4000000 in
set_option maxRecDepth 100000 in
theorem m_X11_bitOf (hI : gI 91 ad) {v0 : Int32} {v1 : Int32} {M : Mm} {K : Int32 → Mm → Prop} (h : f_X11_bitOf v0 v1 M K) : gM l D cy 91 ad (shC ad cy) yX11_bitOf cX11_bitOf 2 (some .int) 0 0 [.int (v0), .int (v1)] M (gQi D 91 ad (shC ad cy) K) := by
  refine gM.of (own := RX11) (lv := [(0, .int (v0)), (1, .int (v1))]) (by decide) rfl hI (Nat.le_of_ble_eq_true rfl) rfl ?_
  intro p e s m below meth c ls H locs X G hl
  have hx := X.1
  have hb := X.2.1
  unfold f_X11_bitOf at h
  refine lv_iload_n hx hb dX11_bitOf_0 rfl (lv_at hl 0 rfl) ?_
  refine lv_iload_n hx hb dX11_bitOf_1 rfl (lv_at hl 1 rfl) ?_
  refine lv_ishr hx hb dX11_bitOf_2 ?_
  refine lv_iconst (v := (1)) hx hb dX11_bitOf_3 (by decide) ?_
  refine lv_iand hx hb dX11_bitOf_4 ?_
  exact gq_iret X G h dX11_bitOf_5
def f_X11_fade (v1 : Int32) (v2 : Int32) (M : Mm) (K : Int32 → Mm → Prop) : Prop := (f_X6_hasCell 26 (v1) M (fun r2 M1 => ((((r2 : Int32) = 0 : Prop) → K (-1000001) M1) ∧ (¬ ((r2 : Int32) = 0 : Prop) → (f_X11_isBit (v2) M1 (fun r5 M4 => ((((r5 : Int32) = 0 : Prop) → K (-1000001) M4) ∧ (¬ ((r5 : Int32) = 0 : Prop) → (f_X11_bitOf (M4 26 12) (v1) M4 (fun r8 M7 => ((((r8 : Int32) = v2 : Prop) → K (-1000002) M7) ∧ (¬ ((r8 : Int32) = v2 : Prop) → (f_X11_keepAct  M7 (fun M10 => (∀ M11 : Mm, M11 = gU M10 26 12 ((M10 26 12) ^^^ (1 <<< (v1 &&& 31))) → K (M11 26 12) M11)))))))))))))))
set_option maxHeartbeats 4000000 in
set_option maxRecDepth 100000 in
theorem m_X11_fade (hI : gI 91 ad) {v1 : Int32} {v2 : Int32} {M : Mm} {K : Int32 → Mm → Prop} (h : f_X11_fade v1 v2 M K) : gM l D cy 91 ad (shC ad cy) yX11_fade cX11_fade 3 (some .int) 3 105 [.ref (ad 0), .int (v1), .int (v2)] M (gQi D 91 ad (shC ad cy) K) := by
  refine gM.of (own := RX11) (lv := [(0, .ref (ad 0)), (1, .int (v1)), (2, .int (v2))]) (by decide) rfl hI (Nat.le_of_ble_eq_true rfl) rfl ?_
  intro p e s m below meth c ls H locs X G hl
  have hx := X.1
  have hb := X.2.1
  unfold f_X11_fade at h
  refine lv_aload_n hx hb dX11_fade_0 rfl (lv_at hl 0 rfl) ?_
  refine gf_PH_now X G qw_2_16 dX11_fade_1 ?_
  refine lv_iload_n hx hb dX11_fade_4 rfl (lv_at hl 1 rfl) ?_
  refine gq_calli G (gc_VN (C := RX6) (rest := []) X hl.1 G (m_X6_hasCell hI isPap_26 h) cw_X6_hasCell nm_33 qw_21_20 qw_21_21 (ob_Paper isPap_26) rfl rfl rfl rfl (Nat.le_of_ble_eq_true rfl) ⟨Nat.le_of_ble_eq_true rfl, Nat.le_of_ble_eq_true rfl⟩ ⟨Nat.le_refl _, Nat.le_refl _⟩ dX11_fade_5) (fun r2 M1 H locs G h => ?_)
  refine lv_if_eq (tgt := 18) hx hb dX11_fade_8 (by decide) (fun c3 => ?_) (fun c3 => ?_)
  · have h := h.1 c3
    refine gq_ldc (v := (-1000001)) X qw_6_5 dX11_fade_18 ?_
    exact gq_iret X G h dX11_fade_20
  have h := h.2 c3
  refine lv_iload_n hx hb dX11_fade_11 rfl (lv_at hl 2 rfl) ?_
  refine gq_calli G (gc_S (rest := []) X hl.1 G (m_X11_isBit hI  h) cw_X11_isBit qw_21_2 qw_21_3 rfl rfl (Nat.le_of_ble_eq_true rfl) ⟨Nat.le_of_ble_eq_true rfl, Nat.le_of_ble_eq_true rfl⟩ ⟨Nat.le_refl _, Nat.le_refl _⟩ dX11_fade_12) (fun r5 M4 H locs G h => ?_)
  refine lv_if_ne (tgt := 21) hx hb dX11_fade_15 (by decide) (fun c6 => ?_) (fun c6 => ?_)
  · have h := h.2 c6
    refine lv_aload_n hx hb dX11_fade_21 rfl (lv_at hl 0 rfl) ?_
    refine gf_PH_now X G qw_2_16 dX11_fade_22 ?_
    refine gfN_Paper_faded X G isPap_26 nf_38 dX11_fade_25 ?_
    refine lv_iload_n hx hb dX11_fade_28 rfl (lv_at hl 1 rfl) ?_
    refine gq_calli G (gc_S (rest := []) X hl.1 G (m_X11_bitOf hI  h) cw_X11_bitOf qw_21_23 qw_22_0 rfl rfl (Nat.le_of_ble_eq_true rfl) ⟨Nat.le_of_ble_eq_true rfl, Nat.le_of_ble_eq_true rfl⟩ ⟨Nat.le_refl _, Nat.le_refl _⟩ dX11_fade_29) (fun r8 M7 H locs G h => ?_)
    refine lv_iload_n hx hb dX11_fade_32 rfl (lv_at hl 2 rfl) ?_
    refine lv_icmp_ne (tgt := 39) hx hb dX11_fade_33 (by decide) (fun c9 => ?_) (fun c9 => ?_)
    · have h := h.2 c9
      refine lv_aload_n hx hb dX11_fade_39 rfl (lv_at hl 0 rfl) ?_
      refine gq_callv G (gc_V (C := RX11) (rest := []) X hl.1 G (m_X11_keepAct hI  h) cw_X11_keepAct qw_16_21 qw_16_22 qw_16_23 ob_PH rfl rfl rfl rfl (Nat.le_of_ble_eq_true rfl) ⟨Nat.le_of_ble_eq_true rfl, Nat.le_of_ble_eq_true rfl⟩ ⟨Nat.le_refl _, Nat.le_refl _⟩ dX11_fade_40) (fun M10 H locs G h => ?_)
      refine lv_aload_n hx hb dX11_fade_43 rfl (lv_at hl 0 rfl) ?_
      refine gf_PH_now X G qw_2_16 dX11_fade_44 ?_
      refine lv_dup hx hb dX11_fade_47 rfl ?_
      refine gfN_Paper_faded X G isPap_26 nf_38 dX11_fade_48 ?_
      refine lv_iconst (v := (1)) hx hb dX11_fade_51 (by decide) ?_
      refine lv_iload_n hx hb dX11_fade_52 rfl (lv_at hl 1 rfl) ?_
      refine lv_ishl hx hb dX11_fade_53 ?_
      refine lv_ixor hx hb dX11_fade_54 ?_
      refine gpN_Paper_faded X G isPap_26 nf_38 dX11_fade_55 (fun M11 H locs e12 G => ?_)
      have h := h M11 e12
      refine lv_aload_n hx hb dX11_fade_58 rfl (lv_at hl 0 rfl) ?_
      refine gf_PH_now X G qw_2_16 dX11_fade_59 ?_
      refine gfN_Paper_faded X G isPap_26 nf_38 dX11_fade_62 ?_
      exact gq_iret X G h dX11_fade_65
    have h := h.1 c9
    refine gq_ldc (v := (-1000002)) X qw_16_16 dX11_fade_36 ?_
    exact gq_iret X G h dX11_fade_38
  have h := h.1 c6
  refine gq_ldc (v := (-1000001)) X qw_6_5 dX11_fade_18 ?_
  exact gq_iret X G h dX11_fade_20
def f_X6_hasFolk (v0 : Nat) (v1 : Int32) (M : Mm) (K : Int32 → Mm → Prop) : Prop := ((((v1 : Int32) < 0 : Prop) → K 0 M) ∧ (¬ ((v1 : Int32) < 0 : Prop) → ((((M v0 10 : Int32) ≤ v1 : Prop) → K 0 M) ∧ (¬ ((M v0 10 : Int32) ≤ v1 : Prop) → K 1 M))))
set_option maxHeartbeats 4000000 in
set_option maxRecDepth 100000 in
theorem m_X6_hasFolk (hI : gI 91 ad) {v0 : Nat} (hv0 : isPap v0) {v1 : Int32} {M : Mm} {K : Int32 → Mm → Prop} (h : f_X6_hasFolk v0 v1 M K) : gM l D cy 91 ad (shC ad cy) yX6_hasFolk cX6_hasFolk 2 (some .boolean) 0 0 [.ref (ad v0), .int (v1)] M (gQi D 91 ad (shC ad cy) K) := by
  refine gM.of (own := RX6) (lv := [(0, .ref (ad v0)), (1, .int (v1))]) (by decide) rfl hI (Nat.le_of_ble_eq_true rfl) rfl ?_
  intro p e s m below meth c ls H locs X G hl
  have hx := X.1
  have hb := X.2.1
  unfold f_X6_hasFolk at h
  refine lv_iload_n hx hb dX6_hasFolk_0 rfl (lv_at hl 1 rfl) ?_
  refine lv_if_lt (tgt := 16) hx hb dX6_hasFolk_1 (by decide) (fun c1 => ?_) (fun c1 => ?_)
  · have h := h.1 c1
    refine lv_iconst (v := (0)) hx hb dX6_hasFolk_16 (by decide) ?_
    exact gq_zret X G (Or.inl rfl) h dX6_hasFolk_17
  have h := h.2 c1
  refine lv_iload_n hx hb dX6_hasFolk_4 rfl (lv_at hl 1 rfl) ?_
  refine lv_aload_n hx hb dX6_hasFolk_5 rfl (lv_at hl 0 rfl) ?_
  refine gf_Paper_folkCount X G hv0 qw_11_5 dX6_hasFolk_6 ?_
  refine lv_icmp_ge (tgt := 16) hx hb dX6_hasFolk_9 (by decide) (fun c2 => ?_) (fun c2 => ?_)
  · have h := h.1 c2
    refine lv_iconst (v := (0)) hx hb dX6_hasFolk_16 (by decide) ?_
    exact gq_zret X G (Or.inl rfl) h dX6_hasFolk_17
  have h := h.2 c2
  refine lv_iconst (v := (1)) hx hb dX6_hasFolk_12 (by decide) ?_
  refine lv_goto (tgt := 17) hx hb dX6_hasFolk_13 (by decide) ?_
  exact gq_zret X G (Or.inr rfl) h dX6_hasFolk_17
end GEN01
