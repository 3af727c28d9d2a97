section GEN00
variable {l : Launch} {D : va_G} {cy : Nat → ClassId} {ad : Nat → Nat}
def f_X11_rowAt (v1 : Int32) (M : Mm) (K : Option Nat → Mm → Prop) : Prop := ((((v1 : Int32) < 0 : Prop) → K none M) ∧ (¬ ((v1 : Int32) < 0 : Prop) → ((((8 : Int32) ≤ v1 : Prop) → K none M) ∧ (¬ ((8 : Int32) ≤ v1 : Prop) → (vp_in (v1) 8 ∧ K (some (2 + 2 * (v1 : Int32).toNatClampNeg)) M)))))
set_option maxHeartbeats 4000000 in
set_option maxRecDepth 100000 in
theorem m_X11_rowAt (hI : gI 91 ad) {v1 : Int32} {M : Mm} {K : Option Nat → Mm → Prop} (h : f_X11_rowAt v1 M K) : gM l D cy 91 ad (shC ad cy) yX11_rowAt cX11_rowAt 2 (some (.object "PaperHouses$Row")) 0 0 [.ref (ad 0), .int (v1)] M (gQe D 91 ad (shC ad cy) K) := by
  refine gM.of (own := RX11) (lv := [(0, .ref (ad 0)), (1, .int (v1))]) (by decide) rfl hI (Nat.le_of_ble_eq_true rfl) rfl ?_
  intro p e s m below meth c ls H locs X G hl
  have hx := X.1
  have hb := X.2.1
  unfold f_X11_rowAt at h
  refine lv_iload_n hx hb dX11_rowAt_0 rfl (lv_at hl 1 rfl) ?_
  refine lv_if_lt (tgt := 22) hx hb dX11_rowAt_1 (by decide) (fun c1 => ?_) (fun c1 => ?_)
  · have h := h.1 c1
    refine lv_null hx hb dX11_rowAt_22 ?_
    exact gq_aretN X G h dX11_rowAt_23
  have h := h.2 c1
  refine lv_iload_n hx hb dX11_rowAt_4 rfl (lv_at hl 1 rfl) ?_
  refine lv_aload_n hx hb dX11_rowAt_5 rfl (lv_at hl 0 rfl) ?_
  refine gf_PH_rows X G qw_1_13 dX11_rowAt_6 ?_
  refine gl_rows X G dX11_rowAt_9 ?_
  refine lv_icmp_ge (tgt := 22) hx hb dX11_rowAt_10 (by decide) (fun c2 => ?_) (fun c2 => ?_)
  · have h := h.1 c2
    refine lv_null hx hb dX11_rowAt_22 ?_
    exact gq_aretN X G h dX11_rowAt_23
  have h := h.2 c2
  refine lv_aload_n hx hb dX11_rowAt_13 rfl (lv_at hl 0 rfl) ?_
  refine gf_PH_rows X G qw_1_13 dX11_rowAt_14 ?_
  refine lv_iload_n hx hb dX11_rowAt_17 rfl (lv_at hl 1 rfl) ?_
  obtain ⟨q3, h⟩ := h
  refine ga_rows X G q3 dX11_rowAt_18 ?_
  refine lv_goto (tgt := 23) hx hb dX11_rowAt_19 (by decide) ?_
  exact gq_aret X G h dX11_rowAt_23
def l_J7_fill_53178_5 (K : Mm → Prop) (nn : Nat) (v0 : Nat) (v1 : Int32) (v3 : Int32) : Nat → Int32 → Mm → Prop
  | 0, _, _ => False
  | n + 1, v2, M => ((((v3 : Int32) ≤ v2 : Prop) → K M) ∧ (¬ ((v3 : Int32) ≤ v2 : Prop) → (vp_in (v2) nn ∧ (∀ M3 : Mm, M3 = gU M v0 (v2 : Int32).toNatClampNeg (v1) → (l_J7_fill_53178_5 K nn v0 v1 v3 n) (v2 + 1) M3))))
def f_J7_fill_53178 (v0 : Nat) (nn : Nat) (v1 : Int32) (M : Mm) (K : Mm → Prop) : Prop := ∃ z, l_J7_fill_53178_5 K nn (v0) (v1) (Int32.ofNat nn) z (0) M
set_option maxHeartbeats 4000000 in
set_option maxRecDepth 100000 in
theorem m_J7_fill_53178 (hI : gI 91 ad) {v0 nn : Nat} (hv0 : gAr (shC ad cy) cy 91 0 v0 nn) {v1 : Int32} {M : Mm} {K : Mm → Prop} (h : f_J7_fill_53178 v0 nn v1 M K) : gM l D cy 91 ad (shC ad cy) yJ7_fill_53178 cJ7_fill_53178 4 none 0 0 [.ref (ad v0), .int (v1)] M (gQv D 91 ad (shC ad cy) K) := by
  refine gM.of (own := RJ7) (lv := [(0, .ref (ad v0)), (1, .int (v1))]) (by decide) rfl hI (Nat.le_of_ble_eq_true rfl) rfl ?_
  intro p e s m below meth c ls H locs X G hl
  have hx := X.1
  have hb := X.2.1
  have hL5 : ∀ (v3 : Int32) (n : Nat) (v2 : Int32) (M : Mm) (H : Heap) (locs : List Loc) (ls : Array Slot), gS D s 91 ad (shC ad cy) H locs M → lv_has ls 4 [(0, .ref (ad v0)), (1, .int (v1)), (2, .int (v2)), (3, .int (v3))] → l_J7_fill_53178_5 K nn v0 v1 v3 n v2 M → gWk p l e 0 0 s m ([.ref (ad v0), .int (v1)] : List Value).toArray below meth c H locs (gQv D 91 ad (shC ad cy) K) 91 ad 5 ls [] := by
    intro v3 n5
    induction n5 with
    | zero =>
      intro v2 M H locs ls G hl h
      exact False.elim h
    | succ n5 ih5 =>
      intro v2 M H locs ls G hl h
      rw [l_J7_fill_53178_5] at h
      refine lv_iload_n hx hb dJ7_fill_53178_5 rfl (lv_at hl 2 rfl) ?_
      refine lv_iload_n hx hb dJ7_fill_53178_6 rfl (lv_at hl 3 rfl) ?_
      refine lv_icmp_ge (tgt := 20) hx hb dJ7_fill_53178_7 (by decide) (fun c1 => ?_) (fun c1 => ?_)
      · have h := h.1 c1
        exact gq_vret X G h dJ7_fill_53178_20
      have h := h.2 c1
      refine lv_aload_n hx hb dJ7_fill_53178_10 rfl (lv_at hl 0 rfl) ?_
      refine lv_iload_n hx hb dJ7_fill_53178_11 rfl (lv_at hl 2 rfl) ?_
      refine lv_iload_n hx hb dJ7_fill_53178_12 rfl (lv_at hl 1 rfl) ?_
      obtain ⟨q2, h⟩ := h
      refine gq_iast X G hv0 q2 dJ7_fill_53178_13 (fun M3 H locs e4 G => ?_)
      have h := h M3 e4
      refine lv_iinc (v := v2 + 1) (lv' := [(2, .int (v2 + 1)), (0, .ref (ad v0)), (1, .int (v1)), (3, .int (v3))]) hx hb dJ7_fill_53178_14 hl (k := 2) rfl rfl (by decide) rfl (fun ls hl => ?_)
      refine lv_goto (tgt := 5) hx hb dJ7_fill_53178_17 (by decide) ?_
      exact ih5 (v2 + 1) M3 H locs ls G  (lv_sub hl [1, 2, 0, 3] rfl) h
  unfold f_J7_fill_53178 at h
  refine lv_iconst (v := (0)) hx hb dJ7_fill_53178_0 (by decide) ?_
  refine lv_istore_n (lv' := [(2, .int (0)), (0, .ref (ad v0)), (1, .int (v1))]) hx hb dJ7_fill_53178_1 rfl hl (by decide) rfl (fun ls hl => ?_)
  refine lv_aload_n hx hb dJ7_fill_53178_2 rfl (lv_at hl 1 rfl) ?_
  refine gq_alenA X G hv0 dJ7_fill_53178_3 ?_
  refine lv_istore_n (lv' := [(3, .int (Int32.ofNat nn)), (2, .int (0)), (0, .ref (ad v0)), (1, .int (v1))]) hx hb dJ7_fill_53178_4 rfl hl (by decide) rfl (fun ls hl => ?_)
  obtain ⟨n5, h⟩ := h
  exact hL5 (Int32.ofNat nn)  n5 (0) M H locs ls G  (lv_sub hl [2, 3, 1, 0] rfl) h
def f_X7_lay (v0 : Nat) (v1 : Int32) (v2 : Int32) (M : Mm) (K : Mm → Prop) : Prop := (f_J7_fill_53178 (v0 + 1) 40 (0) M (fun M1 => (∀ M2 : Mm, M2 = gU M1 v0 1 (v1) → (∀ M4 : Mm, M4 = gU M2 v0 2 (v2) → K M4))))
set_option maxHeartbeats 4000000 in
set_option maxRecDepth 100000 in
theorem m_X7_lay (hI : gI 91 ad) {v0 : Nat} (hv0 : isRow v0) {v1 : Int32} {v2 : Int32} {M : Mm} {K : Mm → Prop} (h : f_X7_lay v0 v1 v2 M K) : gM l D cy 91 ad (shC ad cy) yX7_lay cX7_lay 3 none 1 23 [.ref (ad v0), .int (v1), .int (v2)] M (gQv D 91 ad (shC ad cy) K) := by
  refine gM.of (own := RX7) (lv := [(0, .ref (ad v0)), (1, .int (v1)), (2, .int (v2))]) (by decide) rfl hI (Nat.le_of_ble_eq_true rfl) rfl ?_
  intro p e s m below meth c ls H locs X G hl
  have hx := X.1
  have hb := X.2.1
  unfold f_X7_lay at h
  refine lv_aload_n hx hb dX7_lay_0 rfl (lv_at hl 0 rfl) ?_
  refine gf_Row_items X G hv0 qw_3_9 dX7_lay_1 ?_
  refine lv_iconst (v := (0)) hx hb dX7_lay_4 (by decide) ?_
  refine gq_callv G (gc_S (rest := []) X hl.1 G (m_J7_fill_53178 hI (ar_Row_items hv0) h) cw_J7_fill_53178 qw_6_20 qw_6_21 rfl rfl (Nat.le_of_ble_eq_true rfl) ⟨Nat.le_of_ble_eq_true rfl, Nat.le_of_ble_eq_true rfl⟩ ⟨Nat.le_refl _, Nat.le_refl _⟩ dX7_lay_5) (fun M1 H locs G h => ?_)
  refine lv_aload_n hx hb dX7_lay_8 rfl (lv_at hl 0 rfl) ?_
  refine lv_iload_n hx hb dX7_lay_9 rfl (lv_at hl 1 rfl) ?_
  refine gp_Row_lane X G hv0 qw_3_10 dX7_lay_10 (fun M2 H locs e3 G => ?_)
  have h := h M2 e3
  refine lv_aload_n hx hb dX7_lay_13 rfl (lv_at hl 0 rfl) ?_
  refine lv_iload_n hx hb dX7_lay_14 rfl (lv_at hl 2 rfl) ?_
  refine gp_Row_size X G hv0 qw_6_19 dX7_lay_15 (fun M4 H locs e5 G => ?_)
  have h := h M4 e5
  exact gq_vret X G h dX7_lay_18
def f_X11_sound (v1 : Int32) (M : Mm) (K : Int32 → Mm → Prop) : Prop := (∀ M1 : Mm, M1 = gU M 0 11 (0) → K (v1) M1)
set_option maxHeartbeats 4000000 in
set_option maxRecDepth 100000 in
theorem m_X11_sound (hI : gI 91 ad) {v1 : Int32} {M : Mm} {K : Int32 → Mm → Prop} (h : f_X11_sound v1 M K) : gM l D cy 91 ad (shC ad cy) yX11_sound cX11_sound 2 (some .int) 0 0 [.ref (ad 0), .int (v1)] M (gQi D 91 ad (shC ad cy) K) := by
  refine gM.of (own := RX11) (lv := [(0, .ref (ad 0)), (1, .int (v1))]) (by decide) rfl hI (Nat.le_of_ble_eq_true rfl) rfl ?_
  intro p e s m below meth c ls H locs X G hl
  have hx := X.1
  have hb := X.2.1
  unfold f_X11_sound at h
  refine lv_aload_n hx hb dX11_sound_0 rfl (lv_at hl 0 rfl) ?_
  refine lv_iconst (v := (0)) hx hb dX11_sound_1 (by decide) ?_
  refine gp_PH_latestFinding X G qw_6_14 dX11_sound_2 (fun M1 H locs e2 G => ?_)
  have h := h M1 e2
  refine lv_iload_n hx hb dX11_sound_5 rfl (lv_at hl 1 rfl) ?_
  exact gq_iret X G h dX11_sound_6
def f_X11_found (v1 : Int32) (M : Mm) (K : Int32 → Mm → Prop) : Prop := (∀ M1 : Mm, M1 = gU M 0 11 (v1) → K ((-1000010) - v1) M1)
set_option maxHeartbeats 4000000 in
set_option maxRecDepth 100000 in
theorem m_X11_found (hI : gI 91 ad) {v1 : Int32} {M : Mm} {K : Int32 → Mm → Prop} (h : f_X11_found v1 M K) : gM l D cy 91 ad (shC ad cy) yX11_found cX11_found 2 (some .int) 0 0 [.ref (ad 0), .int (v1)] M (gQi D 91 ad (shC ad cy) K) := by
  refine gM.of (own := RX11) (lv := [(0, .ref (ad 0)), (1, .int (v1))]) (by decide) rfl hI (Nat.le_of_ble_eq_true rfl) rfl ?_
  intro p e s m below meth c ls H locs X G hl
  have hx := X.1
  have hb := X.2.1
  unfold f_X11_found at h
  refine lv_aload_n hx hb dX11_found_0 rfl (lv_at hl 0 rfl) ?_
  refine lv_iload_n hx hb dX11_found_1 rfl (lv_at hl 1 rfl) ?_
  refine gp_PH_latestFinding X G qw_6_14 dX11_found_2 (fun M1 H locs e2 G => ?_)
  have h := h M1 e2
  refine gq_ldcw (v := (-1000010)) X qw_6_15 dX11_found_5 ?_
  refine lv_iload_n hx hb dX11_found_8 rfl (lv_at hl 1 rfl) ?_
  refine lv_isub hx hb dX11_found_9 ?_
  exact gq_iret X G h dX11_found_10
def f_X11_row (v1 : Int32) (v2 : Int32) (v3 : Int32) (M : Mm) (K : Int32 → Mm → Prop) : Prop := (f_X11_rowAt (v1) M (fun o13 M1 => (o13 = none → K (-1000001) M1) ∧ (∀ p2 : Nat, o13 = some p2 → ((((v2 : Int32) < 0 : Prop) → K (-1000001) M1) ∧ (¬ ((v2 : Int32) < 0 : Prop) → ((((3 : Int32) ≤ v2 : Prop) → K (-1000001) M1) ∧ (¬ ((3 : Int32) ≤ v2 : Prop) → ((((v3 : Int32) ≤ 40 : Prop) → ((((0 : Int32) ≤ v3 : Prop) → (isRow p2 ∧ (f_X7_lay p2 (v2) (v3) M1 (fun M8 => (f_X11_sound (v3) M8 (fun r10 M9 => K (r10) M9)))))) ∧ (¬ ((0 : Int32) ≤ v3 : Prop) → (f_X11_found (4) M1 (fun r12 M11 => K (r12) M11))))) ∧ (¬ ((v3 : Int32) ≤ 40 : Prop) → K (-1000001) M1)))))))))
set_option maxHeartbeats 4000000 in
set_option maxRecDepth 100000 in
theorem m_X11_row (hI : gI 91 ad) {v1 : Int32} {v2 : Int32} {v3 : Int32} {M : Mm} {K : Int32 → Mm → Prop} (h : f_X11_row v1 v2 v3 M K) : gM l D cy 91 ad (shC ad cy) yX11_row cX11_row 5 (some .int) 2 45 [.ref (ad 0), .int (v1), .int (v2), .int (v3)] M (gQi D 91 ad (shC ad cy) K) := by
  refine gM.of (own := RX11) (lv := [(0, .ref (ad 0)), (1, .int (v1)), (2, .int (v2)), (3, .int (v3))]) (by decide) rfl hI (Nat.le_of_ble_eq_true rfl) rfl ?_
  intro p e s m below meth c ls H locs X G hl
  have hx := X.1
  have hb := X.2.1
  unfold f_X11_row at h
  refine lv_aload_n hx hb dX11_row_0 rfl (lv_at hl 0 rfl) ?_
  refine lv_iload_n hx hb dX11_row_1 rfl (lv_at hl 1 rfl) ?_
  refine gq_calle G (gc_V (C := RX11) (rest := []) X hl.1 G (m_X11_rowAt hI  h) cw_X11_rowAt qw_6_6 qw_6_7 qw_6_8 ob_PH rfl rfl rfl rfl (Nat.le_of_ble_eq_true rfl) ⟨Nat.le_of_ble_eq_true rfl, Nat.le_of_ble_eq_true rfl⟩ ⟨Nat.le_refl _, Nat.le_refl _⟩ dX11_row_2) (fun M1 H locs G h => ?_) (fun p2 M1 H locs G h => ?_)
  · have h := h.1 rfl
    refine lv_astoreN (lv' := [(4, .null), (0, .ref (ad 0)), (1, .int (v1)), (2, .int (v2)), (3, .int (v3))]) hx hb dX11_row_5 hl (by decide) rfl (fun ls hl => ?_)
    refine lv_aloadN hx hb dX11_row_7 (lv_at hl 0 rfl) ?_
    refine lv_ifnullN (tgt := 27) hx hb dX11_row_9 (by decide) ?_
    refine gq_ldc (v := (-1000001)) X qw_6_5 dX11_row_27 ?_
    exact gq_iret X G h dX11_row_29
  have h := h.2 p2 rfl
  refine lv_astore (lv' := [(4, .ref (ad p2)), (0, .ref (ad 0)), (1, .int (v1)), (2, .int (v2)), (3, .int (v3))]) hx hb dX11_row_5 hl (by decide) rfl (fun ls hl => ?_)
  refine lv_aload hx hb dX11_row_7 (lv_at hl 0 rfl) ?_
  refine lv_ifnull hx hb dX11_row_9 ?_
  refine lv_iload_n hx hb dX11_row_12 rfl (lv_at hl 3 rfl) ?_
  refine lv_if_lt (tgt := 27) hx hb dX11_row_13 (by decide) (fun c3 => ?_) (fun c3 => ?_)
  · have h := h.1 c3
    refine gq_ldc (v := (-1000001)) X qw_6_5 dX11_row_27 ?_
    exact gq_iret X G h dX11_row_29
  have h := h.2 c3
  refine lv_iload_n hx hb dX11_row_16 rfl (lv_at hl 3 rfl) ?_
  refine lv_iconst (v := (3)) hx hb dX11_row_17 (by decide) ?_
  refine lv_icmp_ge (tgt := 27) hx hb dX11_row_18 (by decide) (fun c4 => ?_) (fun c4 => ?_)
  · have h := h.1 c4
    refine gq_ldc (v := (-1000001)) X qw_6_5 dX11_row_27 ?_
    exact gq_iret X G h dX11_row_29
  have h := h.2 c4
  refine lv_iload_n hx hb dX11_row_21 rfl (lv_at hl 4 rfl) ?_
  refine lv_bipush (v := (40)) hx hb dX11_row_22 (by decide) ?_
  refine lv_icmp_le (tgt := 30) hx hb dX11_row_24 (by decide) (fun c5 => ?_) (fun c5 => ?_)
  · have h := h.1 c5
    refine lv_iload_n hx hb dX11_row_30 rfl (lv_at hl 4 rfl) ?_
    refine lv_if_ge (tgt := 40) hx hb dX11_row_31 (by decide) (fun c6 => ?_) (fun c6 => ?_)
    · have h := h.1 c6
      refine lv_aload hx hb dX11_row_40 (lv_at hl 0 rfl) ?_
      refine lv_iload_n hx hb dX11_row_42 rfl (lv_at hl 3 rfl) ?_
      refine lv_iload_n hx hb dX11_row_43 rfl (lv_at hl 4 rfl) ?_
      obtain ⟨q7, h⟩ := h
      refine gq_callv G (gc_VN (C := RX7) (rest := []) X hl.1 G (m_X7_lay hI q7 h) cw_X7_lay nm_16 qw_6_16 qw_6_17 (ob_Row q7) rfl rfl rfl rfl (Nat.le_of_ble_eq_true rfl) ⟨Nat.le_of_ble_eq_true rfl, Nat.le_of_ble_eq_true rfl⟩ ⟨Nat.le_refl _, Nat.le_refl _⟩ dX11_row_44) (fun M8 H locs G h => ?_)
      refine lv_aload_n hx hb dX11_row_47 rfl (lv_at hl 1 rfl) ?_
      refine lv_iload_n hx hb dX11_row_48 rfl (lv_at hl 4 rfl) ?_
      refine gq_calli G (gc_V (C := RX11) (rest := []) X hl.1 G (m_X11_sound hI  h) cw_X11_sound qw_7_0 qw_7_1 qw_7_2 ob_PH rfl rfl rfl rfl (Nat.le_of_ble_eq_true rfl) ⟨Nat.le_of_ble_eq_true rfl, Nat.le_of_ble_eq_true rfl⟩ ⟨Nat.le_refl _, Nat.le_refl _⟩ dX11_row_49) (fun r10 M9 H locs G h => ?_)
      exact gq_iret X G h dX11_row_52
    have h := h.2 c6
    refine lv_aload_n hx hb dX11_row_34 rfl (lv_at hl 1 rfl) ?_
    refine lv_iconst (v := (4)) hx hb dX11_row_35 (by decide) ?_
    refine gq_calli G (gc_V (C := RX11) (rest := []) X hl.1 G (m_X11_found hI  h) cw_X11_found qw_6_10 qw_6_11 qw_6_12 ob_PH rfl rfl rfl rfl (Nat.le_of_ble_eq_true rfl) ⟨Nat.le_of_ble_eq_true rfl, Nat.le_of_ble_eq_true rfl⟩ ⟨Nat.le_refl _, Nat.le_refl _⟩ dX11_row_36) (fun r12 M11 H locs G h => ?_)
    exact gq_iret X G h dX11_row_39
  have h := h.2 c5
  refine gq_ldc (v := (-1000001)) X qw_6_5 dX11_row_27 ?_
  exact gq_iret X G h dX11_row_29
def f_X7_missing (v0 : Nat) (M : Mm) (K : Int32 → Mm → Prop) : Prop := ((((M v0 1 : Int32) = -1 : Prop) → K 1 M) ∧ (¬ ((M v0 1 : Int32) = -1 : Prop) → K 0 M))
set_option maxHeartbeats 4000000 in
set_option maxRecDepth 100000 in
theorem m_X7_missing (hI : gI 91 ad) {v0 : Nat} (hv0 : isRow v0) {M : Mm} {K : Int32 → Mm → Prop} (h : f_X7_missing v0 M K) : gM l D cy 91 ad (shC ad cy) yX7_missing cX7_missing 1 (some .boolean) 0 0 [.ref (ad v0)] M (gQi D 91 ad (shC ad cy) K) := by
  refine gM.of (own := RX7) (lv := [(0, .ref (ad v0))]) (by decide) rfl hI (Nat.le_of_ble_eq_true rfl) rfl ?_
  intro p e s m below meth c ls H locs X G hl
  have hx := X.1
  have hb := X.2.1
  unfold f_X7_missing at h
  refine lv_aload_n hx hb dX7_missing_0 rfl (lv_at hl 0 rfl) ?_
  refine gf_Row_lane X G hv0 qw_3_10 dX7_missing_1 ?_
  refine lv_iconst (v := (-1)) hx hb dX7_missing_4 (by decide) ?_
  refine lv_icmp_ne (tgt := 12) hx hb dX7_missing_5 (by decide) (fun c1 => ?_) (fun c1 => ?_)
  · have h := h.2 c1
    refine lv_iconst (v := (0)) hx hb dX7_missing_12 (by decide) ?_
    exact gq_zret X G (Or.inl rfl) h dX7_missing_13
  have h := h.1 c1
  refine lv_iconst (v := (1)) hx hb dX7_missing_8 (by decide) ?_
  refine lv_goto (tgt := 13) hx hb dX7_missing_9 (by decide) ?_
  exact gq_zret X G (Or.inr rfl) h dX7_missing_13
def f_X7_has (v0 : Nat) (v1 : Int32) (v2 : Int32) (M : Mm) (K : Int32 → Mm → Prop) : Prop := ((((v1 : Int32) < 0 : Prop) → K 0 M) ∧ (¬ ((v1 : Int32) < 0 : Prop) → ((((v2 : Int32) < 0 : Prop) → K 0 M) ∧ (¬ ((v2 : Int32) < 0 : Prop) → (((((M v0 2) - v2 : Int32) < v1 : Prop) → K 0 M) ∧ (¬ (((M v0 2) - v2 : Int32) < v1 : Prop) → K 1 M))))))
set_option maxHeartbeats 4000000 in
set_option maxRecDepth 100000 in
theorem m_X7_has (hI : gI 91 ad) {v0 : Nat} (hv0 : isRow v0) {v1 : Int32} {v2 : Int32} {M : Mm} {K : Int32 → Mm → Prop} (h : f_X7_has v0 v1 v2 M K) : gM l D cy 91 ad (shC ad cy) yX7_has cX7_has 3 (some .boolean) 0 0 [.ref (ad v0), .int (v1), .int (v2)] M (gQi D 91 ad (shC ad cy) K) := by
  refine gM.of (own := RX7) (lv := [(0, .ref (ad v0)), (1, .int (v1)), (2, .int (v2))]) (by decide) rfl hI (Nat.le_of_ble_eq_true rfl) rfl ?_
  intro p e s m below meth c ls H locs X G hl
  have hx := X.1
  have hb := X.2.1
  unfold f_X7_has at h
  refine lv_iload_n hx hb dX7_has_0 rfl (lv_at hl 1 rfl) ?_
  refine lv_if_lt (tgt := 22) hx hb dX7_has_1 (by decide) (fun c1 => ?_) (fun c1 => ?_)
  · have h := h.1 c1
    refine lv_iconst (v := (0)) hx hb dX7_has_22 (by decide) ?_
    exact gq_zret X G (Or.inl rfl) h dX7_has_23
  have h := h.2 c1
  refine lv_iload_n hx hb dX7_has_4 rfl (lv_at hl 2 rfl) ?_
  refine lv_if_lt (tgt := 22) hx hb dX7_has_5 (by decide) (fun c2 => ?_) (fun c2 => ?_)
  · have h := h.1 c2
    refine lv_iconst (v := (0)) hx hb dX7_has_22 (by decide) ?_
    exact gq_zret X G (Or.inl rfl) h dX7_has_23
  have h := h.2 c2
  refine lv_iload_n hx hb dX7_has_8 rfl (lv_at hl 1 rfl) ?_
  refine lv_aload_n hx hb dX7_has_9 rfl (lv_at hl 0 rfl) ?_
  refine gf_Row_size X G hv0 qw_6_19 dX7_has_10 ?_
  refine lv_iload_n hx hb dX7_has_13 rfl (lv_at hl 2 rfl) ?_
  refine lv_isub hx hb dX7_has_14 ?_
  refine lv_icmp_gt (tgt := 22) hx hb dX7_has_15 (by decide) (fun c3 => ?_) (fun c3 => ?_)
  · have h := h.1 c3
    refine lv_iconst (v := (0)) hx hb dX7_has_22 (by decide) ?_
    exact gq_zret X G (Or.inl rfl) h dX7_has_23
  have h := h.2 c3
  refine lv_iconst (v := (1)) hx hb dX7_has_18 (by decide) ?_
  refine lv_goto (tgt := 23) hx hb dX7_has_19 (by decide) ?_
  exact gq_zret X G (Or.inr rfl) h dX7_has_23
def f_X7_store_26 (K : Int32 → Mm → Prop) (v0 : Nat) (v1 : Int32) (s0 : Int32) (M : Mm) : Prop := (vp_in (v1) 40 ∧ (∀ M2 : Mm, M2 = gU M (v0 + 1) (v1 : Int32).toNatClampNeg (s0) → K (s0) M2))
def f_X7_store (v0 : Nat) (v1 : Int32) (v2 : Int32) (M : Mm) (K : Int32 → Mm → Prop) : Prop := ((((M v0 1 : Int32) = 0 : Prop) → f_X7_store_26 K (v0) (v1) ((v2).toInt8.toInt32) M) ∧ (¬ ((M v0 1 : Int32) = 0 : Prop) → ((((M v0 1 : Int32) = 1 : Prop) → f_X7_store_26 K (v0) (v1) ((v2).toInt16.toInt32) M) ∧ (¬ ((M v0 1 : Int32) = 1 : Prop) → f_X7_store_26 K (v0) (v1) (v2) M))))
set_option maxHeartbeats 4000000 in
set_option maxRecDepth 100000 in
theorem m_X7_store (hI : gI 91 ad) {v0 : Nat} (hv0 : isRow v0) {v1 : Int32} {v2 : Int32} {M : Mm} {K : Int32 → Mm → Prop} (h : f_X7_store v0 v1 v2 M K) : gM l D cy 91 ad (shC ad cy) yX7_store cX7_store 4 (some .int) 0 0 [.ref (ad v0), .int (v1), .int (v2)] M (gQi D 91 ad (shC ad cy) K) := by
  refine gM.of (own := RX7) (lv := [(0, .ref (ad v0)), (1, .int (v1)), (2, .int (v2))]) (by decide) rfl hI (Nat.le_of_ble_eq_true rfl) rfl ?_
  intro p e s m below meth c ls H locs X G hl
  have hx := X.1
  have hb := X.2.1
  have hJ26 : ∀ (s0 : Int32) (M : Mm) (H : Heap) (locs : List Loc) (ls : Array Slot), gS D s 91 ad (shC ad cy) H locs M → lv_has ls 4 [(0, .ref (ad v0)), (1, .int (v1))] → f_X7_store_26 K v0 v1 s0 M → gWk p l e 0 0 s m ([.ref (ad v0), .int (v1), .int (v2)] : List Value).toArray below meth c H locs (gQi D 91 ad (shC ad cy) K) 91 ad 26 ls [.int (s0)] := by
    intro s0 M H locs ls G hl h
    unfold f_X7_store_26 at h
    refine lv_istore_n (lv' := [(3, .int (s0)), (0, .ref (ad v0)), (1, .int (v1))]) hx hb dX7_store_26 rfl hl (by decide) rfl (fun ls hl => ?_)
    refine lv_aload_n hx hb dX7_store_27 rfl (lv_at hl 1 rfl) ?_
    refine gf_Row_items X G hv0 qw_3_9 dX7_store_28 ?_
    refine lv_iload_n hx hb dX7_store_31 rfl (lv_at hl 2 rfl) ?_
    refine lv_iload_n hx hb dX7_store_32 rfl (lv_at hl 0 rfl) ?_
    obtain ⟨q1, h⟩ := h
    refine gq_iast X G (ar_Row_items hv0) q1 dX7_store_33 (fun M2 H locs e3 G => ?_)
    have h := h M2 e3
    refine lv_iload_n hx hb dX7_store_34 rfl (lv_at hl 0 rfl) ?_
    exact gq_iret X G h dX7_store_35
  unfold f_X7_store at h
  refine lv_aload_n hx hb dX7_store_0 rfl (lv_at hl 0 rfl) ?_
  refine gf_Row_lane X G hv0 qw_3_10 dX7_store_1 ?_
  refine lv_if_ne (tgt := 12) hx hb dX7_store_4 (by decide) (fun c4 => ?_) (fun c4 => ?_)
  · have h := h.2 c4
    refine lv_aload_n hx hb dX7_store_12 rfl (lv_at hl 0 rfl) ?_
    refine gf_Row_lane X G hv0 qw_3_10 dX7_store_13 ?_
    refine lv_iconst (v := (1)) hx hb dX7_store_16 (by decide) ?_
    refine lv_icmp_ne (tgt := 25) hx hb dX7_store_17 (by decide) (fun c5 => ?_) (fun c5 => ?_)
    · have h := h.2 c5
      refine lv_iload_n hx hb dX7_store_25 rfl (lv_at hl 2 rfl) ?_
      exact hJ26  (v2) M H locs ls G  (lv_sub hl [0, 1] rfl) h
    have h := h.1 c5
    refine lv_iload_n hx hb dX7_store_20 rfl (lv_at hl 2 rfl) ?_
    refine lv_i2s hx hb dX7_store_21 rfl ?_
    refine lv_goto (tgt := 26) hx hb dX7_store_22 (by decide) ?_
    exact hJ26  ((v2).toInt16.toInt32) M H locs ls G  (lv_sub hl [0, 1] rfl) h
  have h := h.1 c4
  refine lv_iload_n hx hb dX7_store_7 rfl (lv_at hl 2 rfl) ?_
  refine lv_i2b hx hb dX7_store_8 rfl ?_
  refine lv_goto (tgt := 26) hx hb dX7_store_9 (by decide) ?_
  exact hJ26  ((v2).toInt8.toInt32) M H locs ls G  (lv_sub hl [0, 1] rfl) h
def f_X11_set (v1 : Int32) (v2 : Int32) (v3 : Int32) (M : Mm) (K : Int32 → Mm → Prop) : Prop := (f_X11_rowAt (v1) M (fun o18 M1 => (o18 = none → K (-1000001) M1) ∧ (∀ p2 : Nat, o18 = some p2 → (isRow p2 ∧ (f_X7_missing p2 M1 (fun r5 M4 => ((((r5 : Int32) = 0 : Prop) → (f_X7_has p2 (v2) (1) M4 (fun r8 M7 => ((((r8 : Int32) = 0 : Prop) → (f_X11_found (2) M7 (fun r15 M14 => K (r15) M14))) ∧ (¬ ((r8 : Int32) = 0 : Prop) → (f_X7_store p2 (v2) (v3) M7 (fun r11 M10 => (f_X11_sound (r11) M10 (fun r13 M12 => K (r13) M12))))))))) ∧ (¬ ((r5 : Int32) = 0 : Prop) → (f_X11_found (1) M4 (fun r17 M16 => K (r17) M16))))))))))
set_option maxHeartbeats 4000000 in
set_option maxRecDepth 100000 in
theorem m_X11_set (hI : gI 91 ad) {v1 : Int32} {v2 : Int32} {v3 : Int32} {M : Mm} {K : Int32 → Mm → Prop} (h : f_X11_set v1 v2 v3 M K) : gM l D cy 91 ad (shC ad cy) yX11_set cX11_set 5 (some .int) 1 23 [.ref (ad 0), .int (v1), .int (v2), .int (v3)] M (gQi D 91 ad (shC ad cy) K) := by
  refine gM.of (own := RX11) (lv := [(0, .ref (ad 0)), (1, .int (v1)), (2, .int (v2)), (3, .int (v3))]) (by decide) rfl hI (Nat.le_of_ble_eq_true rfl) rfl ?_
  intro p e s m below meth c ls H locs X G hl
  have hx := X.1
  have hb := X.2.1
  unfold f_X11_set at h
  refine lv_aload_n hx hb dX11_set_0 rfl (lv_at hl 0 rfl) ?_
  refine lv_iload_n hx hb dX11_set_1 rfl (lv_at hl 1 rfl) ?_
  refine gq_calle G (gc_V (C := RX11) (rest := []) X hl.1 G (m_X11_rowAt hI  h) cw_X11_rowAt qw_6_6 qw_6_7 qw_6_8 ob_PH rfl rfl rfl rfl (Nat.le_of_ble_eq_true rfl) ⟨Nat.le_of_ble_eq_true rfl, Nat.le_of_ble_eq_true rfl⟩ ⟨Nat.le_refl _, Nat.le_refl _⟩ dX11_set_2) (fun M1 H locs G h => ?_) (fun p2 M1 H locs G h => ?_)
  · have h := h.1 rfl
    refine lv_astoreN (lv' := [(4, .null), (0, .ref (ad 0)), (1, .int (v1)), (2, .int (v2)), (3, .int (v3))]) hx hb dX11_set_5 hl (by decide) rfl (fun ls hl => ?_)
    refine lv_aloadN hx hb dX11_set_7 (lv_at hl 0 rfl) ?_
    refine lv_ifnonnullN hx hb dX11_set_9 ?_
    refine gq_ldc (v := (-1000001)) X qw_6_5 dX11_set_12 ?_
    exact gq_iret X G h dX11_set_14
  have h := h.2 p2 rfl
  refine lv_astore (lv' := [(4, .ref (ad p2)), (0, .ref (ad 0)), (1, .int (v1)), (2, .int (v2)), (3, .int (v3))]) hx hb dX11_set_5 hl (by decide) rfl (fun ls hl => ?_)
  refine lv_aload hx hb dX11_set_7 (lv_at hl 0 rfl) ?_
  refine lv_ifnonnull (tgt := 15) hx hb dX11_set_9 (by decide) ?_
  refine lv_aload hx hb dX11_set_15 (lv_at hl 0 rfl) ?_
  obtain ⟨q3, h⟩ := h
  refine gq_calli G (gc_VN (C := RX7) (rest := []) X hl.1 G (m_X7_missing hI q3 h) cw_X7_missing nm_17 qw_8_5 qw_8_6 (ob_Row q3) rfl rfl rfl rfl (Nat.le_of_ble_eq_true rfl) ⟨Nat.le_of_ble_eq_true rfl, Nat.le_of_ble_eq_true rfl⟩ ⟨Nat.le_refl _, Nat.le_refl _⟩ dX11_set_17) (fun r5 M4 H locs G h => ?_)
  refine lv_if_eq (tgt := 29) hx hb dX11_set_20 (by decide) (fun c6 => ?_) (fun c6 => ?_)
  · have h := h.1 c6
    refine lv_aload hx hb dX11_set_29 (lv_at hl 0 rfl) ?_
    refine lv_iload_n hx hb dX11_set_31 rfl (lv_at hl 3 rfl) ?_
    refine lv_iconst (v := (1)) hx hb dX11_set_32 (by decide) ?_
    refine gq_calli G (gc_VN (C := RX7) (rest := []) X hl.1 G (m_X7_has hI q3 h) cw_X7_has nm_18 qw_8_8 qw_8_9 (ob_Row q3) rfl rfl rfl rfl (Nat.le_of_ble_eq_true rfl) ⟨Nat.le_of_ble_eq_true rfl, Nat.le_of_ble_eq_true rfl⟩ ⟨Nat.le_refl _, Nat.le_refl _⟩ dX11_set_33) (fun r8 M7 H locs G h => ?_)
    refine lv_if_ne (tgt := 45) hx hb dX11_set_36 (by decide) (fun c9 => ?_) (fun c9 => ?_)
    · have h := h.2 c9
      refine lv_aload_n hx hb dX11_set_45 rfl (lv_at hl 1 rfl) ?_
      refine lv_aload hx hb dX11_set_46 (lv_at hl 0 rfl) ?_
      refine lv_iload_n hx hb dX11_set_48 rfl (lv_at hl 3 rfl) ?_
      refine lv_iload_n hx hb dX11_set_49 rfl (lv_at hl 4 rfl) ?_
      refine gq_calli G (gc_VN (C := RX7) (rest := [.ref (ad 0)]) X hl.1 G (m_X7_store hI q3 h) cw_X7_store nm_19 qw_8_11 qw_8_12 (ob_Row q3) rfl rfl rfl rfl (Nat.le_of_ble_eq_true rfl) ⟨Nat.le_of_ble_eq_true rfl, Nat.le_of_ble_eq_true rfl⟩ ⟨Nat.le_refl _, Nat.le_refl _⟩ dX11_set_50) (fun r11 M10 H locs G h => ?_)
      refine gq_calli G (gc_V (C := RX11) (rest := []) X hl.1 G (m_X11_sound hI  h) cw_X11_sound qw_7_0 qw_7_1 qw_7_2 ob_PH rfl rfl rfl rfl (Nat.le_of_ble_eq_true rfl) ⟨Nat.le_of_ble_eq_true rfl, Nat.le_of_ble_eq_true rfl⟩ ⟨Nat.le_refl _, Nat.le_refl _⟩ dX11_set_53) (fun r13 M12 H locs G h => ?_)
      exact gq_iret X G h dX11_set_56
    have h := h.1 c9
    refine lv_aload_n hx hb dX11_set_39 rfl (lv_at hl 1 rfl) ?_
    refine lv_iconst (v := (2)) hx hb dX11_set_40 (by decide) ?_
    refine gq_calli G (gc_V (C := RX11) (rest := []) X hl.1 G (m_X11_found hI  h) cw_X11_found qw_6_10 qw_6_11 qw_6_12 ob_PH rfl rfl rfl rfl (Nat.le_of_ble_eq_true rfl) ⟨Nat.le_of_ble_eq_true rfl, Nat.le_of_ble_eq_true rfl⟩ ⟨Nat.le_refl _, Nat.le_refl _⟩ dX11_set_41) (fun r15 M14 H locs G h => ?_)
    exact gq_iret X G h dX11_set_44
  have h := h.2 c6
  refine lv_aload_n hx hb dX11_set_23 rfl (lv_at hl 1 rfl) ?_
  refine lv_iconst (v := (1)) hx hb dX11_set_24 (by decide) ?_
  refine gq_calli G (gc_V (C := RX11) (rest := []) X hl.1 G (m_X11_found hI  h) cw_X11_found qw_6_10 qw_6_11 qw_6_12 ob_PH rfl rfl rfl rfl (Nat.le_of_ble_eq_true rfl) ⟨Nat.le_of_ble_eq_true rfl, Nat.le_of_ble_eq_true rfl⟩ ⟨Nat.le_refl _, Nat.le_refl _⟩ dX11_set_25) (fun r17 M16 H locs G h => ?_)
  exact gq_iret X G h dX11_set_28
def f_X11_copy_91 (K : Int32 → Mm → Prop) (M : Mm) : Prop := (f_X11_found (2) M (fun r2 M1 => K (r2) M1))
def f_X11_copy_43 (K : Int32 → Mm → Prop) (M : Mm) : Prop := (f_X11_found (1) M (fun r4 M3 => K (r4) M3))
def f_X11_copy (v1 : Int32) (v2 : Int32) (v3 : Int32) (v4 : Int32) (v5 : Int32) (M : Mm) (K : Int32 → Mm → Prop) : Prop := (f_X11_rowAt (v1) M (fun o35 M5 => (o35 = none → (f_X11_rowAt (v3) M5 (fun o9 M7 => (o9 = none → K (-1000001) M7) ∧ (∀ p8 : Nat, o9 = some p8 → K (-1000001) M7)))) ∧ (∀ p6 : Nat, o35 = some p6 → (f_X11_rowAt (v3) M5 (fun o34 M10 => (o34 = none → K (-1000001) M10) ∧ (∀ p11 : Nat, o34 = some p11 → (isRow p6 ∧ (f_X7_missing p6 M10 (fun r14 M13 => ((((r14 : Int32) = 0 : Prop) → (isRow p11 ∧ (f_X7_missing p11 M13 (fun r18 M17 => ((((r18 : Int32) = 0 : Prop) → ((((M17 p6 1 : Int32) = M17 p11 1 : Prop) → (f_X7_has p6 (v2) (v5) M17 (fun r22 M21 => ((((r22 : Int32) = 0 : Prop) → f_X11_copy_91 K M21) ∧ (¬ ((r22 : Int32) = 0 : Prop) → (f_X7_has p11 (v4) (v5) M21 (fun r25 M24 => ((((r25 : Int32) = 0 : Prop) → f_X11_copy_91 K M24) ∧ (¬ ((r25 : Int32) = 0 : Prop) → (gCk (v2) (v4) (v5) 40 40 ∧ (∀ M27 : Mm, M27 = gCp M24 (p6 + 1) (p11 + 1) (v2 : Int32).toNatClampNeg (v4 : Int32).toNatClampNeg (v5 : Int32).toNatClampNeg → (f_X11_sound (v5) M27 (fun r31 M30 => K (r31) M30))))))))))))) ∧ (¬ ((M17 p6 1 : Int32) = M17 p11 1 : Prop) → (f_X11_found (5) M17 (fun r33 M32 => K (r33) M32))))) ∧ (¬ ((r18 : Int32) = 0 : Prop) → f_X11_copy_43 K M17)))))) ∧ (¬ ((r14 : Int32) = 0 : Prop) → f_X11_copy_43 K M13)))))))))))
set_option maxHeartbeats 4000000 in
set_option maxRecDepth 100000 in
theorem m_X11_copy (hI : gI 91 ad) {v1 : Int32} {v2 : Int32} {v3 : Int32} {v4 : Int32} {v5 : Int32} {M : Mm} {K : Int32 → Mm → Prop} (h : f_X11_copy v1 v2 v3 v4 v5 M K) : gM l D cy 91 ad (shC ad cy) yX11_copy cX11_copy 8 (some .int) 1 64 [.ref (ad 0), .int (v1), .int (v2), .int (v3), .int (v4), .int (v5)] M (gQi D 91 ad (shC ad cy) K) := by
  refine gM.of (own := RX11) (lv := [(0, .ref (ad 0)), (1, .int (v1)), (2, .int (v2)), (3, .int (v3)), (4, .int (v4)), (5, .int (v5))]) (by decide) rfl hI (Nat.le_of_ble_eq_true rfl) rfl ?_
  intro p e s m below meth c ls H locs X G hl
  have hx := X.1
  have hb := X.2.1
  have hJ91 : ∀ (M : Mm) (H : Heap) (locs : List Loc) (ls : Array Slot), gS D s 91 ad (shC ad cy) H locs M → lv_has ls 8 [(0, .ref (ad 0))] → f_X11_copy_91 K M → gWk p l e 1 64 s m ([.ref (ad 0), .int (v1), .int (v2), .int (v3), .int (v4), .int (v5)] : List Value).toArray below meth c H locs (gQi D 91 ad (shC ad cy) K) 91 ad 91 ls [] := by
    intro M H locs ls G hl h
    unfold f_X11_copy_91 at h
    refine lv_aload_n hx hb dX11_copy_91 rfl (lv_at hl 0 rfl) ?_
    refine lv_iconst (v := (2)) hx hb dX11_copy_92 (by decide) ?_
    refine gq_calli G (gc_V (C := RX11) (rest := []) X hl.1 G (m_X11_found hI  h) cw_X11_found qw_6_10 qw_6_11 qw_6_12 ob_PH rfl rfl rfl rfl (Nat.le_of_ble_eq_true rfl) ⟨Nat.le_of_ble_eq_true rfl, Nat.le_of_ble_eq_true rfl⟩ ⟨Nat.le_refl _, Nat.le_refl _⟩ dX11_copy_93) (fun r2 M1 H locs G h => ?_)
    exact gq_iret X G h dX11_copy_96
  have hJ43 : ∀ (M : Mm) (H : Heap) (locs : List Loc) (ls : Array Slot), gS D s 91 ad (shC ad cy) H locs M → lv_has ls 8 [(0, .ref (ad 0))] → f_X11_copy_43 K M → gWk p l e 1 64 s m ([.ref (ad 0), .int (v1), .int (v2), .int (v3), .int (v4), .int (v5)] : List Value).toArray below meth c H locs (gQi D 91 ad (shC ad cy) K) 91 ad 43 ls [] := by
    intro M H locs ls G hl h
    unfold f_X11_copy_43 at h
    refine lv_aload_n hx hb dX11_copy_43 rfl (lv_at hl 0 rfl) ?_
    refine lv_iconst (v := (1)) hx hb dX11_copy_44 (by decide) ?_
    refine gq_calli G (gc_V (C := RX11) (rest := []) X hl.1 G (m_X11_found hI  h) cw_X11_found qw_6_10 qw_6_11 qw_6_12 ob_PH rfl rfl rfl rfl (Nat.le_of_ble_eq_true rfl) ⟨Nat.le_of_ble_eq_true rfl, Nat.le_of_ble_eq_true rfl⟩ ⟨Nat.le_refl _, Nat.le_refl _⟩ dX11_copy_45) (fun r4 M3 H locs G h => ?_)
    exact gq_iret X G h dX11_copy_48
  unfold f_X11_copy at h
  refine lv_aload_n hx hb dX11_copy_0 rfl (lv_at hl 0 rfl) ?_
  refine lv_iload_n hx hb dX11_copy_1 rfl (lv_at hl 1 rfl) ?_
  refine gq_calle G (gc_V (C := RX11) (rest := []) X hl.1 G (m_X11_rowAt hI  h) cw_X11_rowAt qw_6_6 qw_6_7 qw_6_8 ob_PH rfl rfl rfl rfl (Nat.le_of_ble_eq_true rfl) ⟨Nat.le_of_ble_eq_true rfl, Nat.le_of_ble_eq_true rfl⟩ ⟨Nat.le_refl _, Nat.le_refl _⟩ dX11_copy_2) (fun M5 H locs G h => ?_) (fun p6 M5 H locs G h => ?_)
  · have h := h.1 rfl
    refine lv_astoreN (lv' := [(6, .null), (0, .ref (ad 0)), (1, .int (v1)), (2, .int (v2)), (3, .int (v3)), (4, .int (v4)), (5, .int (v5))]) hx hb dX11_copy_5 hl (by decide) rfl (fun ls hl => ?_)
    refine lv_aload_n hx hb dX11_copy_7 rfl (lv_at hl 1 rfl) ?_
    refine lv_iload_n hx hb dX11_copy_8 rfl (lv_at hl 4 rfl) ?_
    refine gq_calle G (gc_V (C := RX11) (rest := []) X hl.1 G (m_X11_rowAt hI  h) cw_X11_rowAt qw_6_6 qw_6_7 qw_6_8 ob_PH rfl rfl rfl rfl (Nat.le_of_ble_eq_true rfl) ⟨Nat.le_of_ble_eq_true rfl, Nat.le_of_ble_eq_true rfl⟩ ⟨Nat.le_refl _, Nat.le_refl _⟩ dX11_copy_9) (fun M7 H locs G h => ?_) (fun p8 M7 H locs G h => ?_)
    · have h := h.1 rfl
      refine lv_astoreN (lv' := [(7, .null), (6, .null), (0, .ref (ad 0)), (1, .int (v1)), (2, .int (v2)), (3, .int (v3)), (4, .int (v4)), (5, .int (v5))]) hx hb dX11_copy_12 hl (by decide) rfl (fun ls hl => ?_)
      refine lv_aloadN hx hb dX11_copy_14 (lv_at hl 1 rfl) ?_
      refine lv_ifnullN (tgt := 24) hx hb dX11_copy_16 (by decide) ?_
      refine gq_ldc (v := (-1000001)) X qw_6_5 dX11_copy_24 ?_
      exact gq_iret X G h dX11_copy_26
    have h := h.2 p8 rfl
    refine lv_astore (lv' := [(7, .ref (ad p8)), (6, .null), (0, .ref (ad 0)), (1, .int (v1)), (2, .int (v2)), (3, .int (v3)), (4, .int (v4)), (5, .int (v5))]) hx hb dX11_copy_12 hl (by decide) rfl (fun ls hl => ?_)
    refine lv_aloadN hx hb dX11_copy_14 (lv_at hl 1 rfl) ?_
    refine lv_ifnullN (tgt := 24) hx hb dX11_copy_16 (by decide) ?_
    refine gq_ldc (v := (-1000001)) X qw_6_5 dX11_copy_24 ?_
    exact gq_iret X G h dX11_copy_26
  have h := h.2 p6 rfl
  refine lv_astore (lv' := [(6, .ref (ad p6)), (0, .ref (ad 0)), (1, .int (v1)), (2, .int (v2)), (3, .int (v3)), (4, .int (v4)), (5, .int (v5))]) hx hb dX11_copy_5 hl (by decide) rfl (fun ls hl => ?_)
  refine lv_aload_n hx hb dX11_copy_7 rfl (lv_at hl 1 rfl) ?_
  refine lv_iload_n hx hb dX11_copy_8 rfl (lv_at hl 4 rfl) ?_
  refine gq_calle G (gc_V (C := RX11) (rest := []) X hl.1 G (m_X11_rowAt hI  h) cw_X11_rowAt qw_6_6 qw_6_7 qw_6_8 ob_PH rfl rfl rfl rfl (Nat.le_of_ble_eq_true rfl) ⟨Nat.le_of_ble_eq_true rfl, Nat.le_of_ble_eq_true rfl⟩ ⟨Nat.le_refl _, Nat.le_refl _⟩ dX11_copy_9) (fun M10 H locs G h => ?_) (fun p11 M10 H locs G h => ?_)
  · have h := h.1 rfl
    refine lv_astoreN (lv' := [(7, .null), (6, .ref (ad p6)), (0, .ref (ad 0)), (1, .int (v1)), (2, .int (v2)), (3, .int (v3)), (4, .int (v4)), (5, .int (v5))]) hx hb dX11_copy_12 hl (by decide) rfl (fun ls hl => ?_)
    refine lv_aload hx hb dX11_copy_14 (lv_at hl 1 rfl) ?_
    refine lv_ifnull hx hb dX11_copy_16 ?_
    refine lv_aloadN hx hb dX11_copy_19 (lv_at hl 0 rfl) ?_
    refine lv_ifnonnullN hx hb dX11_copy_21 ?_
    refine gq_ldc (v := (-1000001)) X qw_6_5 dX11_copy_24 ?_
    exact gq_iret X G h dX11_copy_26
  have h := h.2 p11 rfl
  refine lv_astore (lv' := [(7, .ref (ad p11)), (6, .ref (ad p6)), (0, .ref (ad 0)), (1, .int (v1)), (2, .int (v2)), (3, .int (v3)), (4, .int (v4)), (5, .int (v5))]) hx hb dX11_copy_12 hl (by decide) rfl (fun ls hl => ?_)
  refine lv_aload hx hb dX11_copy_14 (lv_at hl 1 rfl) ?_
  refine lv_ifnull hx hb dX11_copy_16 ?_
  refine lv_aload hx hb dX11_copy_19 (lv_at hl 0 rfl) ?_
  refine lv_ifnonnull (tgt := 27) hx hb dX11_copy_21 (by decide) ?_
  refine lv_aload hx hb dX11_copy_27 (lv_at hl 1 rfl) ?_
  obtain ⟨q12, h⟩ := h
  refine gq_calli G (gc_VN (C := RX7) (rest := []) X hl.1 G (m_X7_missing hI q12 h) cw_X7_missing nm_17 qw_8_5 qw_8_6 (ob_Row q12) rfl rfl rfl rfl (Nat.le_of_ble_eq_true rfl) ⟨Nat.le_of_ble_eq_true rfl, Nat.le_of_ble_eq_true rfl⟩ ⟨Nat.le_refl _, Nat.le_refl _⟩ dX11_copy_29) (fun r14 M13 H locs G h => ?_)
  refine lv_if_ne (tgt := 43) hx hb dX11_copy_32 (by decide) (fun c15 => ?_) (fun c15 => ?_)
  · have h := h.2 c15
    exact hJ43   M13 H locs ls G  (lv_sub hl [2] rfl) h
  have h := h.1 c15
  refine lv_aload hx hb dX11_copy_35 (lv_at hl 0 rfl) ?_
  obtain ⟨q16, h⟩ := h
  refine gq_calli G (gc_VN (C := RX7) (rest := []) X hl.1 G (m_X7_missing hI q16 h) cw_X7_missing nm_17 qw_8_5 qw_8_6 (ob_Row q16) rfl rfl rfl rfl (Nat.le_of_ble_eq_true rfl) ⟨Nat.le_of_ble_eq_true rfl, Nat.le_of_ble_eq_true rfl⟩ ⟨Nat.le_refl _, Nat.le_refl _⟩ dX11_copy_37) (fun r18 M17 H locs G h => ?_)
  refine lv_if_eq (tgt := 49) hx hb dX11_copy_40 (by decide) (fun c19 => ?_) (fun c19 => ?_)
  · have h := h.1 c19
    refine lv_aload hx hb dX11_copy_49 (lv_at hl 1 rfl) ?_
    refine gfN_Row_lane X G q12 nf_3 dX11_copy_51 ?_
    refine lv_aload hx hb dX11_copy_54 (lv_at hl 0 rfl) ?_
    refine gfN_Row_lane X G q16 nf_3 dX11_copy_56 ?_
    refine lv_icmp_eq (tgt := 68) hx hb dX11_copy_59 (by decide) (fun c20 => ?_) (fun c20 => ?_)
    · have h := h.1 c20
      refine lv_aload hx hb dX11_copy_68 (lv_at hl 1 rfl) ?_
      refine lv_iload_n hx hb dX11_copy_70 rfl (lv_at hl 4 rfl) ?_
      refine lv_iload hx hb dX11_copy_71 (lv_at hl 7 rfl) ?_
      refine gq_calli G (gc_VN (C := RX7) (rest := []) X hl.1 G (m_X7_has hI q12 h) cw_X7_has nm_18 qw_8_8 qw_8_9 (ob_Row q12) rfl rfl rfl rfl (Nat.le_of_ble_eq_true rfl) ⟨Nat.le_of_ble_eq_true rfl, Nat.le_of_ble_eq_true rfl⟩ ⟨Nat.le_refl _, Nat.le_refl _⟩ dX11_copy_73) (fun r22 M21 H locs G h => ?_)
      refine lv_if_eq (tgt := 91) hx hb dX11_copy_76 (by decide) (fun c23 => ?_) (fun c23 => ?_)
      · have h := h.1 c23
        exact hJ91   M21 H locs ls G  (lv_sub hl [2] rfl) h
      have h := h.2 c23
      refine lv_aload hx hb dX11_copy_79 (lv_at hl 0 rfl) ?_
      refine lv_iload hx hb dX11_copy_81 (lv_at hl 6 rfl) ?_
      refine lv_iload hx hb dX11_copy_83 (lv_at hl 7 rfl) ?_
      refine gq_calli G (gc_VN (C := RX7) (rest := []) X hl.1 G (m_X7_has hI q16 h) cw_X7_has nm_18 qw_8_8 qw_8_9 (ob_Row q16) rfl rfl rfl rfl (Nat.le_of_ble_eq_true rfl) ⟨Nat.le_of_ble_eq_true rfl, Nat.le_of_ble_eq_true rfl⟩ ⟨Nat.le_refl _, Nat.le_refl _⟩ dX11_copy_85) (fun r25 M24 H locs G h => ?_)
      refine lv_if_ne (tgt := 97) hx hb dX11_copy_88 (by decide) (fun c26 => ?_) (fun c26 => ?_)
      · have h := h.2 c26
        refine lv_aload hx hb dX11_copy_97 (lv_at hl 1 rfl) ?_
        refine gfN_Row_items X G q12 nf_0 dX11_copy_99 ?_
        refine lv_iload_n hx hb dX11_copy_102 rfl (lv_at hl 4 rfl) ?_
        refine lv_aload hx hb dX11_copy_103 (lv_at hl 0 rfl) ?_
        refine gfN_Row_items X G q16 nf_0 dX11_copy_105 ?_
        refine lv_iload hx hb dX11_copy_108 (lv_at hl 6 rfl) ?_
        refine lv_iload hx hb dX11_copy_110 (lv_at hl 7 rfl) ?_
        obtain ⟨q28, h⟩ := h
        refine gq_copy (rest := []) X hl.1 G (ar_Row_items q12) (ar_Row_items q16) qw_8_22 qw_8_23 qw_9_0 qw_9_1 q28 (Nat.le_of_ble_eq_true rfl) (Nat.le_of_ble_eq_true rfl) dX11_copy_112 (fun M27 H locs e29 G => ?_)
        have h := h M27 e29
        refine lv_aload_n hx hb dX11_copy_115 rfl (lv_at hl 2 rfl) ?_
        refine lv_iload hx hb dX11_copy_116 (lv_at hl 7 rfl) ?_
        refine gq_calli G (gc_V (C := RX11) (rest := []) X hl.1 G (m_X11_sound hI  h) cw_X11_sound qw_7_0 qw_7_1 qw_7_2 ob_PH rfl rfl rfl rfl (Nat.le_of_ble_eq_true rfl) ⟨Nat.le_of_ble_eq_true rfl, Nat.le_of_ble_eq_true rfl⟩ ⟨Nat.le_refl _, Nat.le_refl _⟩ dX11_copy_118) (fun r31 M30 H locs G h => ?_)
        exact gq_iret X G h dX11_copy_121
      have h := h.1 c26
      exact hJ91   M24 H locs ls G  (lv_sub hl [2] rfl) h
    have h := h.2 c20
    refine lv_aload_n hx hb dX11_copy_62 rfl (lv_at hl 2 rfl) ?_
    refine lv_iconst (v := (5)) hx hb dX11_copy_63 (by decide) ?_
    refine gq_calli G (gc_V (C := RX11) (rest := []) X hl.1 G (m_X11_found hI  h) cw_X11_found qw_6_10 qw_6_11 qw_6_12 ob_PH rfl rfl rfl rfl (Nat.le_of_ble_eq_true rfl) ⟨Nat.le_of_ble_eq_true rfl, Nat.le_of_ble_eq_true rfl⟩ ⟨Nat.le_refl _, Nat.le_refl _⟩ dX11_copy_64) (fun r33 M32 H locs G h => ?_)
    exact gq_iret X G h dX11_copy_67
  have h := h.2 c19
  exact hJ43   M17 H locs ls G  (lv_sub hl [2] rfl) h
def f_X7_lift (v0 : Nat) (M : Mm) (K : Mm → Prop) : Prop := (∀ M1 : Mm, M1 = gU M v0 1 (-1) → (∀ M3 : Mm, M3 = gU M1 v0 2 (0) → K M3))
set_option maxHeartbeats 4000000 in
set_option maxRecDepth 100000 in
theorem m_X7_lift (hI : gI 91 ad) {v0 : Nat} (hv0 : isRow v0) {M : Mm} {K : Mm → Prop} (h : f_X7_lift v0 M K) : gM l D cy 91 ad (shC ad cy) yX7_lift cX7_lift 1 none 0 0 [.ref (ad v0)] M (gQv D 91 ad (shC ad cy) K) := by
  refine gM.of (own := RX7) (lv := [(0, .ref (ad v0))]) (by decide) rfl hI (Nat.le_of_ble_eq_true rfl) rfl ?_
  intro p e s m below meth c ls H locs X G hl
  have hx := X.1
  have hb := X.2.1
  unfold f_X7_lift at h
  refine lv_aload_n hx hb dX7_lift_0 rfl (lv_at hl 0 rfl) ?_
  refine lv_iconst (v := (-1)) hx hb dX7_lift_1 (by decide) ?_
  refine gp_Row_lane X G hv0 qw_3_10 dX7_lift_2 (fun M1 H locs e2 G => ?_)
  have h := h M1 e2
  refine lv_aload_n hx hb dX7_lift_5 rfl (lv_at hl 0 rfl) ?_
  refine lv_iconst (v := (0)) hx hb dX7_lift_6 (by decide) ?_
  refine gp_Row_size X G hv0 qw_6_19 dX7_lift_7 (fun M3 H locs e4 G => ?_)
  have h := h M3 e4
  exact gq_vret X G h dX7_lift_10
def f_X11_drop (v1 : Int32) (M : Mm) (K : Int32 → Mm → Prop) : Prop := (f_X11_rowAt (v1) M (fun o12 M1 => (o12 = none → K (-1000001) M1) ∧ (∀ p2 : Nat, o12 = some p2 → (isRow p2 ∧ (f_X7_missing p2 M1 (fun r5 M4 => ((((r5 : Int32) = 0 : Prop) → (f_X7_lift p2 M4 (fun M7 => (f_X11_sound (M4 p2 2) M7 (fun r9 M8 => K (r9) M8))))) ∧ (¬ ((r5 : Int32) = 0 : Prop) → (f_X11_found (1) M4 (fun r11 M10 => K (r11) M10))))))))))
set_option maxHeartbeats 4000000 in
set_option maxRecDepth 100000 in
theorem m_X11_drop (hI : gI 91 ad) {v1 : Int32} {M : Mm} {K : Int32 → Mm → Prop} (h : f_X11_drop v1 M K) : gM l D cy 91 ad (shC ad cy) yX11_drop cX11_drop 4 (some .int) 1 21 [.ref (ad 0), .int (v1)] M (gQi D 91 ad (shC ad cy) K) := by
  refine gM.of (own := RX11) (lv := [(0, .ref (ad 0)), (1, .int (v1))]) (by decide) rfl hI (Nat.le_of_ble_eq_true rfl) rfl ?_
  intro p e s m below meth c ls H locs X G hl
  have hx := X.1
  have hb := X.2.1
  unfold f_X11_drop at h
  refine lv_aload_n hx hb dX11_drop_0 rfl (lv_at hl 0 rfl) ?_
  refine lv_iload_n hx hb dX11_drop_1 rfl (lv_at hl 1 rfl) ?_
  refine gq_calle G (gc_V (C := RX11) (rest := []) X hl.1 G (m_X11_rowAt hI  h) cw_X11_rowAt qw_6_6 qw_6_7 qw_6_8 ob_PH rfl rfl rfl rfl (Nat.le_of_ble_eq_true rfl) ⟨Nat.le_of_ble_eq_true rfl, Nat.le_of_ble_eq_true rfl⟩ ⟨Nat.le_refl _, Nat.le_refl _⟩ dX11_drop_2) (fun M1 H locs G h => ?_) (fun p2 M1 H locs G h => ?_)
  · have h := h.1 rfl
    refine lv_astore_nN (lv' := [(2, .null), (0, .ref (ad 0)), (1, .int (v1))]) hx hb dX11_drop_5 rfl hl (by decide) rfl (fun ls hl => ?_)
    refine lv_aload_nN hx hb dX11_drop_6 rfl (lv_at hl 0 rfl) ?_
    refine lv_ifnonnullN hx hb dX11_drop_7 ?_
    refine gq_ldc (v := (-1000001)) X qw_6_5 dX11_drop_10 ?_
    exact gq_iret X G h dX11_drop_12
  have h := h.2 p2 rfl
  refine lv_astore_n (lv' := [(2, .ref (ad p2)), (0, .ref (ad 0)), (1, .int (v1))]) hx hb dX11_drop_5 rfl hl (by decide) rfl (fun ls hl => ?_)
  refine lv_aload_n hx hb dX11_drop_6 rfl (lv_at hl 0 rfl) ?_
  refine lv_ifnonnull (tgt := 13) hx hb dX11_drop_7 (by decide) ?_
  refine lv_aload_n hx hb dX11_drop_13 rfl (lv_at hl 0 rfl) ?_
  obtain ⟨q3, h⟩ := h
  refine gq_calli G (gc_VN (C := RX7) (rest := []) X hl.1 G (m_X7_missing hI q3 h) cw_X7_missing nm_17 qw_8_5 qw_8_6 (ob_Row q3) rfl rfl rfl rfl (Nat.le_of_ble_eq_true rfl) ⟨Nat.le_of_ble_eq_true rfl, Nat.le_of_ble_eq_true rfl⟩ ⟨Nat.le_refl _, Nat.le_refl _⟩ dX11_drop_14) (fun r5 M4 H locs G h => ?_)
  refine lv_if_eq (tgt := 26) hx hb dX11_drop_17 (by decide) (fun c6 => ?_) (fun c6 => ?_)
  · have h := h.1 c6
    refine lv_aload_n hx hb dX11_drop_26 rfl (lv_at hl 0 rfl) ?_
    refine gfN_Row_size X G q3 nf_4 dX11_drop_27 ?_
    refine lv_istore_n (lv' := [(3, .int (M4 p2 2)), (2, .ref (ad p2)), (0, .ref (ad 0)), (1, .int (v1))]) hx hb dX11_drop_30 rfl hl (by decide) rfl (fun ls hl => ?_)
    refine lv_aload_n hx hb dX11_drop_31 rfl (lv_at hl 1 rfl) ?_
    refine gq_callv G (gc_VN (C := RX7) (rest := []) X hl.1 G (m_X7_lift hI q3 h) cw_X7_lift nm_20 qw_9_14 qw_9_15 (ob_Row q3) rfl rfl rfl rfl (Nat.le_of_ble_eq_true rfl) ⟨Nat.le_of_ble_eq_true rfl, Nat.le_of_ble_eq_true rfl⟩ ⟨Nat.le_refl _, Nat.le_refl _⟩ dX11_drop_32) (fun M7 H locs G h => ?_)
    refine lv_aload_n hx hb dX11_drop_35 rfl (lv_at hl 2 rfl) ?_
    refine lv_iload_n hx hb dX11_drop_36 rfl (lv_at hl 0 rfl) ?_
    refine gq_calli G (gc_V (C := RX11) (rest := []) X hl.1 G (m_X11_sound hI  h) cw_X11_sound qw_7_0 qw_7_1 qw_7_2 ob_PH rfl rfl rfl rfl (Nat.le_of_ble_eq_true rfl) ⟨Nat.le_of_ble_eq_true rfl, Nat.le_of_ble_eq_true rfl⟩ ⟨Nat.le_refl _, Nat.le_refl _⟩ dX11_drop_37) (fun r9 M8 H locs G h => ?_)
    exact gq_iret X G h dX11_drop_40
  have h := h.2 c6
  refine lv_aload_n hx hb dX11_drop_20 rfl (lv_at hl 1 rfl) ?_
  refine lv_iconst (v := (1)) hx hb dX11_drop_21 (by decide) ?_
  refine gq_calli G (gc_V (C := RX11) (rest := []) X hl.1 G (m_X11_found hI  h) cw_X11_found qw_6_10 qw_6_11 qw_6_12 ob_PH rfl rfl rfl rfl (Nat.le_of_ble_eq_true rfl) ⟨Nat.le_of_ble_eq_true rfl, Nat.le_of_ble_eq_true rfl⟩ ⟨Nat.le_refl _, Nat.le_refl _⟩ dX11_drop_22) (fun r11 M10 H locs G h => ?_)
  exact gq_iret X G h dX11_drop_25
def f_X9_add (v1 : Int32) (M : Mm) (K : Int32 → Mm → Prop) : Prop := ((((M 24 1 : Int32) < 90 : Prop) → (vp_in (M 24 1) 90 ∧ (∀ M3 : Mm, M3 = gU M 25 (M 24 1 : Int32).toNatClampNeg (v1) → (∀ M5 : Mm, M5 = gU M3 24 1 ((M3 24 1) + 1) → K 1 M5)))) ∧ (¬ ((M 24 1 : Int32) < 90 : Prop) → K 0 M))
set_option maxHeartbeats 4000000 in
set_option maxRecDepth 100000 in
theorem m_X9_add (hI : gI 91 ad) {v1 : Int32} {M : Mm} {K : Int32 → Mm → Prop} (h : f_X9_add v1 M K) : gM l D cy 91 ad (shC ad cy) yX9_add cX9_add 2 (some .boolean) 0 0 [.ref (ad 24), .int (v1)] M (gQi D 91 ad (shC ad cy) K) := by
  refine gM.of (own := RX9) (lv := [(0, .ref (ad 24)), (1, .int (v1))]) (by decide) rfl hI (Nat.le_of_ble_eq_true rfl) rfl ?_
  intro p e s m below meth c ls H locs X G hl
  have hx := X.1
  have hb := X.2.1
  unfold f_X9_add at h
  refine lv_aload_n hx hb dX9_add_0 rfl (lv_at hl 0 rfl) ?_
  refine gf_Tape_length X G qw_10_5 dX9_add_1 ?_
  refine lv_bipush (v := (90)) hx hb dX9_add_4 (by decide) ?_
  refine lv_icmp_lt (tgt := 11) hx hb dX9_add_6 (by decide) (fun c1 => ?_) (fun c1 => ?_)
  · have h := h.1 c1
    refine lv_aload_n hx hb dX9_add_11 rfl (lv_at hl 0 rfl) ?_
    refine gf_Tape_bytes X G qw_4_4 dX9_add_12 ?_
    refine lv_aload_n hx hb dX9_add_15 rfl (lv_at hl 0 rfl) ?_
    refine gf_Tape_length X G qw_10_5 dX9_add_16 ?_
    refine lv_iload_n hx hb dX9_add_19 rfl (lv_at hl 1 rfl) ?_
    obtain ⟨q2, h⟩ := h
    refine gq_iast X G ar_25 q2 dX9_add_20 (fun M3 H locs e4 G => ?_)
    have h := h M3 e4
    refine lv_aload_n hx hb dX9_add_21 rfl (lv_at hl 0 rfl) ?_
    refine lv_dup hx hb dX9_add_22 rfl ?_
    refine gf_Tape_length X G qw_10_5 dX9_add_23 ?_
    refine lv_iconst (v := (1)) hx hb dX9_add_26 (by decide) ?_
    refine lv_iadd hx hb dX9_add_27 ?_
    refine gp_Tape_length X G qw_10_5 dX9_add_28 (fun M5 H locs e6 G => ?_)
    have h := h M5 e6
    refine lv_iconst (v := (1)) hx hb dX9_add_31 (by decide) ?_
    exact gq_zret X G (Or.inr rfl) h dX9_add_32
  have h := h.2 c1
  refine lv_iconst (v := (0)) hx hb dX9_add_9 (by decide) ?_
  exact gq_zret X G (Or.inl rfl) h dX9_add_10
def f_X11_feed (v1 : Int32) (M : Mm) (K : Int32 → Mm → Prop) : Prop := ((((v1 : Int32) < 0 : Prop) → K (-1000001) M) ∧ (¬ ((v1 : Int32) < 0 : Prop) → ((((v1 : Int32) ≤ 255 : Prop) → (f_X9_add (v1) M (fun r4 M3 => ((((r4 : Int32) = 0 : Prop) → K (-1000003) M3) ∧ (¬ ((r4 : Int32) = 0 : Prop) → K (M3 24 1) M3))))) ∧ (¬ ((v1 : Int32) ≤ 255 : Prop) → K (-1000001) M))))
set_option maxHeartbeats 4000000 in
set_option maxRecDepth 100000 in
theorem m_X11_feed (hI : gI 91 ad) {v1 : Int32} {M : Mm} {K : Int32 → Mm → Prop} (h : f_X11_feed v1 M K) : gM l D cy 91 ad (shC ad cy) yX11_feed cX11_feed 2 (some .int) 1 21 [.ref (ad 0), .int (v1)] M (gQi D 91 ad (shC ad cy) K) := by
  refine gM.of (own := RX11) (lv := [(0, .ref (ad 0)), (1, .int (v1))]) (by decide) rfl hI (Nat.le_of_ble_eq_true rfl) rfl ?_
  intro p e s m below meth c ls H locs X G hl
  have hx := X.1
  have hb := X.2.1
  unfold f_X11_feed at h
  refine lv_iload_n hx hb dX11_feed_0 rfl (lv_at hl 1 rfl) ?_
  refine lv_if_lt (tgt := 11) hx hb dX11_feed_1 (by decide) (fun c1 => ?_) (fun c1 => ?_)
  · have h := h.1 c1
    refine gq_ldc (v := (-1000001)) X qw_6_5 dX11_feed_11 ?_
    exact gq_iret X G h dX11_feed_13
  have h := h.2 c1
  refine lv_iload_n hx hb dX11_feed_4 rfl (lv_at hl 1 rfl) ?_
  refine lv_sipush (v := (255)) hx hb dX11_feed_5 (by decide) ?_
  refine lv_icmp_le (tgt := 14) hx hb dX11_feed_8 (by decide) (fun c2 => ?_) (fun c2 => ?_)
  · have h := h.1 c2
    refine lv_aload_n hx hb dX11_feed_14 rfl (lv_at hl 0 rfl) ?_
    refine gf_PH_tape X G qw_2_12 dX11_feed_15 ?_
    refine lv_iload_n hx hb dX11_feed_18 rfl (lv_at hl 1 rfl) ?_
    refine gq_calli G (gc_VN (C := RX9) (rest := []) X hl.1 G (m_X9_add hI  h) cw_X9_add nm_21 qw_10_2 qw_10_3 ob_Tape rfl rfl rfl rfl (Nat.le_of_ble_eq_true rfl) ⟨Nat.le_of_ble_eq_true rfl, Nat.le_of_ble_eq_true rfl⟩ ⟨Nat.le_refl _, Nat.le_refl _⟩ dX11_feed_19) (fun r4 M3 H locs G h => ?_)
    refine lv_if_eq (tgt := 35) hx hb dX11_feed_22 (by decide) (fun c5 => ?_) (fun c5 => ?_)
    · have h := h.1 c5
      refine gq_ldc (v := (-1000003)) X qw_10_1 dX11_feed_35 ?_
      exact gq_iret X G h dX11_feed_37
    have h := h.2 c5
    refine lv_aload_n hx hb dX11_feed_25 rfl (lv_at hl 0 rfl) ?_
    refine gf_PH_tape X G qw_2_12 dX11_feed_26 ?_
    refine gfN_Tape_length X G nf_5 dX11_feed_29 ?_
    refine lv_goto (tgt := 37) hx hb dX11_feed_32 (by decide) ?_
    exact gq_iret X G h dX11_feed_37
  have h := h.2 c2
  refine gq_ldc (v := (-1000001)) X qw_6_5 dX11_feed_11 ?_
  exact gq_iret X G h dX11_feed_13
def f_X6_clear (v0 : Nat) (M : Mm) (K : Mm → Prop) : Prop := (∀ M1 : Mm, M1 = gU M v0 7 (0) → (∀ M3 : Mm, M3 = gU M1 v0 8 (0) → (∀ M5 : Mm, M5 = gU M3 v0 9 (0) → (∀ M7 : Mm, M7 = gU M5 v0 10 (0) → (∀ M9 : Mm, M9 = gU M7 v0 11 (0) → (∀ M11 : Mm, M11 = gU M9 v0 12 (0) → (∀ M13 : Mm, M13 = gU M11 v0 13 (0) → K M13)))))))
set_option maxHeartbeats 4000000 in
set_option maxRecDepth 100000 in
theorem m_X6_clear (hI : gI 91 ad) {v0 : Nat} (hv0 : isPap v0) {M : Mm} {K : Mm → Prop} (h : f_X6_clear v0 M K) : gM l D cy 91 ad (shC ad cy) yX6_clear cX6_clear 1 none 0 0 [.ref (ad v0)] M (gQv D 91 ad (shC ad cy) K) := by
  refine gM.of (own := RX6) (lv := [(0, .ref (ad v0))]) (by decide) rfl hI (Nat.le_of_ble_eq_true rfl) rfl ?_
  intro p e s m below meth c ls H locs X G hl
  have hx := X.1
  have hb := X.2.1
  unfold f_X6_clear at h
  refine lv_aload_n hx hb dX6_clear_0 rfl (lv_at hl 0 rfl) ?_
  refine lv_iconst (v := (0)) hx hb dX6_clear_1 (by decide) ?_
  refine gp_Paper_law X G hv0 qw_11_2 dX6_clear_2 (fun M1 H locs e2 G => ?_)
  have h := h M1 e2
  refine lv_aload_n hx hb dX6_clear_5 rfl (lv_at hl 0 rfl) ?_
  refine lv_iconst (v := (0)) hx hb dX6_clear_6 (by decide) ?_
  refine gp_Paper_cells X G hv0 qw_11_3 dX6_clear_7 (fun M3 H locs e4 G => ?_)
  have h := h M3 e4
  refine lv_aload_n hx hb dX6_clear_10 rfl (lv_at hl 0 rfl) ?_
  refine lv_iconst (v := (0)) hx hb dX6_clear_11 (by decide) ?_
  refine gp_Paper_wallCount X G hv0 qw_11_4 dX6_clear_12 (fun M5 H locs e6 G => ?_)
  have h := h M5 e6
  refine lv_aload_n hx hb dX6_clear_15 rfl (lv_at hl 0 rfl) ?_
  refine lv_iconst (v := (0)) hx hb dX6_clear_16 (by decide) ?_
  refine gp_Paper_folkCount X G hv0 qw_11_5 dX6_clear_17 (fun M7 H locs e8 G => ?_)
  have h := h M7 e8
  refine lv_aload_n hx hb dX6_clear_20 rfl (lv_at hl 0 rfl) ?_
  refine lv_iconst (v := (0)) hx hb dX6_clear_21 (by decide) ?_
  refine gp_Paper_rising X G hv0 qw_11_6 dX6_clear_22 (fun M9 H locs e10 G => ?_)
  have h := h M9 e10
  refine lv_aload_n hx hb dX6_clear_25 rfl (lv_at hl 0 rfl) ?_
  refine lv_iconst (v := (0)) hx hb dX6_clear_26 (by decide) ?_
  refine gp_Paper_faded X G hv0 qw_11_7 dX6_clear_27 (fun M11 H locs e12 G => ?_)
  have h := h M11 e12
  refine lv_aload_n hx hb dX6_clear_30 rfl (lv_at hl 0 rfl) ?_
  refine lv_iconst (v := (0)) hx hb dX6_clear_31 (by decide) ?_
  refine gp_Paper_day X G hv0 qw_11_8 dX6_clear_32 (fun M13 H locs e14 G => ?_)
  have h := h M13 e14
  exact gq_vret X G h dX6_clear_35
def f_X9_isFigure (v1 : Int32) (M : Mm) (K : Int32 → Mm → Prop) : Prop := ((((M 24 1 : Int32) ≤ v1 : Prop) → K 0 M) ∧ (¬ ((M 24 1 : Int32) ≤ v1 : Prop) → (vp_in (v1) 90 ∧ ((((M 25 (v1 : Int32).toNatClampNeg : Int32) < 48 : Prop) → K 0 M) ∧ (¬ ((M 25 (v1 : Int32).toNatClampNeg : Int32) < 48 : Prop) → ((((57 : Int32) < M 25 (v1 : Int32).toNatClampNeg : Prop) → K 0 M) ∧ (¬ ((57 : Int32) < M 25 (v1 : Int32).toNatClampNeg : Prop) → K 1 M)))))))
set_option maxHeartbeats 4000000 in
set_option maxRecDepth 100000 in
theorem m_X9_isFigure (hI : gI 91 ad) {v1 : Int32} {M : Mm} {K : Int32 → Mm → Prop} (h : f_X9_isFigure v1 M K) : gM l D cy 91 ad (shC ad cy) yX9_isFigure cX9_isFigure 2 (some .boolean) 0 0 [.ref (ad 24), .int (v1)] M (gQi D 91 ad (shC ad cy) K) := by
  refine gM.of (own := RX9) (lv := [(0, .ref (ad 24)), (1, .int (v1))]) (by decide) rfl hI (Nat.le_of_ble_eq_true rfl) rfl ?_
  intro p e s m below meth c ls H locs X G hl
  have hx := X.1
  have hb := X.2.1
  unfold f_X9_isFigure at h
  refine lv_iload_n hx hb dX9_isFigure_0 rfl (lv_at hl 1 rfl) ?_
  refine lv_aload_n hx hb dX9_isFigure_1 rfl (lv_at hl 0 rfl) ?_
  refine gf_Tape_length X G qw_10_5 dX9_isFigure_2 ?_
  refine lv_icmp_ge (tgt := 34) hx hb dX9_isFigure_5 (by decide) (fun c1 => ?_) (fun c1 => ?_)
  · have h := h.1 c1
    refine lv_iconst (v := (0)) hx hb dX9_isFigure_34 (by decide) ?_
    exact gq_zret X G (Or.inl rfl) h dX9_isFigure_35
  have h := h.2 c1
  refine lv_aload_n hx hb dX9_isFigure_8 rfl (lv_at hl 0 rfl) ?_
  refine gf_Tape_bytes X G qw_4_4 dX9_isFigure_9 ?_
  refine lv_iload_n hx hb dX9_isFigure_12 rfl (lv_at hl 1 rfl) ?_
  obtain ⟨q2, h⟩ := h
  refine gq_iald X G ar_25 q2 dX9_isFigure_13 ?_
  refine lv_bipush (v := (48)) hx hb dX9_isFigure_14 (by decide) ?_
  refine lv_icmp_lt (tgt := 34) hx hb dX9_isFigure_16 (by decide) (fun c3 => ?_) (fun c3 => ?_)
  · have h := h.1 c3
    refine lv_iconst (v := (0)) hx hb dX9_isFigure_34 (by decide) ?_
    exact gq_zret X G (Or.inl rfl) h dX9_isFigure_35
  have h := h.2 c3
  refine lv_aload_n hx hb dX9_isFigure_19 rfl (lv_at hl 0 rfl) ?_
  refine gf_Tape_bytes X G qw_4_4 dX9_isFigure_20 ?_
  refine lv_iload_n hx hb dX9_isFigure_23 rfl (lv_at hl 1 rfl) ?_
  refine gq_iald X G ar_25 q2 dX9_isFigure_24 ?_
  refine lv_bipush (v := (57)) hx hb dX9_isFigure_25 (by decide) ?_
  refine lv_icmp_gt (tgt := 34) hx hb dX9_isFigure_27 (by decide) (fun c4 => ?_) (fun c4 => ?_)
  · have h := h.1 c4
    refine lv_iconst (v := (0)) hx hb dX9_isFigure_34 (by decide) ?_
    exact gq_zret X G (Or.inl rfl) h dX9_isFigure_35
  have h := h.2 c4
  refine lv_iconst (v := (1)) hx hb dX9_isFigure_30 (by decide) ?_
  refine lv_goto (tgt := 35) hx hb dX9_isFigure_31 (by decide) ?_
  exact gq_zret X G (Or.inr rfl) h dX9_isFigure_35
def f_X9_lookAtNumber  (M : Mm) (K : Mm → Prop) : Prop := (vp_in (M 24 2) 90 ∧ (∀ M2 : Mm, M2 = gU M 24 5 ((M 25 (M 24 2 : Int32).toNatClampNeg) - 48) → (∀ M4 : Mm, M4 = gU M2 24 3 (-2) → (f_X9_isFigure ((M4 24 2) + 1) M4 (fun r7 M6 => ((((r7 : Int32) = 0 : Prop) → K M6) ∧ (¬ ((r7 : Int32) = 0 : Prop) → (vp_in ((M6 24 2) + 1) 90 ∧ (∀ M10 : Mm, M10 = gU M6 24 5 ((((M6 24 5) * 10) + (M6 25 ((M6 24 2) + 1 : Int32).toNatClampNeg)) - 48) → (∀ M12 : Mm, M12 = gU M10 24 4 (2) → (f_X9_isFigure ((M12 24 2) + 2) M12 (fun r15 M14 => ((((r15 : Int32) = 0 : Prop) → K M14) ∧ (¬ ((r15 : Int32) = 0 : Prop) → (∀ M17 : Mm, M17 = gU M14 24 3 (-3) → K M17)))))))))))))))
set_option maxHeartbeats 4000000 in
set_option maxRecDepth 100000 in
theorem m_X9_lookAtNumber (hI : gI 91 ad)  {M : Mm} {K : Mm → Prop} (h : f_X9_lookAtNumber  M K) : gM l D cy 91 ad (shC ad cy) yX9_lookAtNumber cX9_lookAtNumber 1 none 1 21 [.ref (ad 24)] M (gQv D 91 ad (shC ad cy) K) := by
  refine gM.of (own := RX9) (lv := [(0, .ref (ad 24))]) (by decide) rfl hI (Nat.le_of_ble_eq_true rfl) rfl ?_
  intro p e s m below meth c ls H locs X G hl
  have hx := X.1
  have hb := X.2.1
  unfold f_X9_lookAtNumber at h
  refine lv_aload_n hx hb dX9_lookAtNumber_0 rfl (lv_at hl 0 rfl) ?_
  refine lv_aload_n hx hb dX9_lookAtNumber_1 rfl (lv_at hl 0 rfl) ?_
  refine gf_Tape_bytes X G qw_4_4 dX9_lookAtNumber_2 ?_
  refine lv_aload_n hx hb dX9_lookAtNumber_5 rfl (lv_at hl 0 rfl) ?_
  refine gf_Tape_at X G qw_10_21 dX9_lookAtNumber_6 ?_
  obtain ⟨q1, h⟩ := h
  refine gq_iald X G ar_25 q1 dX9_lookAtNumber_9 ?_
  refine lv_bipush (v := (48)) hx hb dX9_lookAtNumber_10 (by decide) ?_
  refine lv_isub hx hb dX9_lookAtNumber_12 ?_
  refine gp_Tape_value X G qw_11_22 dX9_lookAtNumber_13 (fun M2 H locs e3 G => ?_)
  have h := h M2 e3
  refine lv_aload_n hx hb dX9_lookAtNumber_16 rfl (lv_at hl 0 rfl) ?_
  refine lv_bipush (v := (-2)) hx hb dX9_lookAtNumber_17 (by decide) ?_
  refine gp_Tape_token X G qw_11_13 dX9_lookAtNumber_19 (fun M4 H locs e5 G => ?_)
  have h := h M4 e5
  refine lv_aload_n hx hb dX9_lookAtNumber_22 rfl (lv_at hl 0 rfl) ?_
  refine lv_aload_n hx hb dX9_lookAtNumber_23 rfl (lv_at hl 0 rfl) ?_
  refine gf_Tape_at X G qw_10_21 dX9_lookAtNumber_24 ?_
  refine lv_iconst (v := (1)) hx hb dX9_lookAtNumber_27 (by decide) ?_
  refine lv_iadd hx hb dX9_lookAtNumber_28 ?_
  refine gq_calli G (gc_V (C := RX9) (rest := []) X hl.1 G (m_X9_isFigure hI  h) cw_X9_isFigure qw_11_14 qw_11_15 qw_11_16 ob_Tape rfl rfl rfl rfl (Nat.le_of_ble_eq_true rfl) ⟨Nat.le_of_ble_eq_true rfl, Nat.le_of_ble_eq_true rfl⟩ ⟨Nat.le_refl _, Nat.le_refl _⟩ dX9_lookAtNumber_29) (fun r7 M6 H locs G h => ?_)
  refine lv_if_ne (tgt := 36) hx hb dX9_lookAtNumber_32 (by decide) (fun c8 => ?_) (fun c8 => ?_)
  · have h := h.2 c8
    refine lv_aload_n hx hb dX9_lookAtNumber_36 rfl (lv_at hl 0 rfl) ?_
    refine lv_aload_n hx hb dX9_lookAtNumber_37 rfl (lv_at hl 0 rfl) ?_
    refine gf_Tape_value X G qw_11_22 dX9_lookAtNumber_38 ?_
    refine lv_bipush (v := (10)) hx hb dX9_lookAtNumber_41 (by decide) ?_
    refine lv_imul hx hb dX9_lookAtNumber_43 ?_
    refine lv_aload_n hx hb dX9_lookAtNumber_44 rfl (lv_at hl 0 rfl) ?_
    refine gf_Tape_bytes X G qw_4_4 dX9_lookAtNumber_45 ?_
    refine lv_aload_n hx hb dX9_lookAtNumber_48 rfl (lv_at hl 0 rfl) ?_
    refine gf_Tape_at X G qw_10_21 dX9_lookAtNumber_49 ?_
    refine lv_iconst (v := (1)) hx hb dX9_lookAtNumber_52 (by decide) ?_
    refine lv_iadd hx hb dX9_lookAtNumber_53 ?_
    obtain ⟨q9, h⟩ := h
    refine gq_iald X G ar_25 q9 dX9_lookAtNumber_54 ?_
    refine lv_iadd hx hb dX9_lookAtNumber_55 ?_
    refine lv_bipush (v := (48)) hx hb dX9_lookAtNumber_56 (by decide) ?_
    refine lv_isub hx hb dX9_lookAtNumber_58 ?_
    refine gp_Tape_value X G qw_11_22 dX9_lookAtNumber_59 (fun M10 H locs e11 G => ?_)
    have h := h M10 e11
    refine lv_aload_n hx hb dX9_lookAtNumber_62 rfl (lv_at hl 0 rfl) ?_
    refine lv_iconst (v := (2)) hx hb dX9_lookAtNumber_63 (by decide) ?_
    refine gp_Tape_width X G qw_10_22 dX9_lookAtNumber_64 (fun M12 H locs e13 G => ?_)
    have h := h M12 e13
    refine lv_aload_n hx hb dX9_lookAtNumber_67 rfl (lv_at hl 0 rfl) ?_
    refine lv_aload_n hx hb dX9_lookAtNumber_68 rfl (lv_at hl 0 rfl) ?_
    refine gf_Tape_at X G qw_10_21 dX9_lookAtNumber_69 ?_
    refine lv_iconst (v := (2)) hx hb dX9_lookAtNumber_72 (by decide) ?_
    refine lv_iadd hx hb dX9_lookAtNumber_73 ?_
    refine gq_calli G (gc_V (C := RX9) (rest := []) X hl.1 G (m_X9_isFigure hI  h) cw_X9_isFigure qw_11_14 qw_11_15 qw_11_16 ob_Tape rfl rfl rfl rfl (Nat.le_of_ble_eq_true rfl) ⟨Nat.le_of_ble_eq_true rfl, Nat.le_of_ble_eq_true rfl⟩ ⟨Nat.le_refl _, Nat.le_refl _⟩ dX9_lookAtNumber_74) (fun r15 M14 H locs G h => ?_)
    refine lv_if_eq (tgt := 86) hx hb dX9_lookAtNumber_77 (by decide) (fun c16 => ?_) (fun c16 => ?_)
    · have h := h.1 c16
      exact gq_vret X G h dX9_lookAtNumber_86
    have h := h.2 c16
    refine lv_aload_n hx hb dX9_lookAtNumber_80 rfl (lv_at hl 0 rfl) ?_
    refine lv_bipush (v := (-3)) hx hb dX9_lookAtNumber_81 (by decide) ?_
    refine gp_Tape_token X G qw_11_13 dX9_lookAtNumber_83 (fun M17 H locs e18 G => ?_)
    have h := h M17 e18
    exact gq_vret X G h dX9_lookAtNumber_86
  have h := h.1 c8
  exact gq_vret X G h dX9_lookAtNumber_35
def f_X9_step  (M : Mm) (K : Mm → Prop) : Prop := (∀ M1 : Mm, M1 = gU M 24 2 ((M 24 2) + (M 24 4)) → (∀ M3 : Mm, M3 = gU M1 24 4 (1) → ((((M3 24 2 : Int32) < M3 24 1 : Prop) → (f_X9_isFigure (M3 24 2) M3 (fun r7 M6 => ((((r7 : Int32) = 0 : Prop) → (vp_in (M6 24 2) 90 ∧ (∀ M10 : Mm, M10 = gU M6 24 3 (M6 25 (M6 24 2 : Int32).toNatClampNeg) → K M10))) ∧ (¬ ((r7 : Int32) = 0 : Prop) → (f_X9_lookAtNumber  M6 (fun M12 => K M12))))))) ∧ (¬ ((M3 24 2 : Int32) < M3 24 1 : Prop) → (∀ M13 : Mm, M13 = gU M3 24 3 (-1) → K M13)))))
set_option maxHeartbeats 4000000 in
set_option maxRecDepth 100000 in
theorem m_X9_step (hI : gI 91 ad)  {M : Mm} {K : Mm → Prop} (h : f_X9_step  M K) : gM l D cy 91 ad (shC ad cy) yX9_step cX9_step 1 none 2 41 [.ref (ad 24)] M (gQv D 91 ad (shC ad cy) K) := by
  refine gM.of (own := RX9) (lv := [(0, .ref (ad 24))]) (by decide) rfl hI (Nat.le_of_ble_eq_true rfl) rfl ?_
  intro p e s m below meth c ls H locs X G hl
  have hx := X.1
  have hb := X.2.1
  unfold f_X9_step at h
  refine lv_aload_n hx hb dX9_step_0 rfl (lv_at hl 0 rfl) ?_
  refine lv_dup hx hb dX9_step_1 rfl ?_
  refine gf_Tape_at X G qw_10_21 dX9_step_2 ?_
  refine lv_aload_n hx hb dX9_step_5 rfl (lv_at hl 0 rfl) ?_
  refine gf_Tape_width X G qw_10_22 dX9_step_6 ?_
  refine lv_iadd hx hb dX9_step_9 ?_
  refine gp_Tape_at X G qw_10_21 dX9_step_10 (fun M1 H locs e2 G => ?_)
  have h := h M1 e2
  refine lv_aload_n hx hb dX9_step_13 rfl (lv_at hl 0 rfl) ?_
  refine lv_iconst (v := (1)) hx hb dX9_step_14 (by decide) ?_
  refine gp_Tape_width X G qw_10_22 dX9_step_15 (fun M3 H locs e4 G => ?_)
  have h := h M3 e4
  refine lv_aload_n hx hb dX9_step_18 rfl (lv_at hl 0 rfl) ?_
  refine gf_Tape_at X G qw_10_21 dX9_step_19 ?_
  refine lv_aload_n hx hb dX9_step_22 rfl (lv_at hl 0 rfl) ?_
  refine gf_Tape_length X G qw_10_5 dX9_step_23 ?_
  refine lv_icmp_lt (tgt := 37) hx hb dX9_step_26 (by decide) (fun c5 => ?_) (fun c5 => ?_)
  · have h := h.1 c5
    refine lv_aload_n hx hb dX9_step_37 rfl (lv_at hl 0 rfl) ?_
    refine lv_aload_n hx hb dX9_step_38 rfl (lv_at hl 0 rfl) ?_
    refine gf_Tape_at X G qw_10_21 dX9_step_39 ?_
    refine gq_calli G (gc_V (C := RX9) (rest := []) X hl.1 G (m_X9_isFigure hI  h) cw_X9_isFigure qw_11_14 qw_11_15 qw_11_16 ob_Tape rfl rfl rfl rfl (Nat.le_of_ble_eq_true rfl) ⟨Nat.le_of_ble_eq_true rfl, Nat.le_of_ble_eq_true rfl⟩ ⟨Nat.le_refl _, Nat.le_refl _⟩ dX9_step_42) (fun r7 M6 H locs G h => ?_)
    refine lv_if_eq (tgt := 55) hx hb dX9_step_45 (by decide) (fun c8 => ?_) (fun c8 => ?_)
    · have h := h.1 c8
      refine lv_aload_n hx hb dX9_step_55 rfl (lv_at hl 0 rfl) ?_
      refine lv_aload_n hx hb dX9_step_56 rfl (lv_at hl 0 rfl) ?_
      refine gf_Tape_bytes X G qw_4_4 dX9_step_57 ?_
      refine lv_aload_n hx hb dX9_step_60 rfl (lv_at hl 0 rfl) ?_
      refine gf_Tape_at X G qw_10_21 dX9_step_61 ?_
      obtain ⟨q9, h⟩ := h
      refine gq_iald X G ar_25 q9 dX9_step_64 ?_
      refine gp_Tape_token X G qw_11_13 dX9_step_65 (fun M10 H locs e11 G => ?_)
      have h := h M10 e11
      exact gq_vret X G h dX9_step_68
    have h := h.2 c8
    refine lv_aload_n hx hb dX9_step_48 rfl (lv_at hl 0 rfl) ?_
    refine gq_callv G (gc_V (C := RX9) (rest := []) X hl.1 G (m_X9_lookAtNumber hI  h) cw_X9_lookAtNumber qw_11_18 qw_11_19 qw_11_20 ob_Tape rfl rfl rfl rfl (Nat.le_of_ble_eq_true rfl) ⟨Nat.le_of_ble_eq_true rfl, Nat.le_of_ble_eq_true rfl⟩ ⟨Nat.le_refl _, Nat.le_refl _⟩ dX9_step_49) (fun M12 H locs G h => ?_)
    refine lv_goto (tgt := 68) hx hb dX9_step_52 (by decide) ?_
    exact gq_vret X G h dX9_step_68
  have h := h.2 c5
  refine lv_aload_n hx hb dX9_step_29 rfl (lv_at hl 0 rfl) ?_
  refine lv_iconst (v := (-1)) hx hb dX9_step_30 (by decide) ?_
  refine gp_Tape_token X G qw_11_13 dX9_step_31 (fun M13 H locs e14 G => ?_)
  have h := h M13 e14
  refine lv_goto (tgt := 68) hx hb dX9_step_34 (by decide) ?_
  exact gq_vret X G h dX9_step_68
def f_X9_fail (v1 : Int32) (M : Mm) (K : Int32 → Mm → Prop) : Prop := (∀ M1 : Mm, M1 = gU M 24 6 (v1) → (∀ M3 : Mm, M3 = gU M1 24 7 (M1 24 2) → K 0 M3))
set_option maxHeartbeats 4000000 in
set_option maxRecDepth 100000 in
theorem m_X9_fail (hI : gI 91 ad) {v1 : Int32} {M : Mm} {K : Int32 → Mm → Prop} (h : f_X9_fail v1 M K) : gM l D cy 91 ad (shC ad cy) yX9_fail cX9_fail 2 (some .boolean) 0 0 [.ref (ad 24), .int (v1)] M (gQi D 91 ad (shC ad cy) K) := by
  refine gM.of (own := RX9) (lv := [(0, .ref (ad 24)), (1, .int (v1))]) (by decide) rfl hI (Nat.le_of_ble_eq_true rfl) rfl ?_
  intro p e s m below meth c ls H locs X G hl
  have hx := X.1
  have hb := X.2.1
  unfold f_X9_fail at h
  refine lv_aload_n hx hb dX9_fail_0 rfl (lv_at hl 0 rfl) ?_
  refine lv_iload_n hx hb dX9_fail_1 rfl (lv_at hl 1 rfl) ?_
  refine gp_Tape_faultNumber X G qw_12_11 dX9_fail_2 (fun M1 H locs e2 G => ?_)
  have h := h M1 e2
  refine lv_aload_n hx hb dX9_fail_5 rfl (lv_at hl 0 rfl) ?_
  refine lv_aload_n hx hb dX9_fail_6 rfl (lv_at hl 0 rfl) ?_
  refine gf_Tape_at X G qw_10_21 dX9_fail_7 ?_
  refine gp_Tape_faultPlace X G qw_12_12 dX9_fail_10 (fun M3 H locs e4 G => ?_)
  have h := h M3 e4
  refine lv_iconst (v := (0)) hx hb dX9_fail_13 (by decide) ?_
  exact gq_zret X G (Or.inl rfl) h dX9_fail_14
def f_X9_pass (v1 : Int32) (M : Mm) (K : Int32 → Mm → Prop) : Prop := ((((M 24 3 : Int32) = v1 : Prop) → (f_X9_step  M (fun M2 => K 1 M2))) ∧ (¬ ((M 24 3 : Int32) = v1 : Prop) → (f_X9_fail (1) M (fun r4 M3 => ((r4 = 0 ∨ r4 = 1) ∧ K (r4) M3)))))
set_option maxHeartbeats 4000000 in
set_option maxRecDepth 100000 in
theorem m_X9_pass (hI : gI 91 ad) {v1 : Int32} {M : Mm} {K : Int32 → Mm → Prop} (h : f_X9_pass v1 M K) : gM l D cy 91 ad (shC ad cy) yX9_pass cX9_pass 2 (some .boolean) 3 61 [.ref (ad 24), .int (v1)] M (gQi D 91 ad (shC ad cy) K) := by
  refine gM.of (own := RX9) (lv := [(0, .ref (ad 24)), (1, .int (v1))]) (by decide) rfl hI (Nat.le_of_ble_eq_true rfl) rfl ?_
  intro p e s m below meth c ls H locs X G hl
  have hx := X.1
  have hb := X.2.1
  unfold f_X9_pass at h
  refine lv_aload_n hx hb dX9_pass_0 rfl (lv_at hl 0 rfl) ?_
  refine gf_Tape_token X G qw_11_13 dX9_pass_1 ?_
  refine lv_iload_n hx hb dX9_pass_4 rfl (lv_at hl 1 rfl) ?_
  refine lv_icmp_eq (tgt := 14) hx hb dX9_pass_5 (by decide) (fun c1 => ?_) (fun c1 => ?_)
  · have h := h.1 c1
    refine lv_aload_n hx hb dX9_pass_14 rfl (lv_at hl 0 rfl) ?_
    refine gq_callv G (gc_V (C := RX9) (rest := []) X hl.1 G (m_X9_step hI  h) cw_X9_step qw_11_9 qw_11_10 qw_11_11 ob_Tape rfl rfl rfl rfl (Nat.le_of_ble_eq_true rfl) ⟨Nat.le_of_ble_eq_true rfl, Nat.le_of_ble_eq_true rfl⟩ ⟨Nat.le_refl _, Nat.le_refl _⟩ dX9_pass_15) (fun M2 H locs G h => ?_)
    refine lv_iconst (v := (1)) hx hb dX9_pass_18 (by decide) ?_
    exact gq_zret X G (Or.inr rfl) h dX9_pass_19
  have h := h.2 c1
  refine lv_aload_n hx hb dX9_pass_8 rfl (lv_at hl 0 rfl) ?_
  refine lv_iconst (v := (1)) hx hb dX9_pass_9 (by decide) ?_
  refine gq_calli G (gc_V (C := RX9) (rest := []) X hl.1 G (m_X9_fail hI  h) cw_X9_fail qw_12_7 qw_12_8 qw_12_9 ob_Tape rfl rfl rfl rfl (Nat.le_of_ble_eq_true rfl) ⟨Nat.le_of_ble_eq_true rfl, Nat.le_of_ble_eq_true rfl⟩ ⟨Nat.le_refl _, Nat.le_refl _⟩ dX9_pass_10) (fun r4 M3 H locs G h => ?_)
  exact gq_zret X G h.1 h.2 dX9_pass_13
def f_X9_passNumber_31 (K : Int32 → Mm → Prop) (M : Mm) : Prop := (f_X9_fail (2) M (fun r2 M1 => ((r2 = 0 ∨ r2 = 1) ∧ K (r2) M1)))
def f_X9_passNumber (v1 : Int32) (v2 : Int32) (M : Mm) (K : Int32 → Mm → Prop) : Prop := ((((M 24 3 : Int32) = -2 : Prop) → ((((M 24 5 : Int32) < v1 : Prop) → f_X9_passNumber_31 K M) ∧ (¬ ((M 24 5 : Int32) < v1 : Prop) → ((((M 24 5 : Int32) ≤ v2 : Prop) → (f_X9_step  M (fun M6 => K 1 M6))) ∧ (¬ ((M 24 5 : Int32) ≤ v2 : Prop) → f_X9_passNumber_31 K M))))) ∧ (¬ ((M 24 3 : Int32) = -2 : Prop) → (f_X9_fail (1) M (fun r8 M7 => ((r8 = 0 ∨ r8 = 1) ∧ K (r8) M7)))))
set_option maxHeartbeats 4000000 in
set_option maxRecDepth 100000 in
theorem m_X9_passNumber (hI : gI 91 ad) {v1 : Int32} {v2 : Int32} {M : Mm} {K : Int32 → Mm → Prop} (h : f_X9_passNumber v1 v2 M K) : gM l D cy 91 ad (shC ad cy) yX9_passNumber cX9_passNumber 3 (some .boolean) 3 61 [.ref (ad 24), .int (v1), .int (v2)] M (gQi D 91 ad (shC ad cy) K) := by
  refine gM.of (own := RX9) (lv := [(0, .ref (ad 24)), (1, .int (v1)), (2, .int (v2))]) (by decide) rfl hI (Nat.le_of_ble_eq_true rfl) rfl ?_
  intro p e s m below meth c ls H locs X G hl
  have hx := X.1
  have hb := X.2.1
  have hJ31 : ∀ (M : Mm) (H : Heap) (locs : List Loc) (ls : Array Slot), gS D s 91 ad (shC ad cy) H locs M → lv_has ls 3 [(0, .ref (ad 24))] → f_X9_passNumber_31 K M → gWk p l e 3 61 s m ([.ref (ad 24), .int (v1), .int (v2)] : List Value).toArray below meth c H locs (gQi D 91 ad (shC ad cy) K) 91 ad 31 ls [] := by
    intro M H locs ls G hl h
    unfold f_X9_passNumber_31 at h
    refine lv_aload_n hx hb dX9_passNumber_31 rfl (lv_at hl 0 rfl) ?_
    refine lv_iconst (v := (2)) hx hb dX9_passNumber_32 (by decide) ?_
    refine gq_calli G (gc_V (C := RX9) (rest := []) X hl.1 G (m_X9_fail hI  h) cw_X9_fail qw_12_7 qw_12_8 qw_12_9 ob_Tape rfl rfl rfl rfl (Nat.le_of_ble_eq_true rfl) ⟨Nat.le_of_ble_eq_true rfl, Nat.le_of_ble_eq_true rfl⟩ ⟨Nat.le_refl _, Nat.le_refl _⟩ dX9_passNumber_33) (fun r2 M1 H locs G h => ?_)
    exact gq_zret X G h.1 h.2 dX9_passNumber_36
  unfold f_X9_passNumber at h
  refine lv_aload_n hx hb dX9_passNumber_0 rfl (lv_at hl 0 rfl) ?_
  refine gf_Tape_token X G qw_11_13 dX9_passNumber_1 ?_
  refine lv_bipush (v := (-2)) hx hb dX9_passNumber_4 (by decide) ?_
  refine lv_icmp_eq (tgt := 15) hx hb dX9_passNumber_6 (by decide) (fun c3 => ?_) (fun c3 => ?_)
  · have h := h.1 c3
    refine lv_aload_n hx hb dX9_passNumber_15 rfl (lv_at hl 0 rfl) ?_
    refine gf_Tape_value X G qw_11_22 dX9_passNumber_16 ?_
    refine lv_iload_n hx hb dX9_passNumber_19 rfl (lv_at hl 1 rfl) ?_
    refine lv_icmp_lt (tgt := 31) hx hb dX9_passNumber_20 (by decide) (fun c4 => ?_) (fun c4 => ?_)
    · have h := h.1 c4
      exact hJ31   M H locs ls G  (lv_sub hl [0] rfl) h
    have h := h.2 c4
    refine lv_aload_n hx hb dX9_passNumber_23 rfl (lv_at hl 0 rfl) ?_
    refine gf_Tape_value X G qw_11_22 dX9_passNumber_24 ?_
    refine lv_iload_n hx hb dX9_passNumber_27 rfl (lv_at hl 2 rfl) ?_
    refine lv_icmp_le (tgt := 37) hx hb dX9_passNumber_28 (by decide) (fun c5 => ?_) (fun c5 => ?_)
    · have h := h.1 c5
      refine lv_aload_n hx hb dX9_passNumber_37 rfl (lv_at hl 0 rfl) ?_
      refine gq_callv G (gc_V (C := RX9) (rest := []) X hl.1 G (m_X9_step hI  h) cw_X9_step qw_11_9 qw_11_10 qw_11_11 ob_Tape rfl rfl rfl rfl (Nat.le_of_ble_eq_true rfl) ⟨Nat.le_of_ble_eq_true rfl, Nat.le_of_ble_eq_true rfl⟩ ⟨Nat.le_refl _, Nat.le_refl _⟩ dX9_passNumber_38) (fun M6 H locs G h => ?_)
      refine lv_iconst (v := (1)) hx hb dX9_passNumber_41 (by decide) ?_
      exact gq_zret X G (Or.inr rfl) h dX9_passNumber_42
    have h := h.2 c5
    exact hJ31   M H locs ls G  (lv_sub hl [0] rfl) h
  have h := h.2 c3
  refine lv_aload_n hx hb dX9_passNumber_9 rfl (lv_at hl 0 rfl) ?_
  refine lv_iconst (v := (1)) hx hb dX9_passNumber_10 (by decide) ?_
  refine gq_calli G (gc_V (C := RX9) (rest := []) X hl.1 G (m_X9_fail hI  h) cw_X9_fail qw_12_7 qw_12_8 qw_12_9 ob_Tape rfl rfl rfl rfl (Nat.le_of_ble_eq_true rfl) ⟨Nat.le_of_ble_eq_true rfl, Nat.le_of_ble_eq_true rfl⟩ ⟨Nat.le_refl _, Nat.le_refl _⟩ dX9_passNumber_11) (fun r8 M7 H locs G h => ?_)
  exact gq_zret X G h.1 h.2 dX9_passNumber_14
def f_X9_readLaw (v1 : Nat) (M : Mm) (K : Int32 → Mm → Prop) : Prop := (f_X9_pass (113) M (fun r2 M1 => ((((r2 : Int32) = 0 : Prop) → K 0 M1) ∧ (¬ ((r2 : Int32) = 0 : Prop) → (f_X9_passNumber (0) (24) M1 (fun r5 M4 => ((((r5 : Int32) = 0 : Prop) → K 0 M4) ∧ (¬ ((r5 : Int32) = 0 : Prop) → (∀ M7 : Mm, M7 = gU M4 v1 7 (M4 24 5) → (f_X9_pass (59) M7 (fun r10 M9 => ((r10 = 0 ∨ r10 = 1) ∧ K (r10) M9))))))))))))
set_option maxHeartbeats 4000000 in
set_option maxRecDepth 100000 in
theorem m_X9_readLaw (hI : gI 91 ad) {v1 : Nat} (hv1 : isPap v1) {M : Mm} {K : Int32 → Mm → Prop} (h : f_X9_readLaw v1 M K) : gM l D cy 91 ad (shC ad cy) yX9_readLaw cX9_readLaw 2 (some .boolean) 4 83 [.ref (ad 24), .ref (ad v1)] M (gQi D 91 ad (shC ad cy) K) := by
  refine gM.of (own := RX9) (lv := [(0, .ref (ad 24)), (1, .ref (ad v1))]) (by decide) rfl hI (Nat.le_of_ble_eq_true rfl) rfl ?_
  intro p e s m below meth c ls H locs X G hl
  have hx := X.1
  have hb := X.2.1
  unfold f_X9_readLaw at h
  refine lv_aload_n hx hb dX9_readLaw_0 rfl (lv_at hl 0 rfl) ?_
  refine lv_bipush (v := (113)) hx hb dX9_readLaw_1 (by decide) ?_
  refine gq_calli G (gc_V (C := RX9) (rest := []) X hl.1 G (m_X9_pass hI  h) cw_X9_pass qw_12_3 qw_12_4 qw_12_5 ob_Tape rfl rfl rfl rfl (Nat.le_of_ble_eq_true rfl) ⟨Nat.le_of_ble_eq_true rfl, Nat.le_of_ble_eq_true rfl⟩ ⟨Nat.le_refl _, Nat.le_refl _⟩ dX9_readLaw_3) (fun r2 M1 H locs G h => ?_)
  refine lv_if_eq (tgt := 19) hx hb dX9_readLaw_6 (by decide) (fun c3 => ?_) (fun c3 => ?_)
  · have h := h.1 c3
    refine lv_iconst (v := (0)) hx hb dX9_readLaw_19 (by decide) ?_
    exact gq_zret X G (Or.inl rfl) h dX9_readLaw_20
  have h := h.2 c3
  refine lv_aload_n hx hb dX9_readLaw_9 rfl (lv_at hl 0 rfl) ?_
  refine lv_iconst (v := (0)) hx hb dX9_readLaw_10 (by decide) ?_
  refine lv_bipush (v := (24)) hx hb dX9_readLaw_11 (by decide) ?_
  refine gq_calli G (gc_V (C := RX9) (rest := []) X hl.1 G (m_X9_passNumber hI  h) cw_X9_passNumber qw_12_13 qw_12_14 qw_12_15 ob_Tape rfl rfl rfl rfl (Nat.le_of_ble_eq_true rfl) ⟨Nat.le_of_ble_eq_true rfl, Nat.le_of_ble_eq_true rfl⟩ ⟨Nat.le_refl _, Nat.le_refl _⟩ dX9_readLaw_13) (fun r5 M4 H locs G h => ?_)
  refine lv_if_ne (tgt := 21) hx hb dX9_readLaw_16 (by decide) (fun c6 => ?_) (fun c6 => ?_)
  · have h := h.2 c6
    refine lv_aload_n hx hb dX9_readLaw_21 rfl (lv_at hl 1 rfl) ?_
    refine lv_aload_n hx hb dX9_readLaw_22 rfl (lv_at hl 0 rfl) ?_
    refine gf_Tape_value X G qw_11_22 dX9_readLaw_23 ?_
    refine gpN_Paper_law X G hv1 nf_21 dX9_readLaw_26 (fun M7 H locs e8 G => ?_)
    have h := h M7 e8
    refine lv_aload_n hx hb dX9_readLaw_29 rfl (lv_at hl 0 rfl) ?_
    refine lv_bipush (v := (59)) hx hb dX9_readLaw_30 (by decide) ?_
    refine gq_calli G (gc_V (C := RX9) (rest := []) X hl.1 G (m_X9_pass hI  h) cw_X9_pass qw_12_3 qw_12_4 qw_12_5 ob_Tape rfl rfl rfl rfl (Nat.le_of_ble_eq_true rfl) ⟨Nat.le_of_ble_eq_true rfl, Nat.le_of_ble_eq_true rfl⟩ ⟨Nat.le_refl _, Nat.le_refl _⟩ dX9_readLaw_32) (fun r10 M9 H locs G h => ?_)
    exact gq_zret X G h.1 h.2 dX9_readLaw_35
  have h := h.1 c6
  refine lv_iconst (v := (0)) hx hb dX9_readLaw_19 (by decide) ?_
  exact gq_zret X G (Or.inl rfl) h dX9_readLaw_20
def l_X6_seeWhatRises_7 (K : Mm → Prop) (v0 : Nat) : Nat → Int32 → Mm → Prop
  | 0, _, _ => False
  | n + 1, v1, M => ((((M v0 8 : Int32) ≤ v1 : Prop) → K M) ∧ (¬ ((M v0 8 : Int32) ≤ v1 : Prop) → (vp_in (v1) 24 ∧ (vp_in (v1 - 1) 24 ∧ ((((M (v0 + 1) (v1 : Int32).toNatClampNeg : Int32) ≤ M (v0 + 1) (v1 - 1 : Int32).toNatClampNeg : Prop) → (l_X6_seeWhatRises_7 K v0 n) (v1 + 1) M) ∧ (¬ ((M (v0 + 1) (v1 : Int32).toNatClampNeg : Int32) ≤ M (v0 + 1) (v1 - 1 : Int32).toNatClampNeg : Prop) → (∀ M5 : Mm, M5 = gU M v0 11 ((M v0 11) ||| (1 <<< (v1 &&& 31))) → (l_X6_seeWhatRises_7 K v0 n) (v1 + 1) M5)))))))
def f_X6_seeWhatRises (v0 : Nat) (M : Mm) (K : Mm → Prop) : Prop := (∀ M7 : Mm, M7 = gU M v0 11 (1) → ∃ z, l_X6_seeWhatRises_7 K (v0) z (1) M7)
set_option maxHeartbeats 4000000 in
set_option maxRecDepth 100000 in
theorem m_X6_seeWhatRises (hI : gI 91 ad) {v0 : Nat} (hv0 : isPap v0) {M : Mm} {K : Mm → Prop} (h : f_X6_seeWhatRises v0 M K) : gM l D cy 91 ad (shC ad cy) yX6_seeWhatRises cX6_seeWhatRises 2 none 0 0 [.ref (ad v0)] M (gQv D 91 ad (shC ad cy) K) := by
  refine gM.of (own := RX6) (lv := [(0, .ref (ad v0))]) (by decide) rfl hI (Nat.le_of_ble_eq_true rfl) rfl ?_
  intro p e s m below meth c ls H locs X G hl
  have hx := X.1
  have hb := X.2.1
  have hL7 : ∀ (n : Nat) (v1 : Int32) (M : Mm) (H : Heap) (locs : List Loc) (ls : Array Slot), gS D s 91 ad (shC ad cy) H locs M → lv_has ls 2 [(0, .ref (ad v0)), (1, .int (v1))] → l_X6_seeWhatRises_7 K v0 n v1 M → gWk p l e 0 0 s m ([.ref (ad v0)] : List Value).toArray below meth c H locs (gQv D 91 ad (shC ad cy) K) 91 ad 7 ls [] := by
    intro n7
    induction n7 with
    | zero =>
      intro v1 M H locs ls G hl h
      exact False.elim h
    | succ n7 ih7 =>
      intro v1 M H locs ls G hl h
      rw [l_X6_seeWhatRises_7] at h
      refine lv_iload_n hx hb dX6_seeWhatRises_7 rfl (lv_at hl 1 rfl) ?_
      refine lv_aload_n hx hb dX6_seeWhatRises_8 rfl (lv_at hl 0 rfl) ?_
      refine gf_Paper_cells X G hv0 qw_11_3 dX6_seeWhatRises_9 ?_
      refine lv_icmp_ge (tgt := 50) hx hb dX6_seeWhatRises_12 (by decide) (fun c1 => ?_) (fun c1 => ?_)
      · have h := h.1 c1
        exact gq_vret X G h dX6_seeWhatRises_50
      have h := h.2 c1
      refine lv_aload_n hx hb dX6_seeWhatRises_15 rfl (lv_at hl 0 rfl) ?_
      refine gf_Paper_figures X G hv0 qw_4_8 dX6_seeWhatRises_16 ?_
      refine lv_iload_n hx hb dX6_seeWhatRises_19 rfl (lv_at hl 1 rfl) ?_
      obtain ⟨q2, h⟩ := h
      refine gq_iald X G (ar_Paper_figures hv0) q2 dX6_seeWhatRises_20 ?_
      refine lv_aload_n hx hb dX6_seeWhatRises_21 rfl (lv_at hl 0 rfl) ?_
      refine gf_Paper_figures X G hv0 qw_4_8 dX6_seeWhatRises_22 ?_
      refine lv_iload_n hx hb dX6_seeWhatRises_25 rfl (lv_at hl 1 rfl) ?_
      refine lv_iconst (v := (1)) hx hb dX6_seeWhatRises_26 (by decide) ?_
      refine lv_isub hx hb dX6_seeWhatRises_27 ?_
      obtain ⟨q3, h⟩ := h
      refine gq_iald X G (ar_Paper_figures hv0) q3 dX6_seeWhatRises_28 ?_
      refine lv_icmp_le (tgt := 44) hx hb dX6_seeWhatRises_29 (by decide) (fun c4 => ?_) (fun c4 => ?_)
      · have h := h.1 c4
        refine lv_iinc (v := v1 + 1) (lv' := [(1, .int (v1 + 1)), (0, .ref (ad v0))]) hx hb dX6_seeWhatRises_44 hl (k := 1) rfl rfl (by decide) rfl (fun ls hl => ?_)
        refine lv_goto (tgt := 7) hx hb dX6_seeWhatRises_47 (by decide) ?_
        exact ih7 (v1 + 1) M H locs ls G  (lv_sub hl [1, 0] rfl) h
      have h := h.2 c4
      refine lv_aload_n hx hb dX6_seeWhatRises_32 rfl (lv_at hl 0 rfl) ?_
      refine lv_dup hx hb dX6_seeWhatRises_33 rfl ?_
      refine gf_Paper_rising X G hv0 qw_11_6 dX6_seeWhatRises_34 ?_
      refine lv_iconst (v := (1)) hx hb dX6_seeWhatRises_37 (by decide) ?_
      refine lv_iload_n hx hb dX6_seeWhatRises_38 rfl (lv_at hl 1 rfl) ?_
      refine lv_ishl hx hb dX6_seeWhatRises_39 ?_
      refine lv_ior hx hb dX6_seeWhatRises_40 ?_
      refine gp_Paper_rising X G hv0 qw_11_6 dX6_seeWhatRises_41 (fun M5 H locs e6 G => ?_)
      have h := h M5 e6
      refine lv_iinc (v := v1 + 1) (lv' := [(1, .int (v1 + 1)), (0, .ref (ad v0))]) hx hb dX6_seeWhatRises_44 hl (k := 1) rfl rfl (by decide) rfl (fun ls hl => ?_)
      refine lv_goto (tgt := 7) hx hb dX6_seeWhatRises_47 (by decide) ?_
      exact ih7 (v1 + 1) M5 H locs ls G  (lv_sub hl [1, 0] rfl) h
  unfold f_X6_seeWhatRises at h
  refine lv_aload_n hx hb dX6_seeWhatRises_0 rfl (lv_at hl 0 rfl) ?_
  refine lv_iconst (v := (1)) hx hb dX6_seeWhatRises_1 (by decide) ?_
  refine gp_Paper_rising X G hv0 qw_11_6 dX6_seeWhatRises_2 (fun M7 H locs e8 G => ?_)
  have h := h M7 e8
  refine lv_iconst (v := (1)) hx hb dX6_seeWhatRises_5 (by decide) ?_
  refine lv_istore_n (lv' := [(1, .int (1)), (0, .ref (ad v0))]) hx hb dX6_seeWhatRises_6 rfl hl (by decide) rfl (fun ls hl => ?_)
  obtain ⟨n9, h⟩ := h
  exact hL7   n9 (1) M7 H locs ls G  (lv_sub hl [1, 0] rfl) h
def f_X9_readPicture_88 (K : Int32 → Mm → Prop) (v1 : Nat) (M : Mm) : Prop := ((((6 : Int32) ≤ M v1 8 : Prop) → (f_X9_pass (59) M (fun r3 M2 => ((r3 = 0 ∨ r3 = 1) ∧ K (r3) M2)))) ∧ (¬ ((6 : Int32) ≤ M v1 8 : Prop) → (f_X9_fail (1) M (fun r5 M4 => ((r5 = 0 ∨ r5 = 1) ∧ K (r5) M4)))))
def l_X9_readPicture_13 (K : Int32 → Mm → Prop) (v1 : Nat) : Nat → Int32 → Mm → Prop
  | 0, _, _ => False
  | n + 1, v2, M => ((((90 : Int32) ≤ v2 : Prop) → f_X9_readPicture_88 K (v1) M) ∧ (¬ ((90 : Int32) ≤ v2 : Prop) → ((((M 24 3 : Int32) < 97 : Prop) → f_X9_readPicture_88 K (v1) M) ∧ (¬ ((M 24 3 : Int32) < 97 : Prop) → ((((106 : Int32) < M 24 3 : Prop) → f_X9_readPicture_88 K (v1) M) ∧ (¬ ((106 : Int32) < M 24 3 : Prop) → ((((M v1 8 : Int32) < 24 : Prop) → (vp_in (M v1 8) 24 ∧ (∀ M11 : Mm, M11 = gU M (v1 + 1) (M v1 8 : Int32).toNatClampNeg ((M 24 3) - 97) → (∀ M13 : Mm, M13 = gU M11 v1 8 ((M11 v1 8) + 1) → (f_X9_step  M13 (fun M15 => (l_X9_readPicture_13 K v1 n) (v2 + 1) M15)))))) ∧ (¬ ((M v1 8 : Int32) < 24 : Prop) → (f_X9_fail (3) M (fun r17 M16 => ((r17 = 0 ∨ r17 = 1) ∧ K (r17) M16)))))))))))
def f_X9_readPicture (v1 : Nat) (M : Mm) (K : Int32 → Mm → Prop) : Prop := (f_X9_pass (112) M (fun r19 M18 => ((((r19 : Int32) = 0 : Prop) → K 0 M18) ∧ (¬ ((r19 : Int32) = 0 : Prop) → ∃ z, l_X9_readPicture_13 K (v1) z (0) M18))))
set_option maxHeartbeats 4000000 in
set_option maxRecDepth 100000 in
theorem m_X9_readPicture (hI : gI 91 ad) {v1 : Nat} (hv1 : isPap v1) {M : Mm} {K : Int32 → Mm → Prop} (h : f_X9_readPicture v1 M K) : gM l D cy 91 ad (shC ad cy) yX9_readPicture cX9_readPicture 3 (some .boolean) 4 82 [.ref (ad 24), .ref (ad v1)] M (gQi D 91 ad (shC ad cy) K) := by
  refine gM.of (own := RX9) (lv := [(0, .ref (ad 24)), (1, .ref (ad v1))]) (by decide) rfl hI (Nat.le_of_ble_eq_true rfl) rfl ?_
  intro p e s m below meth c ls H locs X G hl
  have hx := X.1
  have hb := X.2.1
  have hJ88 : ∀ (M : Mm) (H : Heap) (locs : List Loc) (ls : Array Slot), gS D s 91 ad (shC ad cy) H locs M → lv_has ls 3 [(0, .ref (ad 24)), (1, .ref (ad v1))] → f_X9_readPicture_88 K v1 M → gWk p l e 4 82 s m ([.ref (ad 24), .ref (ad v1)] : List Value).toArray below meth c H locs (gQi D 91 ad (shC ad cy) K) 91 ad 88 ls [] := by
    intro M H locs ls G hl h
    unfold f_X9_readPicture_88 at h
    refine lv_aload_n hx hb dX9_readPicture_88 rfl (lv_at hl 1 rfl) ?_
    refine gfN_Paper_cells X G hv1 nf_24 dX9_readPicture_89 ?_
    refine lv_bipush (v := (6)) hx hb dX9_readPicture_92 (by decide) ?_
    refine lv_icmp_ge (tgt := 103) hx hb dX9_readPicture_94 (by decide) (fun c1 => ?_) (fun c1 => ?_)
    · have h := h.1 c1
      refine lv_aload_n hx hb dX9_readPicture_103 rfl (lv_at hl 0 rfl) ?_
      refine lv_bipush (v := (59)) hx hb dX9_readPicture_104 (by decide) ?_
      refine gq_calli G (gc_V (C := RX9) (rest := []) X hl.1 G (m_X9_pass hI  h) cw_X9_pass qw_12_3 qw_12_4 qw_12_5 ob_Tape rfl rfl rfl rfl (Nat.le_of_ble_eq_true rfl) ⟨Nat.le_of_ble_eq_true rfl, Nat.le_of_ble_eq_true rfl⟩ ⟨Nat.le_refl _, Nat.le_refl _⟩ dX9_readPicture_106) (fun r3 M2 H locs G h => ?_)
      exact gq_zret X G h.1 h.2 dX9_readPicture_109
    have h := h.2 c1
    refine lv_aload_n hx hb dX9_readPicture_97 rfl (lv_at hl 0 rfl) ?_
    refine lv_iconst (v := (1)) hx hb dX9_readPicture_98 (by decide) ?_
    refine gq_calli G (gc_V (C := RX9) (rest := []) X hl.1 G (m_X9_fail hI  h) cw_X9_fail qw_12_7 qw_12_8 qw_12_9 ob_Tape rfl rfl rfl rfl (Nat.le_of_ble_eq_true rfl) ⟨Nat.le_of_ble_eq_true rfl, Nat.le_of_ble_eq_true rfl⟩ ⟨Nat.le_refl _, Nat.le_refl _⟩ dX9_readPicture_99) (fun r5 M4 H locs G h => ?_)
    exact gq_zret X G h.1 h.2 dX9_readPicture_102
  have hL13 : ∀ (n : Nat) (v2 : Int32) (M : Mm) (H : Heap) (locs : List Loc) (ls : Array Slot), gS D s 91 ad (shC ad cy) H locs M → lv_has ls 3 [(0, .ref (ad 24)), (1, .ref (ad v1)), (2, .int (v2))] → l_X9_readPicture_13 K v1 n v2 M → gWk p l e 4 82 s m ([.ref (ad 24), .ref (ad v1)] : List Value).toArray below meth c H locs (gQi D 91 ad (shC ad cy) K) 91 ad 13 ls [] := by
    intro n13
    induction n13 with
    | zero =>
      intro v2 M H locs ls G hl h
      exact False.elim h
    | succ n13 ih13 =>
      intro v2 M H locs ls G hl h
      rw [l_X9_readPicture_13] at h
      refine lv_iload_n hx hb dX9_readPicture_13 rfl (lv_at hl 2 rfl) ?_
      refine lv_bipush (v := (90)) hx hb dX9_readPicture_14 (by decide) ?_
      refine lv_icmp_ge (tgt := 88) hx hb dX9_readPicture_16 (by decide) (fun c6 => ?_) (fun c6 => ?_)
      · have h := h.1 c6
        exact hJ88   M H locs ls G  (lv_sub hl [0, 1] rfl) h
      have h := h.2 c6
      refine lv_aload_n hx hb dX9_readPicture_19 rfl (lv_at hl 0 rfl) ?_
      refine gf_Tape_token X G qw_11_13 dX9_readPicture_20 ?_
      refine lv_bipush (v := (97)) hx hb dX9_readPicture_23 (by decide) ?_
      refine lv_icmp_lt (tgt := 88) hx hb dX9_readPicture_25 (by decide) (fun c7 => ?_) (fun c7 => ?_)
      · have h := h.1 c7
        exact hJ88   M H locs ls G  (lv_sub hl [0, 1] rfl) h
      have h := h.2 c7
      refine lv_aload_n hx hb dX9_readPicture_28 rfl (lv_at hl 0 rfl) ?_
      refine gf_Tape_token X G qw_11_13 dX9_readPicture_29 ?_
      refine lv_bipush (v := (106)) hx hb dX9_readPicture_32 (by decide) ?_
      refine lv_icmp_gt (tgt := 88) hx hb dX9_readPicture_34 (by decide) (fun c8 => ?_) (fun c8 => ?_)
      · have h := h.1 c8
        exact hJ88   M H locs ls G  (lv_sub hl [0, 1] rfl) h
      have h := h.2 c8
      refine lv_aload_n hx hb dX9_readPicture_37 rfl (lv_at hl 1 rfl) ?_
      refine gfN_Paper_cells X G hv1 nf_24 dX9_readPicture_38 ?_
      refine lv_bipush (v := (24)) hx hb dX9_readPicture_41 (by decide) ?_
      refine lv_icmp_lt (tgt := 52) hx hb dX9_readPicture_43 (by decide) (fun c9 => ?_) (fun c9 => ?_)
      · have h := h.1 c9
        refine lv_aload_n hx hb dX9_readPicture_52 rfl (lv_at hl 1 rfl) ?_
        refine gfN_Paper_figures X G hv1 nf_8 dX9_readPicture_53 ?_
        refine lv_aload_n hx hb dX9_readPicture_56 rfl (lv_at hl 1 rfl) ?_
        refine gfN_Paper_cells X G hv1 nf_24 dX9_readPicture_57 ?_
        refine lv_aload_n hx hb dX9_readPicture_60 rfl (lv_at hl 0 rfl) ?_
        refine gf_Tape_token X G qw_11_13 dX9_readPicture_61 ?_
        refine lv_bipush (v := (97)) hx hb dX9_readPicture_64 (by decide) ?_
        refine lv_isub hx hb dX9_readPicture_66 ?_
        obtain ⟨q10, h⟩ := h
        refine gq_iast X G (ar_Paper_figures hv1) q10 dX9_readPicture_67 (fun M11 H locs e12 G => ?_)
        have h := h M11 e12
        refine lv_aload_n hx hb dX9_readPicture_68 rfl (lv_at hl 1 rfl) ?_
        refine lv_dup hx hb dX9_readPicture_69 rfl ?_
        refine gfN_Paper_cells X G hv1 nf_24 dX9_readPicture_70 ?_
        refine lv_iconst (v := (1)) hx hb dX9_readPicture_73 (by decide) ?_
        refine lv_iadd hx hb dX9_readPicture_74 ?_
        refine gpN_Paper_cells X G hv1 nf_24 dX9_readPicture_75 (fun M13 H locs e14 G => ?_)
        have h := h M13 e14
        refine lv_aload_n hx hb dX9_readPicture_78 rfl (lv_at hl 0 rfl) ?_
        refine gq_callv G (gc_V (C := RX9) (rest := []) X hl.1 G (m_X9_step hI  h) cw_X9_step qw_11_9 qw_11_10 qw_11_11 ob_Tape rfl rfl rfl rfl (Nat.le_of_ble_eq_true rfl) ⟨Nat.le_of_ble_eq_true rfl, Nat.le_of_ble_eq_true rfl⟩ ⟨Nat.le_refl _, Nat.le_refl _⟩ dX9_readPicture_79) (fun M15 H locs G h => ?_)
        refine lv_iinc (v := v2 + 1) (lv' := [(2, .int (v2 + 1)), (0, .ref (ad 24)), (1, .ref (ad v1))]) hx hb dX9_readPicture_82 hl (k := 2) rfl rfl (by decide) rfl (fun ls hl => ?_)
        refine lv_goto (tgt := 13) hx hb dX9_readPicture_85 (by decide) ?_
        exact ih13 (v2 + 1) M15 H locs ls G  (lv_sub hl [1, 2, 0] rfl) h
      have h := h.2 c9
      refine lv_aload_n hx hb dX9_readPicture_46 rfl (lv_at hl 0 rfl) ?_
      refine lv_iconst (v := (3)) hx hb dX9_readPicture_47 (by decide) ?_
      refine gq_calli G (gc_V (C := RX9) (rest := []) X hl.1 G (m_X9_fail hI  h) cw_X9_fail qw_12_7 qw_12_8 qw_12_9 ob_Tape rfl rfl rfl rfl (Nat.le_of_ble_eq_true rfl) ⟨Nat.le_of_ble_eq_true rfl, Nat.le_of_ble_eq_true rfl⟩ ⟨Nat.le_refl _, Nat.le_refl _⟩ dX9_readPicture_48) (fun r17 M16 H locs G h => ?_)
      exact gq_zret X G h.1 h.2 dX9_readPicture_51
  unfold f_X9_readPicture at h
  refine lv_aload_n hx hb dX9_readPicture_0 rfl (lv_at hl 0 rfl) ?_
  refine lv_bipush (v := (112)) hx hb dX9_readPicture_1 (by decide) ?_
  refine gq_calli G (gc_V (C := RX9) (rest := []) X hl.1 G (m_X9_pass hI  h) cw_X9_pass qw_12_3 qw_12_4 qw_12_5 ob_Tape rfl rfl rfl rfl (Nat.le_of_ble_eq_true rfl) ⟨Nat.le_of_ble_eq_true rfl, Nat.le_of_ble_eq_true rfl⟩ ⟨Nat.le_refl _, Nat.le_refl _⟩ dX9_readPicture_3) (fun r19 M18 H locs G h => ?_)
  refine lv_if_ne (tgt := 11) hx hb dX9_readPicture_6 (by decide) (fun c20 => ?_) (fun c20 => ?_)
  · have h := h.2 c20
    refine lv_iconst (v := (0)) hx hb dX9_readPicture_11 (by decide) ?_
    refine lv_istore_n (lv' := [(2, .int (0)), (0, .ref (ad 24)), (1, .ref (ad v1))]) hx hb dX9_readPicture_12 rfl hl (by decide) rfl (fun ls hl => ?_)
    obtain ⟨n21, h⟩ := h
    exact hL13   n21 (0) M18 H locs ls G  (lv_sub hl [1, 2, 0] rfl) h
  have h := h.1 c20
  refine lv_iconst (v := (0)) hx hb dX9_readPicture_9 (by decide) ?_
  exact gq_zret X G (Or.inl rfl) h dX9_readPicture_10
def l_X9_readWalls_4 (K : Int32 → Mm → Prop) (v1 : Nat) : Nat → Int32 → Int32 → Mm → Prop
  | 0, _, _, _ => False
  | n + 1, v2, v3, M => ((((90 : Int32) ≤ v3 : Prop) → K 1 M) ∧ (¬ ((90 : Int32) ≤ v3 : Prop) → ((((M 24 3 : Int32) = 120 : Prop) → ((((M v1 9 : Int32) < 5 : Prop) → (f_X9_step  M (fun M4 => (f_X9_passNumber (v2) ((M4 v1 8) - 1) M4 (fun r6 M5 => ((((r6 : Int32) = 0 : Prop) → K 0 M5) ∧ (¬ ((r6 : Int32) = 0 : Prop) → (vp_in (M5 v1 9) 5 ∧ (∀ M9 : Mm, M9 = gU M5 (v1 + 2) (M5 v1 9 : Int32).toNatClampNeg (M5 24 5) → (∀ M11 : Mm, M11 = gU M9 v1 9 ((M9 v1 9) + 1) → (f_X9_pass (59) M11 (fun r14 M13 => ((((r14 : Int32) = 0 : Prop) → K 0 M13) ∧ (¬ ((r14 : Int32) = 0 : Prop) → (l_X9_readWalls_4 K v1 n) ((M11 24 5) + 1) (v3 + 1) M13)))))))))))))) ∧ (¬ ((M v1 9 : Int32) < 5 : Prop) → (f_X9_fail (3) M (fun r17 M16 => ((r17 = 0 ∨ r17 = 1) ∧ K (r17) M16)))))) ∧ (¬ ((M 24 3 : Int32) = 120 : Prop) → K 1 M))))
def f_X9_readWalls (v1 : Nat) (M : Mm) (K : Int32 → Mm → Prop) : Prop := ∃ z, l_X9_readWalls_4 K (v1) z (1) (0) M
set_option maxHeartbeats 4000000 in
set_option maxRecDepth 100000 in
theorem m_X9_readWalls (hI : gI 91 ad) {v1 : Nat} (hv1 : isPap v1) {M : Mm} {K : Int32 → Mm → Prop} (h : f_X9_readWalls v1 M K) : gM l D cy 91 ad (shC ad cy) yX9_readWalls cX9_readWalls 4 (some .boolean) 4 83 [.ref (ad 24), .ref (ad v1)] M (gQi D 91 ad (shC ad cy) K) := by
  refine gM.of (own := RX9) (lv := [(0, .ref (ad 24)), (1, .ref (ad v1))]) (by decide) rfl hI (Nat.le_of_ble_eq_true rfl) rfl ?_
  intro p e s m below meth c ls H locs X G hl
  have hx := X.1
  have hb := X.2.1
  have hL4 : ∀ (n : Nat) (v2 : Int32) (v3 : Int32) (M : Mm) (H : Heap) (locs : List Loc) (ls : Array Slot), gS D s 91 ad (shC ad cy) H locs M → lv_has ls 4 [(0, .ref (ad 24)), (1, .ref (ad v1)), (2, .int (v2)), (3, .int (v3))] → l_X9_readWalls_4 K v1 n v2 v3 M → gWk p l e 4 83 s m ([.ref (ad 24), .ref (ad v1)] : List Value).toArray below meth c H locs (gQi D 91 ad (shC ad cy) K) 91 ad 4 ls [] := by
    intro n4
    induction n4 with
    | zero =>
      intro v2 v3 M H locs ls G hl h
      exact False.elim h
    | succ n4 ih4 =>
      intro v2 v3 M H locs ls G hl h
      rw [l_X9_readWalls_4] at h
      refine lv_iload_n hx hb dX9_readWalls_4 rfl (lv_at hl 3 rfl) ?_
      refine lv_bipush (v := (90)) hx hb dX9_readWalls_5 (by decide) ?_
      refine lv_icmp_ge (tgt := 100) hx hb dX9_readWalls_7 (by decide) (fun c1 => ?_) (fun c1 => ?_)
      · have h := h.1 c1
        refine lv_iconst (v := (1)) hx hb dX9_readWalls_100 (by decide) ?_
        exact gq_zret X G (Or.inr rfl) h dX9_readWalls_101
      have h := h.2 c1
      refine lv_aload_n hx hb dX9_readWalls_10 rfl (lv_at hl 0 rfl) ?_
      refine gf_Tape_token X G qw_11_13 dX9_readWalls_11 ?_
      refine lv_bipush (v := (120)) hx hb dX9_readWalls_14 (by decide) ?_
      refine lv_icmp_ne (tgt := 100) hx hb dX9_readWalls_16 (by decide) (fun c2 => ?_) (fun c2 => ?_)
      · have h := h.2 c2
        refine lv_iconst (v := (1)) hx hb dX9_readWalls_100 (by decide) ?_
        exact gq_zret X G (Or.inr rfl) h dX9_readWalls_101
      have h := h.1 c2
      refine lv_aload_n hx hb dX9_readWalls_19 rfl (lv_at hl 1 rfl) ?_
      refine gfN_Paper_wallCount X G hv1 nf_28 dX9_readWalls_20 ?_
      refine lv_iconst (v := (5)) hx hb dX9_readWalls_23 (by decide) ?_
      refine lv_icmp_lt (tgt := 33) hx hb dX9_readWalls_24 (by decide) (fun c3 => ?_) (fun c3 => ?_)
      · have h := h.1 c3
        refine lv_aload_n hx hb dX9_readWalls_33 rfl (lv_at hl 0 rfl) ?_
        refine gq_callv G (gc_V (C := RX9) (rest := []) X hl.1 G (m_X9_step hI  h) cw_X9_step qw_11_9 qw_11_10 qw_11_11 ob_Tape rfl rfl rfl rfl (Nat.le_of_ble_eq_true rfl) ⟨Nat.le_of_ble_eq_true rfl, Nat.le_of_ble_eq_true rfl⟩ ⟨Nat.le_refl _, Nat.le_refl _⟩ dX9_readWalls_34) (fun M4 H locs G h => ?_)
        refine lv_aload_n hx hb dX9_readWalls_37 rfl (lv_at hl 0 rfl) ?_
        refine lv_iload_n hx hb dX9_readWalls_38 rfl (lv_at hl 2 rfl) ?_
        refine lv_aload_n hx hb dX9_readWalls_39 rfl (lv_at hl 1 rfl) ?_
        refine gfN_Paper_cells X G hv1 nf_24 dX9_readWalls_40 ?_
        refine lv_iconst (v := (1)) hx hb dX9_readWalls_43 (by decide) ?_
        refine lv_isub hx hb dX9_readWalls_44 ?_
        refine gq_calli G (gc_V (C := RX9) (rest := []) X hl.1 G (m_X9_passNumber hI  h) cw_X9_passNumber qw_12_13 qw_12_14 qw_12_15 ob_Tape rfl rfl rfl rfl (Nat.le_of_ble_eq_true rfl) ⟨Nat.le_of_ble_eq_true rfl, Nat.le_of_ble_eq_true rfl⟩ ⟨Nat.le_refl _, Nat.le_refl _⟩ dX9_readWalls_45) (fun r6 M5 H locs G h => ?_)
        refine lv_if_ne (tgt := 53) hx hb dX9_readWalls_48 (by decide) (fun c7 => ?_) (fun c7 => ?_)
        · have h := h.2 c7
          refine lv_aload_n hx hb dX9_readWalls_53 rfl (lv_at hl 1 rfl) ?_
          refine gfN_Paper_walls X G hv1 nf_10 dX9_readWalls_54 ?_
          refine lv_aload_n hx hb dX9_readWalls_57 rfl (lv_at hl 1 rfl) ?_
          refine gfN_Paper_wallCount X G hv1 nf_28 dX9_readWalls_58 ?_
          refine lv_aload_n hx hb dX9_readWalls_61 rfl (lv_at hl 0 rfl) ?_
          refine gf_Tape_value X G qw_11_22 dX9_readWalls_62 ?_
          obtain ⟨q8, h⟩ := h
          refine gq_iast X G (ar_Paper_walls hv1) q8 dX9_readWalls_65 (fun M9 H locs e10 G => ?_)
          have h := h M9 e10
          refine lv_aload_n hx hb dX9_readWalls_66 rfl (lv_at hl 1 rfl) ?_
          refine lv_dup hx hb dX9_readWalls_67 rfl ?_
          refine gfN_Paper_wallCount X G hv1 nf_28 dX9_readWalls_68 ?_
          refine lv_iconst (v := (1)) hx hb dX9_readWalls_71 (by decide) ?_
          refine lv_iadd hx hb dX9_readWalls_72 ?_
          refine gpN_Paper_wallCount X G hv1 nf_28 dX9_readWalls_73 (fun M11 H locs e12 G => ?_)
          have h := h M11 e12
          refine lv_aload_n hx hb dX9_readWalls_76 rfl (lv_at hl 0 rfl) ?_
          refine gf_Tape_value X G qw_11_22 dX9_readWalls_77 ?_
          refine lv_iconst (v := (1)) hx hb dX9_readWalls_80 (by decide) ?_
          refine lv_iadd hx hb dX9_readWalls_81 ?_
          refine lv_istore_n (lv' := [(2, .int ((M11 24 5) + 1)), (0, .ref (ad 24)), (1, .ref (ad v1)), (3, .int (v3))]) hx hb dX9_readWalls_82 rfl hl (by decide) rfl (fun ls hl => ?_)
          refine lv_aload_n hx hb dX9_readWalls_83 rfl (lv_at hl 1 rfl) ?_
          refine lv_bipush (v := (59)) hx hb dX9_readWalls_84 (by decide) ?_
          refine gq_calli G (gc_V (C := RX9) (rest := []) X hl.1 G (m_X9_pass hI  h) cw_X9_pass qw_12_3 qw_12_4 qw_12_5 ob_Tape rfl rfl rfl rfl (Nat.le_of_ble_eq_true rfl) ⟨Nat.le_of_ble_eq_true rfl, Nat.le_of_ble_eq_true rfl⟩ ⟨Nat.le_refl _, Nat.le_refl _⟩ dX9_readWalls_86) (fun r14 M13 H locs G h => ?_)
          refine lv_if_ne (tgt := 94) hx hb dX9_readWalls_89 (by decide) (fun c15 => ?_) (fun c15 => ?_)
          · have h := h.2 c15
            refine lv_iinc (v := v3 + 1) (lv' := [(3, .int (v3 + 1)), (2, .int ((M11 24 5) + 1)), (0, .ref (ad 24)), (1, .ref (ad v1))]) hx hb dX9_readWalls_94 hl (k := 3) rfl rfl (by decide) rfl (fun ls hl => ?_)
            refine lv_goto (tgt := 4) hx hb dX9_readWalls_97 (by decide) ?_
            exact ih4 ((M11 24 5) + 1) (v3 + 1) M13 H locs ls G  (lv_sub hl [2, 3, 1, 0] rfl) h
          have h := h.1 c15
          refine lv_iconst (v := (0)) hx hb dX9_readWalls_92 (by decide) ?_
          exact gq_zret X G (Or.inl rfl) h dX9_readWalls_93
        have h := h.1 c7
        refine lv_iconst (v := (0)) hx hb dX9_readWalls_51 (by decide) ?_
        exact gq_zret X G (Or.inl rfl) h dX9_readWalls_52
      have h := h.2 c3
      refine lv_aload_n hx hb dX9_readWalls_27 rfl (lv_at hl 0 rfl) ?_
      refine lv_iconst (v := (3)) hx hb dX9_readWalls_28 (by decide) ?_
      refine gq_calli G (gc_V (C := RX9) (rest := []) X hl.1 G (m_X9_fail hI  h) cw_X9_fail qw_12_7 qw_12_8 qw_12_9 ob_Tape rfl rfl rfl rfl (Nat.le_of_ble_eq_true rfl) ⟨Nat.le_of_ble_eq_true rfl, Nat.le_of_ble_eq_true rfl⟩ ⟨Nat.le_refl _, Nat.le_refl _⟩ dX9_readWalls_29) (fun r17 M16 H locs G h => ?_)
      exact gq_zret X G h.1 h.2 dX9_readWalls_32
  unfold f_X9_readWalls at h
  refine lv_iconst (v := (1)) hx hb dX9_readWalls_0 (by decide) ?_
  refine lv_istore_n (lv' := [(2, .int (1)), (0, .ref (ad 24)), (1, .ref (ad v1))]) hx hb dX9_readWalls_1 rfl hl (by decide) rfl (fun ls hl => ?_)
  refine lv_iconst (v := (0)) hx hb dX9_readWalls_2 (by decide) ?_
  refine lv_istore_n (lv' := [(3, .int (0)), (2, .int (1)), (0, .ref (ad 24)), (1, .ref (ad v1))]) hx hb dX9_readWalls_3 rfl hl (by decide) rfl (fun ls hl => ?_)
  obtain ⟨n18, h⟩ := h
  exact hL4   n18 (1) (0) M H locs ls G  (lv_sub hl [2, 3, 1, 0] rfl) h
def f_X9_kindByLetter (v0 : Int32) (M : Mm) (K : Int32 → Mm → Prop) : Prop := (((v0 : Int32) = 98 → K (5) M) ∧ (¬ (v0 : Int32) = 98 → (((v0 : Int32) = 100 → K (2) M) ∧ (¬ (v0 : Int32) = 100 → (((v0 : Int32) = 108 → K (1) M) ∧ (¬ (v0 : Int32) = 108 → (((v0 : Int32) = 111 → K (4) M) ∧ (¬ (v0 : Int32) = 111 → (((v0 : Int32) = 115 → K (3) M) ∧ (¬ (v0 : Int32) = 115 → K (0) M))))))))))
set_option maxHeartbeats 4000000 in
set_option maxRecDepth 100000 in
theorem m_X9_kindByLetter (hI : gI 91 ad) {v0 : Int32} {M : Mm} {K : Int32 → Mm → Prop} (h : f_X9_kindByLetter v0 M K) : gM l D cy 91 ad (shC ad cy) yX9_kindByLetter cX9_kindByLetter 1 (some .int) 0 0 [.int (v0)] M (gQi D 91 ad (shC ad cy) K) := by
  refine gM.of (own := RX9) (lv := [(0, .int (v0))]) (by decide) rfl hI (Nat.le_of_ble_eq_true rfl) rfl ?_
  intro p e s m below meth c ls H locs X G hl
  have hx := X.1
  have hb := X.2.1
  unfold f_X9_kindByLetter at h
  refine lv_iload_n hx hb dX9_kindByLetter_0 rfl (lv_at hl 0 rfl) ?_
  by_cases c1 : (v0 : Int32) = 98
  · refine gq_lookIn (v := 98) (tgt := 60) hx hb dX9_kindByLetter_1 (by decide) c1 rfl (by decide) ?_
    have h := h.1 c1
    refine lv_iconst (v := (5)) hx hb dX9_kindByLetter_60 (by decide) ?_
    exact gq_iret X G h dX9_kindByLetter_61
  have h := h.2 c1
  by_cases c2 : (v0 : Int32) = 100
  · refine gq_lookIn (v := 100) (tgt := 54) hx hb dX9_kindByLetter_1 (by decide) c2 rfl (by decide) ?_
    have h := h.1 c2
    refine lv_iconst (v := (2)) hx hb dX9_kindByLetter_54 (by decide) ?_
    exact gq_iret X G h dX9_kindByLetter_55
  have h := h.2 c2
  by_cases c3 : (v0 : Int32) = 108
  · refine gq_lookIn (v := 108) (tgt := 52) hx hb dX9_kindByLetter_1 (by decide) c3 rfl (by decide) ?_
    have h := h.1 c3
    refine lv_iconst (v := (1)) hx hb dX9_kindByLetter_52 (by decide) ?_
    exact gq_iret X G h dX9_kindByLetter_53
  have h := h.2 c3
  by_cases c4 : (v0 : Int32) = 111
  · refine gq_lookIn (v := 111) (tgt := 58) hx hb dX9_kindByLetter_1 (by decide) c4 rfl (by decide) ?_
    have h := h.1 c4
    refine lv_iconst (v := (4)) hx hb dX9_kindByLetter_58 (by decide) ?_
    exact gq_iret X G h dX9_kindByLetter_59
  have h := h.2 c4
  by_cases c5 : (v0 : Int32) = 115
  · refine gq_lookIn (v := 115) (tgt := 56) hx hb dX9_kindByLetter_1 (by decide) c5 rfl (by decide) ?_
    have h := h.1 c5
    refine lv_iconst (v := (3)) hx hb dX9_kindByLetter_56 (by decide) ?_
    exact gq_iret X G h dX9_kindByLetter_57
  have h := h.2 c5
  refine lv_lookup (off := 61) (tgt := 62) hx hb dX9_kindByLetter_1 (by decide) ((lv_osw c1 rfl).trans ((lv_osw c2 rfl).trans ((lv_osw c3 rfl).trans ((lv_osw c4 rfl).trans ((lv_osw c5 rfl).trans (rfl)))))) (by decide) ?_
  refine lv_iconst (v := (0)) hx hb dX9_kindByLetter_62 (by decide) ?_
  exact gq_iret X G h dX9_kindByLetter_63
def f_X6_addFolk (v0 : Nat) (v1 : Int32) (v2 : Int32) (v3 : Int32) (M : Mm) (K : Mm → Prop) : Prop := (vp_in (M v0 10) 5 ∧ (∀ M2 : Mm, M2 = gU M (v0 + 3) (M v0 10 : Int32).toNatClampNeg (v1) → (vp_in (M2 v0 10) 5 ∧ (∀ M5 : Mm, M5 = gU M2 (v0 + 4) (M2 v0 10 : Int32).toNatClampNeg (v2) → (vp_in (M5 v0 10) 5 ∧ (∀ M8 : Mm, M8 = gU M5 (v0 + 5) (M5 v0 10 : Int32).toNatClampNeg (v3) → (vp_in (M8 v0 10) 5 ∧ (∀ M11 : Mm, M11 = gU M8 (v0 + 6) (M8 v0 10 : Int32).toNatClampNeg (0) → (∀ M13 : Mm, M13 = gU M11 v0 10 ((M11 v0 10) + 1) → K M13)))))))))
set_option maxHeartbeats 4000000 in
set_option maxRecDepth 100000 in
theorem m_X6_addFolk (hI : gI 91 ad) {v0 : Nat} (hv0 : isPap v0) {v1 : Int32} {v2 : Int32} {v3 : Int32} {M : Mm} {K : Mm → Prop} (h : f_X6_addFolk v0 v1 v2 v3 M K) : gM l D cy 91 ad (shC ad cy) yX6_addFolk cX6_addFolk 4 none 0 0 [.ref (ad v0), .int (v1), .int (v2), .int (v3)] M (gQv D 91 ad (shC ad cy) K) := by
  refine gM.of (own := RX6) (lv := [(0, .ref (ad v0)), (1, .int (v1)), (2, .int (v2)), (3, .int (v3))]) (by decide) rfl hI (Nat.le_of_ble_eq_true rfl) rfl ?_
  intro p e s m below meth c ls H locs X G hl
  have hx := X.1
  have hb := X.2.1
  unfold f_X6_addFolk at h
  refine lv_aload_n hx hb dX6_addFolk_0 rfl (lv_at hl 0 rfl) ?_
  refine gf_Paper_kinds X G hv0 qw_4_10 dX6_addFolk_1 ?_
  refine lv_aload_n hx hb dX6_addFolk_4 rfl (lv_at hl 0 rfl) ?_
  refine gf_Paper_folkCount X G hv0 qw_11_5 dX6_addFolk_5 ?_
  refine lv_iload_n hx hb dX6_addFolk_8 rfl (lv_at hl 1 rfl) ?_
  obtain ⟨q1, h⟩ := h
  refine gq_iast X G (ar_Paper_kinds hv0) q1 dX6_addFolk_9 (fun M2 H locs e3 G => ?_)
  have h := h M2 e3
  refine lv_aload_n hx hb dX6_addFolk_10 rfl (lv_at hl 0 rfl) ?_
  refine gf_Paper_houses X G hv0 qw_4_11 dX6_addFolk_11 ?_
  refine lv_aload_n hx hb dX6_addFolk_14 rfl (lv_at hl 0 rfl) ?_
  refine gf_Paper_folkCount X G hv0 qw_11_5 dX6_addFolk_15 ?_
  refine lv_iload_n hx hb dX6_addFolk_18 rfl (lv_at hl 2 rfl) ?_
  obtain ⟨q4, h⟩ := h
  refine gq_iast X G (ar_Paper_houses hv0) q4 dX6_addFolk_19 (fun M5 H locs e6 G => ?_)
  have h := h M5 e6
  refine lv_aload_n hx hb dX6_addFolk_20 rfl (lv_at hl 0 rfl) ?_
  refine gf_Paper_ways X G hv0 qw_4_12 dX6_addFolk_21 ?_
  refine lv_aload_n hx hb dX6_addFolk_24 rfl (lv_at hl 0 rfl) ?_
  refine gf_Paper_folkCount X G hv0 qw_11_5 dX6_addFolk_25 ?_
  refine lv_iload_n hx hb dX6_addFolk_28 rfl (lv_at hl 3 rfl) ?_
  obtain ⟨q7, h⟩ := h
  refine gq_iast X G (ar_Paper_ways hv0) q7 dX6_addFolk_29 (fun M8 H locs e9 G => ?_)
  have h := h M8 e9
  refine lv_aload_n hx hb dX6_addFolk_30 rfl (lv_at hl 0 rfl) ?_
  refine gf_Paper_knows X G hv0 qw_4_13 dX6_addFolk_31 ?_
  refine lv_aload_n hx hb dX6_addFolk_34 rfl (lv_at hl 0 rfl) ?_
  refine gf_Paper_folkCount X G hv0 qw_11_5 dX6_addFolk_35 ?_
  refine lv_iconst (v := (0)) hx hb dX6_addFolk_38 (by decide) ?_
  obtain ⟨q10, h⟩ := h
  refine gq_iast X G (ar_Paper_knows hv0) q10 dX6_addFolk_39 (fun M11 H locs e12 G => ?_)
  have h := h M11 e12
  refine lv_aload_n hx hb dX6_addFolk_40 rfl (lv_at hl 0 rfl) ?_
  refine lv_dup hx hb dX6_addFolk_41 rfl ?_
  refine gf_Paper_folkCount X G hv0 qw_11_5 dX6_addFolk_42 ?_
  refine lv_iconst (v := (1)) hx hb dX6_addFolk_45 (by decide) ?_
  refine lv_iadd hx hb dX6_addFolk_46 ?_
  refine gp_Paper_folkCount X G hv0 qw_11_5 dX6_addFolk_47 (fun M13 H locs e14 G => ?_)
  have h := h M13 e14
  exact gq_vret X G h dX6_addFolk_50
def l_X9_readFolk_2 (K : Int32 → Mm → Prop) (v1 : Nat) : Nat → Int32 → Mm → Prop
  | 0, _, _ => False
  | n + 1, v2, M => ((((90 : Int32) ≤ v2 : Prop) → K 1 M) ∧ (¬ ((90 : Int32) ≤ v2 : Prop) → ((((M 24 3 : Int32) = -1 : Prop) → K 1 M) ∧ (¬ ((M 24 3 : Int32) = -1 : Prop) → (f_X9_kindByLetter (M 24 3) M (fun r4 M3 => ((((r4 : Int32) = 0 : Prop) → (f_X9_fail (1) M3 (fun r24 M23 => ((r24 = 0 ∨ r24 = 1) ∧ K (r24) M23)))) ∧ (¬ ((r4 : Int32) = 0 : Prop) → ((((M3 v1 10 : Int32) < 5 : Prop) → (f_X9_step  M3 (fun M7 => (f_X9_passNumber (0) (M7 v1 9) M7 (fun r9 M8 => ((((r9 : Int32) = 0 : Prop) → K 0 M8) ∧ (¬ ((r9 : Int32) = 0 : Prop) → (f_X9_pass (44) M8 (fun r12 M11 => ((((r12 : Int32) = 0 : Prop) → K 0 M11) ∧ (¬ ((r12 : Int32) = 0 : Prop) → (f_X9_passNumber (0) (1) M11 (fun r15 M14 => ((((r15 : Int32) = 0 : Prop) → K 0 M14) ∧ (¬ ((r15 : Int32) = 0 : Prop) → (f_X6_addFolk v1 (r4) (M8 24 5) (M14 24 5) M14 (fun M17 => (f_X9_pass (59) M17 (fun r19 M18 => ((((r19 : Int32) = 0 : Prop) → K 0 M18) ∧ (¬ ((r19 : Int32) = 0 : Prop) → (l_X9_readFolk_2 K v1 n) (v2 + 1) M18))))))))))))))))))))) ∧ (¬ ((M3 v1 10 : Int32) < 5 : Prop) → (f_X9_fail (3) M3 (fun r22 M21 => ((r22 = 0 ∨ r22 = 1) ∧ K (r22) M21)))))))))))))
def f_X9_readFolk (v1 : Nat) (M : Mm) (K : Int32 → Mm → Prop) : Prop := ∃ z, l_X9_readFolk_2 K (v1) z (0) M
set_option maxHeartbeats 4000000 in
set_option maxRecDepth 100000 in
theorem m_X9_readFolk (hI : gI 91 ad) {v1 : Nat} (hv1 : isPap v1) {M : Mm} {K : Int32 → Mm → Prop} (h : f_X9_readFolk v1 M K) : gM l D cy 91 ad (shC ad cy) yX9_readFolk cX9_readFolk 5 (some .boolean) 4 83 [.ref (ad 24), .ref (ad v1)] M (gQi D 91 ad (shC ad cy) K) := by
  refine gM.of (own := RX9) (lv := [(0, .ref (ad 24)), (1, .ref (ad v1))]) (by decide) rfl hI (Nat.le_of_ble_eq_true rfl) rfl ?_
  intro p e s m below meth c ls H locs X G hl
  have hx := X.1
  have hb := X.2.1
  have hL2 : ∀ (n : Nat) (v2 : Int32) (M : Mm) (H : Heap) (locs : List Loc) (ls : Array Slot), gS D s 91 ad (shC ad cy) H locs M → lv_has ls 5 [(0, .ref (ad 24)), (1, .ref (ad v1)), (2, .int (v2))] → l_X9_readFolk_2 K v1 n v2 M → gWk p l e 4 83 s m ([.ref (ad 24), .ref (ad v1)] : List Value).toArray below meth c H locs (gQi D 91 ad (shC ad cy) K) 91 ad 2 ls [] := by
    intro n2
    induction n2 with
    | zero =>
      intro v2 M H locs ls G hl h
      exact False.elim h
    | succ n2 ih2 =>
      intro v2 M H locs ls G hl h
      rw [l_X9_readFolk_2] at h
      refine lv_iload_n hx hb dX9_readFolk_2 rfl (lv_at hl 2 rfl) ?_
      refine lv_bipush (v := (90)) hx hb dX9_readFolk_3 (by decide) ?_
      refine lv_icmp_ge (tgt := 120) hx hb dX9_readFolk_5 (by decide) (fun c1 => ?_) (fun c1 => ?_)
      · have h := h.1 c1
        refine lv_iconst (v := (1)) hx hb dX9_readFolk_120 (by decide) ?_
        exact gq_zret X G (Or.inr rfl) h dX9_readFolk_121
      have h := h.2 c1
      refine lv_aload_n hx hb dX9_readFolk_8 rfl (lv_at hl 0 rfl) ?_
      refine gf_Tape_token X G qw_11_13 dX9_readFolk_9 ?_
      refine lv_iconst (v := (-1)) hx hb dX9_readFolk_12 (by decide) ?_
      refine lv_icmp_eq (tgt := 120) hx hb dX9_readFolk_13 (by decide) (fun c2 => ?_) (fun c2 => ?_)
      · have h := h.1 c2
        refine lv_iconst (v := (1)) hx hb dX9_readFolk_120 (by decide) ?_
        exact gq_zret X G (Or.inr rfl) h dX9_readFolk_121
      have h := h.2 c2
      refine lv_aload_n hx hb dX9_readFolk_16 rfl (lv_at hl 0 rfl) ?_
      refine gf_Tape_token X G qw_11_13 dX9_readFolk_17 ?_
      refine gq_calli G (gc_S (rest := []) X hl.1 G (m_X9_kindByLetter hI  h) cw_X9_kindByLetter qw_13_5 qw_13_6 rfl rfl (Nat.le_of_ble_eq_true rfl) ⟨Nat.le_of_ble_eq_true rfl, Nat.le_of_ble_eq_true rfl⟩ ⟨Nat.le_refl _, Nat.le_refl _⟩ dX9_readFolk_20) (fun r4 M3 H locs G h => ?_)
      refine lv_istore_n (lv' := [(3, .int (r4)), (0, .ref (ad 24)), (1, .ref (ad v1)), (2, .int (v2))]) hx hb dX9_readFolk_23 rfl hl (by decide) rfl (fun ls hl => ?_)
      refine lv_iload_n hx hb dX9_readFolk_24 rfl (lv_at hl 0 rfl) ?_
      refine lv_if_ne (tgt := 34) hx hb dX9_readFolk_25 (by decide) (fun c5 => ?_) (fun c5 => ?_)
      · have h := h.2 c5
        refine lv_aload_n hx hb dX9_readFolk_34 rfl (lv_at hl 2 rfl) ?_
        refine gfN_Paper_folkCount X G hv1 nf_31 dX9_readFolk_35 ?_
        refine lv_iconst (v := (5)) hx hb dX9_readFolk_38 (by decide) ?_
        refine lv_icmp_lt (tgt := 48) hx hb dX9_readFolk_39 (by decide) (fun c6 => ?_) (fun c6 => ?_)
        · have h := h.1 c6
          refine lv_aload_n hx hb dX9_readFolk_48 rfl (lv_at hl 1 rfl) ?_
          refine gq_callv G (gc_V (C := RX9) (rest := []) X hl.1 G (m_X9_step hI  h) cw_X9_step qw_11_9 qw_11_10 qw_11_11 ob_Tape rfl rfl rfl rfl (Nat.le_of_ble_eq_true rfl) ⟨Nat.le_of_ble_eq_true rfl, Nat.le_of_ble_eq_true rfl⟩ ⟨Nat.le_refl _, Nat.le_refl _⟩ dX9_readFolk_49) (fun M7 H locs G h => ?_)
          refine lv_aload_n hx hb dX9_readFolk_52 rfl (lv_at hl 1 rfl) ?_
          refine lv_iconst (v := (0)) hx hb dX9_readFolk_53 (by decide) ?_
          refine lv_aload_n hx hb dX9_readFolk_54 rfl (lv_at hl 2 rfl) ?_
          refine gfN_Paper_wallCount X G hv1 nf_28 dX9_readFolk_55 ?_
          refine gq_calli G (gc_V (C := RX9) (rest := []) X hl.1 G (m_X9_passNumber hI  h) cw_X9_passNumber qw_12_13 qw_12_14 qw_12_15 ob_Tape rfl rfl rfl rfl (Nat.le_of_ble_eq_true rfl) ⟨Nat.le_of_ble_eq_true rfl, Nat.le_of_ble_eq_true rfl⟩ ⟨Nat.le_refl _, Nat.le_refl _⟩ dX9_readFolk_58) (fun r9 M8 H locs G h => ?_)
          refine lv_if_ne (tgt := 66) hx hb dX9_readFolk_61 (by decide) (fun c10 => ?_) (fun c10 => ?_)
          · have h := h.2 c10
            refine lv_aload_n hx hb dX9_readFolk_66 rfl (lv_at hl 1 rfl) ?_
            refine gf_Tape_value X G qw_11_22 dX9_readFolk_67 ?_
            refine lv_istore (lv' := [(4, .int (M8 24 5)), (3, .int (r4)), (0, .ref (ad 24)), (1, .ref (ad v1)), (2, .int (v2))]) hx hb dX9_readFolk_70 hl (by decide) rfl (fun ls hl => ?_)
            refine lv_aload_n hx hb dX9_readFolk_72 rfl (lv_at hl 2 rfl) ?_
            refine lv_bipush (v := (44)) hx hb dX9_readFolk_73 (by decide) ?_
            refine gq_calli G (gc_V (C := RX9) (rest := []) X hl.1 G (m_X9_pass hI  h) cw_X9_pass qw_12_3 qw_12_4 qw_12_5 ob_Tape rfl rfl rfl rfl (Nat.le_of_ble_eq_true rfl) ⟨Nat.le_of_ble_eq_true rfl, Nat.le_of_ble_eq_true rfl⟩ ⟨Nat.le_refl _, Nat.le_refl _⟩ dX9_readFolk_75) (fun r12 M11 H locs G h => ?_)
            refine lv_if_eq (tgt := 90) hx hb dX9_readFolk_78 (by decide) (fun c13 => ?_) (fun c13 => ?_)
            · have h := h.1 c13
              refine lv_iconst (v := (0)) hx hb dX9_readFolk_90 (by decide) ?_
              exact gq_zret X G (Or.inl rfl) h dX9_readFolk_91
            have h := h.2 c13
            refine lv_aload_n hx hb dX9_readFolk_81 rfl (lv_at hl 2 rfl) ?_
            refine lv_iconst (v := (0)) hx hb dX9_readFolk_82 (by decide) ?_
            refine lv_iconst (v := (1)) hx hb dX9_readFolk_83 (by decide) ?_
            refine gq_calli G (gc_V (C := RX9) (rest := []) X hl.1 G (m_X9_passNumber hI  h) cw_X9_passNumber qw_12_13 qw_12_14 qw_12_15 ob_Tape rfl rfl rfl rfl (Nat.le_of_ble_eq_true rfl) ⟨Nat.le_of_ble_eq_true rfl, Nat.le_of_ble_eq_true rfl⟩ ⟨Nat.le_refl _, Nat.le_refl _⟩ dX9_readFolk_84) (fun r15 M14 H locs G h => ?_)
            refine lv_if_ne (tgt := 92) hx hb dX9_readFolk_87 (by decide) (fun c16 => ?_) (fun c16 => ?_)
            · have h := h.2 c16
              refine lv_aload_n hx hb dX9_readFolk_92 rfl (lv_at hl 3 rfl) ?_
              refine lv_iload_n hx hb dX9_readFolk_93 rfl (lv_at hl 1 rfl) ?_
              refine lv_iload hx hb dX9_readFolk_94 (lv_at hl 0 rfl) ?_
              refine lv_aload_n hx hb dX9_readFolk_96 rfl (lv_at hl 2 rfl) ?_
              refine gf_Tape_value X G qw_11_22 dX9_readFolk_97 ?_
              refine gq_callv G (gc_VN (C := RX6) (rest := []) X hl.1 G (m_X6_addFolk hI hv1 h) cw_X6_addFolk nm_24 qw_13_8 qw_13_9 (ob_Paper hv1) rfl rfl rfl rfl (Nat.le_of_ble_eq_true rfl) ⟨Nat.le_of_ble_eq_true rfl, Nat.le_of_ble_eq_true rfl⟩ ⟨Nat.le_refl _, Nat.le_refl _⟩ dX9_readFolk_100) (fun M17 H locs G h => ?_)
              refine lv_aload_n hx hb dX9_readFolk_103 rfl (lv_at hl 2 rfl) ?_
              refine lv_bipush (v := (59)) hx hb dX9_readFolk_104 (by decide) ?_
              refine gq_calli G (gc_V (C := RX9) (rest := []) X hl.1 G (m_X9_pass hI  h) cw_X9_pass qw_12_3 qw_12_4 qw_12_5 ob_Tape rfl rfl rfl rfl (Nat.le_of_ble_eq_true rfl) ⟨Nat.le_of_ble_eq_true rfl, Nat.le_of_ble_eq_true rfl⟩ ⟨Nat.le_refl _, Nat.le_refl _⟩ dX9_readFolk_106) (fun r19 M18 H locs G h => ?_)
              refine lv_if_ne (tgt := 114) hx hb dX9_readFolk_109 (by decide) (fun c20 => ?_) (fun c20 => ?_)
              · have h := h.2 c20
                refine lv_iinc (v := v2 + 1) (lv' := [(2, .int (v2 + 1)), (4, .int (M8 24 5)), (3, .int (r4)), (0, .ref (ad 24)), (1, .ref (ad v1))]) hx hb dX9_readFolk_114 hl (k := 4) rfl rfl (by decide) rfl (fun ls hl => ?_)
                refine lv_goto (tgt := 2) hx hb dX9_readFolk_117 (by decide) ?_
                exact ih2 (v2 + 1) M18 H locs ls G  (lv_sub hl [3, 4, 0] rfl) h
              have h := h.1 c20
              refine lv_iconst (v := (0)) hx hb dX9_readFolk_112 (by decide) ?_
              exact gq_zret X G (Or.inl rfl) h dX9_readFolk_113
            have h := h.1 c16
            refine lv_iconst (v := (0)) hx hb dX9_readFolk_90 (by decide) ?_
            exact gq_zret X G (Or.inl rfl) h dX9_readFolk_91
          have h := h.1 c10
          refine lv_iconst (v := (0)) hx hb dX9_readFolk_64 (by decide) ?_
          exact gq_zret X G (Or.inl rfl) h dX9_readFolk_65
        have h := h.2 c6
        refine lv_aload_n hx hb dX9_readFolk_42 rfl (lv_at hl 1 rfl) ?_
        refine lv_iconst (v := (3)) hx hb dX9_readFolk_43 (by decide) ?_
        refine gq_calli G (gc_V (C := RX9) (rest := []) X hl.1 G (m_X9_fail hI  h) cw_X9_fail qw_12_7 qw_12_8 qw_12_9 ob_Tape rfl rfl rfl rfl (Nat.le_of_ble_eq_true rfl) ⟨Nat.le_of_ble_eq_true rfl, Nat.le_of_ble_eq_true rfl⟩ ⟨Nat.le_refl _, Nat.le_refl _⟩ dX9_readFolk_44) (fun r22 M21 H locs G h => ?_)
        exact gq_zret X G h.1 h.2 dX9_readFolk_47
      have h := h.1 c5
      refine lv_aload_n hx hb dX9_readFolk_28 rfl (lv_at hl 1 rfl) ?_
      refine lv_iconst (v := (1)) hx hb dX9_readFolk_29 (by decide) ?_
      refine gq_calli G (gc_V (C := RX9) (rest := []) X hl.1 G (m_X9_fail hI  h) cw_X9_fail qw_12_7 qw_12_8 qw_12_9 ob_Tape rfl rfl rfl rfl (Nat.le_of_ble_eq_true rfl) ⟨Nat.le_of_ble_eq_true rfl, Nat.le_of_ble_eq_true rfl⟩ ⟨Nat.le_refl _, Nat.le_refl _⟩ dX9_readFolk_30) (fun r24 M23 H locs G h => ?_)
      exact gq_zret X G h.1 h.2 dX9_readFolk_33
  unfold f_X9_readFolk at h
  refine lv_iconst (v := (0)) hx hb dX9_readFolk_0 (by decide) ?_
  refine lv_istore_n (lv' := [(2, .int (0)), (0, .ref (ad 24)), (1, .ref (ad v1))]) hx hb dX9_readFolk_1 rfl hl (by decide) rfl (fun ls hl => ?_)
  obtain ⟨n25, h⟩ := h
  exact hL2   n25 (0) M H locs ls G  (lv_sub hl [1, 2, 0] rfl) h
end GEN00
