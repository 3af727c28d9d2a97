section GEN04
variable {l : Launch} {D : va_G} {cy : Nat → ClassId} {ad : Nat → Nat}
def l_X4_tenthsOf_5 (K : Int32 → Mm → Prop) (v1 : Int32) (v2 : Int32) : Nat → Int32 → Int32 → Mm → Prop
  | 0, _, _, _ => False
  | n + 1, v3, v4, M => ((((M 26 9 : Int32) ≤ v4 : Prop) → K (v3) M) ∧ (¬ ((M 26 9 : Int32) ≤ v4 : Prop) → (f_X11_bitOf (v1) (v4) M (fun r3 M2 => ((((r3 : Int32) = 1 : Prop) → (l_X4_tenthsOf_5 K v1 v2 n) (v3 * v2) (v4 + 1) M2) ∧ (¬ ((r3 : Int32) = 1 : Prop) → (l_X4_tenthsOf_5 K v1 v2 n) (v3 * (10 - v2)) (v4 + 1) M2))))))
def f_X4_tenthsOf (v1 : Int32) (v2 : Int32) (M : Mm) (K : Int32 → Mm → Prop) : Prop := ∃ z, l_X4_tenthsOf_5 K (v1) (v2) z (1) (0) M
set_option maxHeartbeats 4000000 in
set_option maxRecDepth 100000 in
theorem m_X4_tenthsOf (hI : gI 91 ad) {v1 : Int32} {v2 : Int32} {M : Mm} {K : Int32 → Mm → Prop} (h : f_X4_tenthsOf v1 v2 M K) : gM l D cy 91 ad (shC ad cy) yX4_tenthsOf cX4_tenthsOf 5 (some .int) 1 21 [.ref (ad 55), .int (v1), .int (v2)] M (gQi D 91 ad (shC ad cy) K) := by
  refine gM.of (own := RX4) (lv := [(0, .ref (ad 55)), (1, .int (v1)), (2, .int (v2))]) (by decide) rfl hI (Nat.le_of_ble_eq_true rfl) rfl ?_
  intro p e s m below meth c ls H locs X G hl
  have hx := X.1
  have hb := X.2.1
  have hL5 : ∀ (n : Nat) (v3 : Int32) (v4 : Int32) (M : Mm) (H : Heap) (locs : List Loc) (ls : Array Slot), gS D s 91 ad (shC ad cy) H locs M → lv_has ls 5 [(0, .ref (ad 55)), (1, .int (v1)), (2, .int (v2)), (3, .int (v3)), (4, .int (v4))] → l_X4_tenthsOf_5 K v1 v2 n v3 v4 M → gWk p l e 1 21 s m ([.ref (ad 55), .int (v1), .int (v2)] : List Value).toArray below meth c H locs (gQi D 91 ad (shC ad cy) K) 91 ad 5 ls [] := by
    intro n5
    induction n5 with
    | zero =>
      intro v3 v4 M H locs ls G hl h
      exact False.elim h
    | succ n5 ih5 =>
      intro v3 v4 M H locs ls G hl h
      rw [l_X4_tenthsOf_5] at h
      refine lv_iload hx hb dX4_tenthsOf_5 (lv_at hl 4 rfl) ?_
      refine lv_aload_n hx hb dX4_tenthsOf_7 rfl (lv_at hl 0 rfl) ?_
      refine gf_Fore_now X G qw_4_19 dX4_tenthsOf_8 ?_
      refine gfN_Paper_wallCount X G isPap_26 nf_27 dX4_tenthsOf_11 ?_
      refine lv_icmp_ge (tgt := 44) hx hb dX4_tenthsOf_14 (by decide) (fun c1 => ?_) (fun c1 => ?_)
      · have h := h.1 c1
        refine lv_iload_n hx hb dX4_tenthsOf_44 rfl (lv_at hl 3 rfl) ?_
        exact gq_iret X G h dX4_tenthsOf_45
      have h := h.2 c1
      refine lv_iload_n hx hb dX4_tenthsOf_17 rfl (lv_at hl 3 rfl) ?_
      refine lv_iload_n hx hb dX4_tenthsOf_18 rfl (lv_at hl 1 rfl) ?_
      refine lv_iload hx hb dX4_tenthsOf_19 (lv_at hl 4 rfl) ?_
      refine gq_calli G (gc_SN (rest := [.int (v3)]) X hl.1 G (m_X11_bitOf hI  h) cw_X11_bitOf nm_60 qw_22_0 rfl rfl (Nat.le_of_ble_eq_true rfl) ⟨Nat.le_of_ble_eq_true rfl, Nat.le_of_ble_eq_true rfl⟩ ⟨Nat.le_refl _, Nat.le_refl _⟩ dX4_tenthsOf_21) (fun r3 M2 H locs G h => ?_)
      refine lv_iconst (v := (1)) hx hb dX4_tenthsOf_24 (by decide) ?_
      refine lv_icmp_ne (tgt := 32) hx hb dX4_tenthsOf_25 (by decide) (fun c4 => ?_) (fun c4 => ?_)
      · have h := h.2 c4
        refine lv_bipush (v := (10)) hx hb dX4_tenthsOf_32 (by decide) ?_
        refine lv_iload_n hx hb dX4_tenthsOf_34 rfl (lv_at hl 2 rfl) ?_
        refine lv_isub hx hb dX4_tenthsOf_35 ?_
        refine lv_imul hx hb dX4_tenthsOf_36 ?_
        refine lv_istore_n (lv' := [(3, .int (v3 * (10 - v2))), (0, .ref (ad 55)), (1, .int (v1)), (2, .int (v2)), (4, .int (v4))]) hx hb dX4_tenthsOf_37 rfl hl (by decide) rfl (fun ls hl => ?_)
        refine lv_iinc (v := v4 + 1) (lv' := [(4, .int (v4 + 1)), (3, .int (v3 * (10 - v2))), (0, .ref (ad 55)), (1, .int (v1)), (2, .int (v2))]) hx hb dX4_tenthsOf_38 hl (k := 4) rfl rfl (by decide) rfl (fun ls hl => ?_)
        refine lv_goto (tgt := 5) hx hb dX4_tenthsOf_41 (by decide) ?_
        exact ih5 (v3 * (10 - v2)) (v4 + 1) M2 H locs ls G  (lv_sub hl [2, 3, 4, 1, 0] rfl) h
      have h := h.1 c4
      refine lv_iload_n hx hb dX4_tenthsOf_28 rfl (lv_at hl 2 rfl) ?_
      refine lv_goto (tgt := 36) hx hb dX4_tenthsOf_29 (by decide) ?_
      refine lv_imul hx hb dX4_tenthsOf_36 ?_
      refine lv_istore_n (lv' := [(3, .int (v3 * v2)), (0, .ref (ad 55)), (1, .int (v1)), (2, .int (v2)), (4, .int (v4))]) hx hb dX4_tenthsOf_37 rfl hl (by decide) rfl (fun ls hl => ?_)
      refine lv_iinc (v := v4 + 1) (lv' := [(4, .int (v4 + 1)), (3, .int (v3 * v2)), (0, .ref (ad 55)), (1, .int (v1)), (2, .int (v2))]) hx hb dX4_tenthsOf_38 hl (k := 4) rfl rfl (by decide) rfl (fun ls hl => ?_)
      refine lv_goto (tgt := 5) hx hb dX4_tenthsOf_41 (by decide) ?_
      exact ih5 (v3 * v2) (v4 + 1) M2 H locs ls G  (lv_sub hl [2, 3, 4, 1, 0] rfl) h
  unfold f_X4_tenthsOf at h
  refine lv_iconst (v := (1)) hx hb dX4_tenthsOf_0 (by decide) ?_
  refine lv_istore_n (lv' := [(3, .int (1)), (0, .ref (ad 55)), (1, .int (v1)), (2, .int (v2))]) hx hb dX4_tenthsOf_1 rfl hl (by decide) rfl (fun ls hl => ?_)
  refine lv_iconst (v := (0)) hx hb dX4_tenthsOf_2 (by decide) ?_
  refine lv_istore (lv' := [(4, .int (0)), (3, .int (1)), (0, .ref (ad 55)), (1, .int (v1)), (2, .int (v2))]) hx hb dX4_tenthsOf_3 hl (by decide) rfl (fun ls hl => ?_)
  obtain ⟨n5, h⟩ := h
  exact hL5   n5 (1) (0) M H locs ls G  (lv_sub hl [2, 3, 4, 1, 0] rfl) h
def f_X6_moveUpIfFree (v0 : Nat) (v1 : Int32) (M : Mm) (K : Mm → Prop) : Prop := (f_X6_hasWall v0 (v1) M (fun r2 M1 => ((((r2 : Int32) = 0 : Prop) → K M1) ∧ (¬ ((r2 : Int32) = 0 : Prop) → (vp_in (v1) 5 ∧ (f_X6_freeForWall v0 ((M1 (v0 + 2) (v1 : Int32).toNatClampNeg) + 1) M1 (fun r6 M5 => ((((r6 : Int32) = 0 : Prop) → K M5) ∧ (¬ ((r6 : Int32) = 0 : Prop) → (∀ M8 : Mm, M8 = gU M5 (v0 + 2) (v1 : Int32).toNatClampNeg ((M5 (v0 + 2) (v1 : Int32).toNatClampNeg) + 1) → K M8))))))))))
set_option maxHeartbeats 4000000 in
set_option maxRecDepth 100000 in
theorem m_X6_moveUpIfFree (hI : gI 91 ad) {v0 : Nat} (hv0 : isPap v0) {v1 : Int32} {M : Mm} {K : Mm → Prop} (h : f_X6_moveUpIfFree v0 v1 M K) : gM l D cy 91 ad (shC ad cy) yX6_moveUpIfFree cX6_moveUpIfFree 2 none 1 22 [.ref (ad v0), .int (v1)] M (gQv D 91 ad (shC ad cy) K) := by
  refine gM.of (own := RX6) (lv := [(0, .ref (ad v0)), (1, .int (v1))]) (by decide) rfl hI (Nat.le_of_ble_eq_true rfl) rfl ?_
  intro p e s m below meth c ls H locs X G hl
  have hx := X.1
  have hb := X.2.1
  unfold f_X6_moveUpIfFree at h
  refine lv_aload_n hx hb dX6_moveUpIfFree_0 rfl (lv_at hl 0 rfl) ?_
  refine lv_iload_n hx hb dX6_moveUpIfFree_1 rfl (lv_at hl 1 rfl) ?_
  refine gq_calli G (gc_V (C := RX6) (rest := []) X hl.1 G (m_X6_hasWall hI hv0 h) cw_X6_hasWall qw_34_17 qw_20_23 qw_21_0 (ob_Paper hv0) rfl rfl rfl rfl (Nat.le_of_ble_eq_true rfl) ⟨Nat.le_of_ble_eq_true rfl, Nat.le_of_ble_eq_true rfl⟩ ⟨Nat.le_refl _, Nat.le_refl _⟩ dX6_moveUpIfFree_2) (fun r2 M1 H locs G h => ?_)
  refine lv_if_eq (tgt := 33) hx hb dX6_moveUpIfFree_5 (by decide) (fun c3 => ?_) (fun c3 => ?_)
  · have h := h.1 c3
    exact gq_vret X G h dX6_moveUpIfFree_33
  have h := h.2 c3
  refine lv_aload_n hx hb dX6_moveUpIfFree_8 rfl (lv_at hl 0 rfl) ?_
  refine lv_aload_n hx hb dX6_moveUpIfFree_9 rfl (lv_at hl 0 rfl) ?_
  refine gf_Paper_walls X G hv0 qw_4_9 dX6_moveUpIfFree_10 ?_
  refine lv_iload_n hx hb dX6_moveUpIfFree_13 rfl (lv_at hl 1 rfl) ?_
  obtain ⟨q4, h⟩ := h
  refine gq_iald X G (ar_Paper_walls hv0) q4 dX6_moveUpIfFree_14 ?_
  refine lv_iconst (v := (1)) hx hb dX6_moveUpIfFree_15 (by decide) ?_
  refine lv_iadd hx hb dX6_moveUpIfFree_16 ?_
  refine gq_calli G (gc_V (C := RX6) (rest := []) X hl.1 G (m_X6_freeForWall hI hv0 h) cw_X6_freeForWall qw_34_18 qw_21_5 qw_21_6 (ob_Paper hv0) rfl rfl rfl rfl (Nat.le_of_ble_eq_true rfl) ⟨Nat.le_of_ble_eq_true rfl, Nat.le_of_ble_eq_true rfl⟩ ⟨Nat.le_refl _, Nat.le_refl _⟩ dX6_moveUpIfFree_17) (fun r6 M5 H locs G h => ?_)
  refine lv_if_eq (tgt := 33) hx hb dX6_moveUpIfFree_20 (by decide) (fun c7 => ?_) (fun c7 => ?_)
  · have h := h.1 c7
    exact gq_vret X G h dX6_moveUpIfFree_33
  have h := h.2 c7
  refine lv_aload_n hx hb dX6_moveUpIfFree_23 rfl (lv_at hl 0 rfl) ?_
  refine gf_Paper_walls X G hv0 qw_4_9 dX6_moveUpIfFree_24 ?_
  refine lv_iload_n hx hb dX6_moveUpIfFree_27 rfl (lv_at hl 1 rfl) ?_
  refine lv_dup2_11 hx hb dX6_moveUpIfFree_28 rfl rfl ?_
  refine gq_iald X G (ar_Paper_walls hv0) q4 dX6_moveUpIfFree_29 ?_
  refine lv_iconst (v := (1)) hx hb dX6_moveUpIfFree_30 (by decide) ?_
  refine lv_iadd hx hb dX6_moveUpIfFree_31 ?_
  refine gq_iast X G (ar_Paper_walls hv0) q4 dX6_moveUpIfFree_32 (fun M8 H locs e9 G => ?_)
  have h := h M8 e9
  exact gq_vret X G h dX6_moveUpIfFree_33
def l_X4_settle_10 (K : Mm → Prop) (v1 : Int32) : Nat → Int32 → Mm → Prop
  | 0, _, _ => False
  | n + 1, v2, M => ((((v2 : Int32) < 0 : Prop) → K M) ∧ (¬ ((v2 : Int32) < 0 : Prop) → (f_X11_bitOf (v1) (v2) M (fun r3 M2 => ((((r3 : Int32) = 1 : Prop) → (f_X6_moveUpIfFree 56 (v2) M2 (fun M5 => (l_X4_settle_10 K v1 n) (v2 + (-1)) M5))) ∧ (¬ ((r3 : Int32) = 1 : Prop) → (l_X4_settle_10 K v1 n) (v2 + (-1)) M2))))))
def f_X4_settle (v1 : Int32) (M : Mm) (K : Mm → Prop) : Prop := ∃ z, l_X4_settle_10 K (v1) z ((M 56 9) - 1) M
set_option maxHeartbeats 4000000 in
set_option maxRecDepth 100000 in
theorem m_X4_settle (hI : gI 91 ad) {v1 : Int32} {M : Mm} {K : Mm → Prop} (h : f_X4_settle v1 M K) : gM l D cy 91 ad (shC ad cy) yX4_settle cX4_settle 3 none 2 43 [.ref (ad 55), .int (v1)] M (gQv D 91 ad (shC ad cy) K) := by
  refine gM.of (own := RX4) (lv := [(0, .ref (ad 55)), (1, .int (v1))]) (by decide) rfl hI (Nat.le_of_ble_eq_true rfl) rfl ?_
  intro p e s m below meth c ls H locs X G hl
  have hx := X.1
  have hb := X.2.1
  have hL10 : ∀ (n : Nat) (v2 : Int32) (M : Mm) (H : Heap) (locs : List Loc) (ls : Array Slot), gS D s 91 ad (shC ad cy) H locs M → lv_has ls 3 [(0, .ref (ad 55)), (1, .int (v1)), (2, .int (v2))] → l_X4_settle_10 K v1 n v2 M → gWk p l e 2 43 s m ([.ref (ad 55), .int (v1)] : List Value).toArray below meth c H locs (gQv D 91 ad (shC ad cy) K) 91 ad 10 ls [] := by
    intro n10
    induction n10 with
    | zero =>
      intro v2 M H locs ls G hl h
      exact False.elim h
    | succ n10 ih10 =>
      intro v2 M H locs ls G hl h
      rw [l_X4_settle_10] at h
      refine lv_iload_n hx hb dX4_settle_10 rfl (lv_at hl 2 rfl) ?_
      refine lv_if_lt (tgt := 37) hx hb dX4_settle_11 (by decide) (fun c1 => ?_) (fun c1 => ?_)
      · have h := h.1 c1
        exact gq_vret X G h dX4_settle_37
      have h := h.2 c1
      refine lv_iload_n hx hb dX4_settle_14 rfl (lv_at hl 1 rfl) ?_
      refine lv_iload_n hx hb dX4_settle_15 rfl (lv_at hl 2 rfl) ?_
      refine gq_calli G (gc_SN (rest := []) X hl.1 G (m_X11_bitOf hI  h) cw_X11_bitOf nm_60 qw_22_0 rfl rfl (Nat.le_of_ble_eq_true rfl) ⟨Nat.le_of_ble_eq_true rfl, Nat.le_of_ble_eq_true rfl⟩ ⟨Nat.le_refl _, Nat.le_refl _⟩ dX4_settle_16) (fun r3 M2 H locs G h => ?_)
      refine lv_iconst (v := (1)) hx hb dX4_settle_19 (by decide) ?_
      refine lv_icmp_ne (tgt := 31) hx hb dX4_settle_20 (by decide) (fun c4 => ?_) (fun c4 => ?_)
      · have h := h.2 c4
        refine lv_iinc (v := v2 + (-1)) (lv' := [(2, .int (v2 + (-1))), (0, .ref (ad 55)), (1, .int (v1))]) hx hb dX4_settle_31 hl (k := 2) rfl rfl (by decide) rfl (fun ls hl => ?_)
        refine lv_goto (tgt := 10) hx hb dX4_settle_34 (by decide) ?_
        exact ih10 (v2 + (-1)) M2 H locs ls G  (lv_sub hl [1, 2, 0] rfl) h
      have h := h.1 c4
      refine lv_aload_n hx hb dX4_settle_23 rfl (lv_at hl 0 rfl) ?_
      refine gf_Fore_later X G qw_4_21 dX4_settle_24 ?_
      refine lv_iload_n hx hb dX4_settle_27 rfl (lv_at hl 2 rfl) ?_
      refine gq_callv G (gc_VN (C := RX6) (rest := []) X hl.1 G (m_X6_moveUpIfFree hI isPap_56 h) cw_X6_moveUpIfFree nm_61 qw_34_14 qw_34_15 (ob_Paper isPap_56) rfl rfl rfl rfl (Nat.le_of_ble_eq_true rfl) ⟨Nat.le_of_ble_eq_true rfl, Nat.le_of_ble_eq_true rfl⟩ ⟨Nat.le_refl _, Nat.le_refl _⟩ dX4_settle_28) (fun M5 H locs G h => ?_)
      refine lv_iinc (v := v2 + (-1)) (lv' := [(2, .int (v2 + (-1))), (0, .ref (ad 55)), (1, .int (v1))]) hx hb dX4_settle_31 hl (k := 2) rfl rfl (by decide) rfl (fun ls hl => ?_)
      refine lv_goto (tgt := 10) hx hb dX4_settle_34 (by decide) ?_
      exact ih10 (v2 + (-1)) M5 H locs ls G  (lv_sub hl [1, 2, 0] rfl) h
  unfold f_X4_settle at h
  refine lv_aload_n hx hb dX4_settle_0 rfl (lv_at hl 0 rfl) ?_
  refine gf_Fore_later X G qw_4_21 dX4_settle_1 ?_
  refine gfN_Paper_wallCount X G isPap_56 nf_27 dX4_settle_4 ?_
  refine lv_iconst (v := (1)) hx hb dX4_settle_7 (by decide) ?_
  refine lv_isub hx hb dX4_settle_8 ?_
  refine lv_istore_n (lv' := [(2, .int ((M 56 9) - 1)), (0, .ref (ad 55)), (1, .int (v1))]) hx hb dX4_settle_9 rfl hl (by decide) rfl (fun ls hl => ?_)
  obtain ⟨n6, h⟩ := h
  exact hL10   n6 ((M 56 9) - 1) M H locs ls G  (lv_sub hl [1, 2, 0] rfl) h
def l_X4_tenthsThatKnow_6 (K : Int32 → Mm → Prop) (v1 : Int32) (v2 : Int32) (v3 : Int32) (v4 : Int32) : Nat → Int32 → Int32 → Mm → Prop
  | 0, _, _, _ => False
  | n + 1, v5, v6, M => ((((1 <<< ((M 26 9) &&& 31) : Int32) ≤ v6 : Prop) → K (v5) M) ∧ (¬ ((1 <<< ((M 26 9) &&& 31) : Int32) ≤ v6 : Prop) → (f_X4_tenthsOf (v6) (v4) M (fun r3 M2 => ((((r3 : Int32) = 0 : Prop) → (l_X4_tenthsThatKnow_6 K v1 v2 v3 v4 n) (v5) (v6 + 1) M2) ∧ (¬ ((r3 : Int32) = 0 : Prop) → (f_X6_become 56 26 M2 (fun M5 => (f_X4_settle (v6) M5 (fun M6 => (f_X4_goOn (v1) (v3) M6 (fun M7 => (vp_in (v1) 5 ∧ (f_X11_bitOf (M7 (56 + 6) (v1 : Int32).toNatClampNeg) (v2) M7 (fun r10 M9 => (l_X4_tenthsThatKnow_6 K v1 v2 v3 v4 n) (v5 + (r3 * r10)) (v6 + 1) M9)))))))))))))))
def f_X4_tenthsThatKnow (v1 : Int32) (v2 : Int32) (v3 : Int32) (v4 : Int32) (M : Mm) (K : Int32 → Mm → Prop) : Prop := ∃ z, l_X4_tenthsThatKnow_6 K (v1) (v2) (v3) (v4) z (0) (0) M
set_option maxHeartbeats 4000000 in
set_option maxRecDepth 100000 in
theorem m_X4_tenthsThatKnow (hI : gI 91 ad) {v1 : Int32} {v2 : Int32} {v3 : Int32} {v4 : Int32} {M : Mm} {K : Int32 → Mm → Prop} (h : f_X4_tenthsThatKnow v1 v2 v3 v4 M K) : gM l D cy 91 ad (shC ad cy) yX4_tenthsThatKnow cX4_tenthsThatKnow 8 (some .int) 5 112 [.ref (ad 55), .int (v1), .int (v2), .int (v3), .int (v4)] M (gQi D 91 ad (shC ad cy) K) := by
  refine gM.of (own := RX4) (lv := [(0, .ref (ad 55)), (1, .int (v1)), (2, .int (v2)), (3, .int (v3)), (4, .int (v4))]) (by decide) rfl hI (Nat.le_of_ble_eq_true rfl) rfl ?_
  intro p e s m below meth c ls H locs X G hl
  have hx := X.1
  have hb := X.2.1
  have hL6 : ∀ (n : Nat) (v5 : Int32) (v6 : Int32) (M : Mm) (H : Heap) (locs : List Loc) (ls : Array Slot), gS D s 91 ad (shC ad cy) H locs M → lv_has ls 8 [(0, .ref (ad 55)), (1, .int (v1)), (2, .int (v2)), (3, .int (v3)), (4, .int (v4)), (5, .int (v5)), (6, .int (v6))] → l_X4_tenthsThatKnow_6 K v1 v2 v3 v4 n v5 v6 M → gWk p l e 5 112 s m ([.ref (ad 55), .int (v1), .int (v2), .int (v3), .int (v4)] : List Value).toArray below meth c H locs (gQi D 91 ad (shC ad cy) K) 91 ad 6 ls [] := by
    intro n6
    induction n6 with
    | zero =>
      intro v5 v6 M H locs ls G hl h
      exact False.elim h
    | succ n6 ih6 =>
      intro v5 v6 M H locs ls G hl h
      rw [l_X4_tenthsThatKnow_6] at h
      refine lv_iload hx hb dX4_tenthsThatKnow_6 (lv_at hl 6 rfl) ?_
      refine lv_iconst (v := (1)) hx hb dX4_tenthsThatKnow_8 (by decide) ?_
      refine lv_aload_n hx hb dX4_tenthsThatKnow_9 rfl (lv_at hl 0 rfl) ?_
      refine gf_Fore_now X G qw_4_19 dX4_tenthsThatKnow_10 ?_
      refine gfN_Paper_wallCount X G isPap_26 nf_27 dX4_tenthsThatKnow_13 ?_
      refine lv_ishl hx hb dX4_tenthsThatKnow_16 ?_
      refine lv_icmp_ge (tgt := 88) hx hb dX4_tenthsThatKnow_17 (by decide) (fun c1 => ?_) (fun c1 => ?_)
      · have h := h.1 c1
        refine lv_iload hx hb dX4_tenthsThatKnow_88 (lv_at hl 5 rfl) ?_
        exact gq_iret X G h dX4_tenthsThatKnow_90
      have h := h.2 c1
      refine lv_aload_n hx hb dX4_tenthsThatKnow_20 rfl (lv_at hl 0 rfl) ?_
      refine lv_iload hx hb dX4_tenthsThatKnow_21 (lv_at hl 6 rfl) ?_
      refine lv_iload hx hb dX4_tenthsThatKnow_23 (lv_at hl 4 rfl) ?_
      refine gq_calli G (gc_V (C := RX4) (rest := []) X hl.1 G (m_X4_tenthsOf hI  h) cw_X4_tenthsOf qw_34_6 qw_34_7 qw_34_8 ob_Fore rfl rfl rfl rfl (Nat.le_of_ble_eq_true rfl) ⟨Nat.le_of_ble_eq_true rfl, Nat.le_of_ble_eq_true rfl⟩ ⟨Nat.le_refl _, Nat.le_refl _⟩ dX4_tenthsThatKnow_25) (fun r3 M2 H locs G h => ?_)
      refine lv_istore (lv' := [(7, .int (r3)), (0, .ref (ad 55)), (1, .int (v1)), (2, .int (v2)), (3, .int (v3)), (4, .int (v4)), (5, .int (v5)), (6, .int (v6))]) hx hb dX4_tenthsThatKnow_28 hl (by decide) rfl (fun ls hl => ?_)
      refine lv_iload hx hb dX4_tenthsThatKnow_30 (lv_at hl 0 rfl) ?_
      refine lv_if_ne (tgt := 38) hx hb dX4_tenthsThatKnow_32 (by decide) (fun c4 => ?_) (fun c4 => ?_)
      · have h := h.2 c4
        refine lv_aload_n hx hb dX4_tenthsThatKnow_38 rfl (lv_at hl 1 rfl) ?_
        refine gf_Fore_later X G qw_4_21 dX4_tenthsThatKnow_39 ?_
        refine lv_aload_n hx hb dX4_tenthsThatKnow_42 rfl (lv_at hl 1 rfl) ?_
        refine gf_Fore_now X G qw_4_19 dX4_tenthsThatKnow_43 ?_
        refine gq_callv G (gc_VN (C := RX6) (rest := []) X hl.1 G (m_X6_become hI isPap_56 isPap_26 h) cw_X6_become nm_46 qw_13_14 qw_13_15 (ob_Paper isPap_56) rfl rfl rfl rfl (Nat.le_of_ble_eq_true rfl) ⟨Nat.le_of_ble_eq_true rfl, Nat.le_of_ble_eq_true rfl⟩ ⟨Nat.le_refl _, Nat.le_refl _⟩ dX4_tenthsThatKnow_46) (fun M5 H locs G h => ?_)
        refine lv_aload_n hx hb dX4_tenthsThatKnow_49 rfl (lv_at hl 1 rfl) ?_
        refine lv_iload hx hb dX4_tenthsThatKnow_50 (lv_at hl 7 rfl) ?_
        refine gq_callv G (gc_V (C := RX4) (rest := []) X hl.1 G (m_X4_settle hI  h) cw_X4_settle qw_34_10 qw_34_11 qw_34_12 ob_Fore rfl rfl rfl rfl (Nat.le_of_ble_eq_true rfl) ⟨Nat.le_of_ble_eq_true rfl, Nat.le_of_ble_eq_true rfl⟩ ⟨Nat.le_refl _, Nat.le_refl _⟩ dX4_tenthsThatKnow_52) (fun M6 H locs G h => ?_)
        refine lv_aload_n hx hb dX4_tenthsThatKnow_55 rfl (lv_at hl 1 rfl) ?_
        refine lv_iload_n hx hb dX4_tenthsThatKnow_56 rfl (lv_at hl 2 rfl) ?_
        refine lv_iload_n hx hb dX4_tenthsThatKnow_57 rfl (lv_at hl 4 rfl) ?_
        refine gq_callv G (gc_V (C := RX4) (rest := []) X hl.1 G (m_X4_goOn hI  h) cw_X4_goOn qw_26_12 qw_26_13 qw_26_14 ob_Fore rfl rfl rfl rfl (Nat.le_of_ble_eq_true rfl) ⟨Nat.le_of_ble_eq_true rfl, Nat.le_of_ble_eq_true rfl⟩ ⟨Nat.le_refl _, Nat.le_refl _⟩ dX4_tenthsThatKnow_58) (fun M7 H locs G h => ?_)
        refine lv_iload hx hb dX4_tenthsThatKnow_61 (lv_at hl 6 rfl) ?_
        refine lv_iload hx hb dX4_tenthsThatKnow_63 (lv_at hl 0 rfl) ?_
        refine lv_aload_n hx hb dX4_tenthsThatKnow_65 rfl (lv_at hl 1 rfl) ?_
        refine gf_Fore_later X G qw_4_21 dX4_tenthsThatKnow_66 ?_
        refine gfN_Paper_knows X G isPap_56 nf_19 dX4_tenthsThatKnow_69 ?_
        refine lv_iload_n hx hb dX4_tenthsThatKnow_72 rfl (lv_at hl 2 rfl) ?_
        obtain ⟨q8, h⟩ := h
        refine gq_iald X G (ar_Paper_knows isPap_56) q8 dX4_tenthsThatKnow_73 ?_
        refine lv_iload_n hx hb dX4_tenthsThatKnow_74 rfl (lv_at hl 3 rfl) ?_
        refine gq_calli G (gc_SN (rest := [.int (r3), .int (v5)]) X hl.1 G (m_X11_bitOf hI  h) cw_X11_bitOf nm_60 qw_22_0 rfl rfl (Nat.le_of_ble_eq_true rfl) ⟨Nat.le_of_ble_eq_true rfl, Nat.le_of_ble_eq_true rfl⟩ ⟨Nat.le_refl _, Nat.le_refl _⟩ dX4_tenthsThatKnow_75) (fun r10 M9 H locs G h => ?_)
        refine lv_imul hx hb dX4_tenthsThatKnow_78 ?_
        refine lv_iadd hx hb dX4_tenthsThatKnow_79 ?_
        refine lv_istore (lv' := [(5, .int (v5 + (r3 * r10))), (7, .int (r3)), (0, .ref (ad 55)), (1, .int (v1)), (2, .int (v2)), (3, .int (v3)), (4, .int (v4)), (6, .int (v6))]) hx hb dX4_tenthsThatKnow_80 hl (by decide) rfl (fun ls hl => ?_)
        refine lv_iinc (v := v6 + 1) (lv' := [(6, .int (v6 + 1)), (5, .int (v5 + (r3 * r10))), (7, .int (r3)), (0, .ref (ad 55)), (1, .int (v1)), (2, .int (v2)), (3, .int (v3)), (4, .int (v4))]) hx hb dX4_tenthsThatKnow_82 hl (k := 7) rfl rfl (by decide) rfl (fun ls hl => ?_)
        refine lv_goto (tgt := 6) hx hb dX4_tenthsThatKnow_85 (by decide) ?_
        exact ih6 (v5 + (r3 * r10)) (v6 + 1) M9 H locs ls G  (lv_sub hl [3, 4, 5, 6, 7, 1, 0] rfl) h
      have h := h.1 c4
      refine lv_goto (tgt := 82) hx hb dX4_tenthsThatKnow_35 (by decide) ?_
      refine lv_iinc (v := v6 + 1) (lv' := [(6, .int (v6 + 1)), (7, .int (r3)), (0, .ref (ad 55)), (1, .int (v1)), (2, .int (v2)), (3, .int (v3)), (4, .int (v4)), (5, .int (v5))]) hx hb dX4_tenthsThatKnow_82 hl (k := 7) rfl rfl (by decide) rfl (fun ls hl => ?_)
      refine lv_goto (tgt := 6) hx hb dX4_tenthsThatKnow_85 (by decide) ?_
      exact ih6 (v5) (v6 + 1) M2 H locs ls G  (lv_sub hl [2, 3, 4, 5, 6, 7, 0] rfl) h
  unfold f_X4_tenthsThatKnow at h
  refine lv_iconst (v := (0)) hx hb dX4_tenthsThatKnow_0 (by decide) ?_
  refine lv_istore (lv' := [(5, .int (0)), (0, .ref (ad 55)), (1, .int (v1)), (2, .int (v2)), (3, .int (v3)), (4, .int (v4))]) hx hb dX4_tenthsThatKnow_1 hl (by decide) rfl (fun ls hl => ?_)
  refine lv_iconst (v := (0)) hx hb dX4_tenthsThatKnow_3 (by decide) ?_
  refine lv_istore (lv' := [(6, .int (0)), (5, .int (0)), (0, .ref (ad 55)), (1, .int (v1)), (2, .int (v2)), (3, .int (v3)), (4, .int (v4))]) hx hb dX4_tenthsThatKnow_4 hl (by decide) rfl (fun ls hl => ?_)
  obtain ⟨n11, h⟩ := h
  exact hL6   n11 (0) (0) M H locs ls G  (lv_sub hl [2, 3, 4, 5, 6, 1, 0] rfl) h
def l_X4_tenthsInAll_4 (K : Int32 → Mm → Prop) : Nat → Int32 → Int32 → Mm → Prop
  | 0, _, _, _ => False
  | n + 1, v1, v2, M => ((((M 26 9 : Int32) ≤ v2 : Prop) → K (v1) M) ∧ (¬ ((M 26 9 : Int32) ≤ v2 : Prop) → (l_X4_tenthsInAll_4 K n) (v1 * 10) (v2 + 1) M))
def f_X4_tenthsInAll  (M : Mm) (K : Int32 → Mm → Prop) : Prop := ∃ z, l_X4_tenthsInAll_4 K z (1) (0) M
set_option maxHeartbeats 4000000 in
set_option maxRecDepth 100000 in
theorem m_X4_tenthsInAll (hI : gI 91 ad)  {M : Mm} {K : Int32 → Mm → Prop} (h : f_X4_tenthsInAll  M K) : gM l D cy 91 ad (shC ad cy) yX4_tenthsInAll cX4_tenthsInAll 3 (some .int) 0 0 [.ref (ad 55)] M (gQi D 91 ad (shC ad cy) K) := by
  refine gM.of (own := RX4) (lv := [(0, .ref (ad 55))]) (by decide) rfl hI (Nat.le_of_ble_eq_true rfl) rfl ?_
  intro p e s m below meth c ls H locs X G hl
  have hx := X.1
  have hb := X.2.1
  have hL4 : ∀ (n : Nat) (v1 : Int32) (v2 : Int32) (M : Mm) (H : Heap) (locs : List Loc) (ls : Array Slot), gS D s 91 ad (shC ad cy) H locs M → lv_has ls 3 [(0, .ref (ad 55)), (1, .int (v1)), (2, .int (v2))] → l_X4_tenthsInAll_4 K n v1 v2 M → gWk p l e 0 0 s m ([.ref (ad 55)] : List Value).toArray below meth c H locs (gQi D 91 ad (shC ad cy) K) 91 ad 4 ls [] := by
    intro n4
    induction n4 with
    | zero =>
      intro v1 v2 M H locs ls G hl h
      exact False.elim h
    | succ n4 ih4 =>
      intro v1 v2 M H locs ls G hl h
      rw [l_X4_tenthsInAll_4] at h
      refine lv_iload_n hx hb dX4_tenthsInAll_4 rfl (lv_at hl 2 rfl) ?_
      refine lv_aload_n hx hb dX4_tenthsInAll_5 rfl (lv_at hl 0 rfl) ?_
      refine gf_Fore_now X G qw_4_19 dX4_tenthsInAll_6 ?_
      refine gfN_Paper_wallCount X G isPap_26 nf_27 dX4_tenthsInAll_9 ?_
      refine lv_icmp_ge (tgt := 26) hx hb dX4_tenthsInAll_12 (by decide) (fun c1 => ?_) (fun c1 => ?_)
      · have h := h.1 c1
        refine lv_iload_n hx hb dX4_tenthsInAll_26 rfl (lv_at hl 1 rfl) ?_
        exact gq_iret X G h dX4_tenthsInAll_27
      have h := h.2 c1
      refine lv_iload_n hx hb dX4_tenthsInAll_15 rfl (lv_at hl 1 rfl) ?_
      refine lv_bipush (v := (10)) hx hb dX4_tenthsInAll_16 (by decide) ?_
      refine lv_imul hx hb dX4_tenthsInAll_18 ?_
      refine lv_istore_n (lv' := [(1, .int (v1 * 10)), (0, .ref (ad 55)), (2, .int (v2))]) hx hb dX4_tenthsInAll_19 rfl hl (by decide) rfl (fun ls hl => ?_)
      refine lv_iinc (v := v2 + 1) (lv' := [(2, .int (v2 + 1)), (1, .int (v1 * 10)), (0, .ref (ad 55))]) hx hb dX4_tenthsInAll_20 hl (k := 2) rfl rfl (by decide) rfl (fun ls hl => ?_)
      refine lv_goto (tgt := 4) hx hb dX4_tenthsInAll_23 (by decide) ?_
      exact ih4 (v1 * 10) (v2 + 1) M H locs ls G  (lv_sub hl [2, 1, 0] rfl) h
  unfold f_X4_tenthsInAll at h
  refine lv_iconst (v := (1)) hx hb dX4_tenthsInAll_0 (by decide) ?_
  refine lv_istore_n (lv' := [(1, .int (1)), (0, .ref (ad 55))]) hx hb dX4_tenthsInAll_1 rfl hl (by decide) rfl (fun ls hl => ?_)
  refine lv_iconst (v := (0)) hx hb dX4_tenthsInAll_2 (by decide) ?_
  refine lv_istore_n (lv' := [(2, .int (0)), (1, .int (1)), (0, .ref (ad 55))]) hx hb dX4_tenthsInAll_3 rfl hl (by decide) rfl (fun ls hl => ?_)
  obtain ⟨n2, h⟩ := h
  exact hL4   n2 (1) (0) M H locs ls G  (lv_sub hl [2, 1, 0] rfl) h
def l_X11_commonDivisor_7 (K : Int32 → Mm → Prop) : Nat → Int32 → Int32 → Int32 → Mm → Prop
  | 0, _, _, _, _ => False
  | n + 1, v2, v3, v4, M => ((((64 : Int32) ≤ v4 : Prop) → K (v2) M) ∧ (¬ ((64 : Int32) ≤ v4 : Prop) → ((((v3 : Int32) = 0 : Prop) → K (v2) M) ∧ (¬ ((v3 : Int32) = 0 : Prop) → (¬ v3 = 0 ∧ (l_X11_commonDivisor_7 K n) (v3) (v2 - v2 / v3 * v3) (v4 + 1) M)))))
def f_X11_commonDivisor (v0 : Int32) (v1 : Int32) (M : Mm) (K : Int32 → Mm → Prop) : Prop := ∃ z, l_X11_commonDivisor_7 K z (v0) (v1) (0) M
set_option maxHeartbeats 4000000 in
set_option maxRecDepth 100000 in
theorem m_X11_commonDivisor (hI : gI 91 ad) {v0 : Int32} {v1 : Int32} {M : Mm} {K : Int32 → Mm → Prop} (h : f_X11_commonDivisor v0 v1 M K) : gM l D cy 91 ad (shC ad cy) yX11_commonDivisor cX11_commonDivisor 6 (some .int) 0 0 [.int (v0), .int (v1)] M (gQi D 91 ad (shC ad cy) K) := by
  refine gM.of (own := RX11) (lv := [(0, .int (v0)), (1, .int (v1))]) (by decide) rfl hI (Nat.le_of_ble_eq_true rfl) rfl ?_
  intro p e s m below meth c ls H locs X G hl
  have hx := X.1
  have hb := X.2.1
  have hL7 : ∀ (n : Nat) (v2 : Int32) (v3 : Int32) (v4 : Int32) (M : Mm) (H : Heap) (locs : List Loc) (ls : Array Slot), gS D s 91 ad (shC ad cy) H locs M → lv_has ls 6 [(2, .int (v2)), (3, .int (v3)), (4, .int (v4))] → l_X11_commonDivisor_7 K n v2 v3 v4 M → gWk p l e 0 0 s m ([.int (v0), .int (v1)] : List Value).toArray below meth c H locs (gQi D 91 ad (shC ad cy) K) 91 ad 7 ls [] := by
    intro n7
    induction n7 with
    | zero =>
      intro v2 v3 v4 M H locs ls G hl h
      exact False.elim h
    | succ n7 ih7 =>
      intro v2 v3 v4 M H locs ls G hl h
      rw [l_X11_commonDivisor_7] at h
      refine lv_iload hx hb dX11_commonDivisor_7 (lv_at hl 2 rfl) ?_
      refine lv_bipush (v := (64)) hx hb dX11_commonDivisor_9 (by decide) ?_
      refine lv_icmp_ge (tgt := 34) hx hb dX11_commonDivisor_11 (by decide) (fun c1 => ?_) (fun c1 => ?_)
      · have h := h.1 c1
        refine lv_iload_n hx hb dX11_commonDivisor_34 rfl (lv_at hl 0 rfl) ?_
        exact gq_iret X G h dX11_commonDivisor_35
      have h := h.2 c1
      refine lv_iload_n hx hb dX11_commonDivisor_14 rfl (lv_at hl 1 rfl) ?_
      refine lv_if_eq (tgt := 34) hx hb dX11_commonDivisor_15 (by decide) (fun c2 => ?_) (fun c2 => ?_)
      · have h := h.1 c2
        refine lv_iload_n hx hb dX11_commonDivisor_34 rfl (lv_at hl 0 rfl) ?_
        exact gq_iret X G h dX11_commonDivisor_35
      have h := h.2 c2
      refine lv_iload_n hx hb dX11_commonDivisor_18 rfl (lv_at hl 0 rfl) ?_
      refine lv_iload_n hx hb dX11_commonDivisor_19 rfl (lv_at hl 1 rfl) ?_
      obtain ⟨q3, h⟩ := h
      refine lv_irem hx hb dX11_commonDivisor_20 q3 ?_
      refine lv_istore (lv' := [(5, .int (v2 - v2 / v3 * v3)), (2, .int (v2)), (3, .int (v3)), (4, .int (v4))]) hx hb dX11_commonDivisor_21 hl (by decide) rfl (fun ls hl => ?_)
      refine lv_iload_n hx hb dX11_commonDivisor_23 rfl (lv_at hl 2 rfl) ?_
      refine lv_istore_n (lv' := [(2, .int (v3)), (5, .int (v2 - v2 / v3 * v3)), (3, .int (v3)), (4, .int (v4))]) hx hb dX11_commonDivisor_24 rfl hl (by decide) rfl (fun ls hl => ?_)
      refine lv_iload hx hb dX11_commonDivisor_25 (lv_at hl 1 rfl) ?_
      refine lv_istore_n (lv' := [(3, .int (v2 - v2 / v3 * v3)), (2, .int (v3)), (5, .int (v2 - v2 / v3 * v3)), (4, .int (v4))]) hx hb dX11_commonDivisor_27 rfl hl (by decide) rfl (fun ls hl => ?_)
      refine lv_iinc (v := v4 + 1) (lv' := [(4, .int (v4 + 1)), (3, .int (v2 - v2 / v3 * v3)), (2, .int (v3)), (5, .int (v2 - v2 / v3 * v3))]) hx hb dX11_commonDivisor_28 hl (k := 3) rfl rfl (by decide) rfl (fun ls hl => ?_)
      refine lv_goto (tgt := 7) hx hb dX11_commonDivisor_31 (by decide) ?_
      exact ih7 (v3) (v2 - v2 / v3 * v3) (v4 + 1) M H locs ls G  (lv_sub hl [2, 1, 0] rfl) h
  unfold f_X11_commonDivisor at h
  refine lv_iload_n hx hb dX11_commonDivisor_0 rfl (lv_at hl 0 rfl) ?_
  refine lv_istore_n (lv' := [(2, .int (v0)), (0, .int (v0)), (1, .int (v1))]) hx hb dX11_commonDivisor_1 rfl hl (by decide) rfl (fun ls hl => ?_)
  refine lv_iload_n hx hb dX11_commonDivisor_2 rfl (lv_at hl 2 rfl) ?_
  refine lv_istore_n (lv' := [(3, .int (v1)), (2, .int (v0)), (0, .int (v0)), (1, .int (v1))]) hx hb dX11_commonDivisor_3 rfl hl (by decide) rfl (fun ls hl => ?_)
  refine lv_iconst (v := (0)) hx hb dX11_commonDivisor_4 (by decide) ?_
  refine lv_istore (lv' := [(4, .int (0)), (3, .int (v1)), (2, .int (v0)), (0, .int (v0)), (1, .int (v1))]) hx hb dX11_commonDivisor_5 hl (by decide) rfl (fun ls hl => ?_)
  obtain ⟨n4, h⟩ := h
  exact hL7   n4 (v0) (v1) (0) M H locs ls G  (lv_sub hl [2, 1, 0] rfl) h
def f_X11_settled (v1 : Int32) (v2 : Int32) (v3 : Int32) (v4 : Int32) (v5 : Int32) (M : Mm) (K : Int32 → Mm → Prop) : Prop := (f_X6_hasFolk 26 (v1) M (fun r2 M1 => ((((r2 : Int32) = 0 : Prop) → K (-1000001) M1) ∧ (¬ ((r2 : Int32) = 0 : Prop) → (f_X6_hasCell 26 (v2) M1 (fun r5 M4 => ((((r5 : Int32) = 0 : Prop) → K (-1000001) M4) ∧ (¬ ((r5 : Int32) = 0 : Prop) → ((((v3 : Int32) < 0 : Prop) → K (-1000001) M4) ∧ (¬ ((v3 : Int32) < 0 : Prop) → ((((v3 : Int32) ≤ 20 : Prop) → ((((v4 : Int32) < 0 : Prop) → K (-1000001) M4) ∧ (¬ ((v4 : Int32) < 0 : Prop) → ((((10 : Int32) < v4 : Prop) → K (-1000001) M4) ∧ (¬ ((10 : Int32) < v4 : Prop) → (f_X11_isBit (v5) M4 (fun r12 M11 => ((((r12 : Int32) = 0 : Prop) → K (-1000001) M11) ∧ (¬ ((r12 : Int32) = 0 : Prop) → (f_X4_tenthsThatKnow (v1) (v2) (v3) (v4) M11 (fun r15 M14 => (f_X4_tenthsInAll  M14 (fun r17 M16 => (f_X11_commonDivisor (r15) (r17) M16 (fun r19 M18 => ((((1 : Int32) ≤ r19 : Prop) → ((((v5 : Int32) = 0 : Prop) → (¬ r19 = 0 ∧ K (r15 / r19) M18)) ∧ (¬ ((v5 : Int32) = 0 : Prop) → (¬ r19 = 0 ∧ K (r17 / r19) M18)))) ∧ (¬ ((1 : Int32) ≤ r19 : Prop) → K (-1000000) M18))))))))))))))))) ∧ (¬ ((v3 : Int32) ≤ 20 : Prop) → K (-1000001) M4))))))))))))
set_option maxHeartbeats 4000000 in
set_option maxRecDepth 100000 in
theorem m_X11_settled (hI : gI 91 ad) {v1 : Int32} {v2 : Int32} {v3 : Int32} {v4 : Int32} {v5 : Int32} {M : Mm} {K : Int32 → Mm → Prop} (h : f_X11_settled v1 v2 v3 v4 v5 M K) : gM l D cy 91 ad (shC ad cy) yX11_settled cX11_settled 9 (some .int) 6 139 [.ref (ad 0), .int (v1), .int (v2), .int (v3), .int (v4), .int (v5)] M (gQi D 91 ad (shC ad cy) K) := by
  refine gM.of (own := RX11) (lv := [(0, .ref (ad 0)), (1, .int (v1)), (2, .int (v2)), (3, .int (v3)), (4, .int (v4)), (5, .int (v5))]) (by decide) rfl hI (Nat.le_of_ble_eq_true rfl) rfl ?_
  intro p e s m below meth c ls H locs X G hl
  have hx := X.1
  have hb := X.2.1
  unfold f_X11_settled at h
  refine lv_aload_n hx hb dX11_settled_0 rfl (lv_at hl 0 rfl) ?_
  refine gf_PH_now X G qw_2_16 dX11_settled_1 ?_
  refine lv_iload_n hx hb dX11_settled_4 rfl (lv_at hl 1 rfl) ?_
  refine gq_calli G (gc_VN (C := RX6) (rest := []) X hl.1 G (m_X6_hasFolk hI isPap_26 h) cw_X6_hasFolk nm_34 qw_22_17 qw_22_18 (ob_Paper isPap_26) rfl rfl rfl rfl (Nat.le_of_ble_eq_true rfl) ⟨Nat.le_of_ble_eq_true rfl, Nat.le_of_ble_eq_true rfl⟩ ⟨Nat.le_refl _, Nat.le_refl _⟩ dX11_settled_5) (fun r2 M1 H locs G h => ?_)
  refine lv_if_eq (tgt := 32) hx hb dX11_settled_8 (by decide) (fun c3 => ?_) (fun c3 => ?_)
  · have h := h.1 c3
    refine gq_ldc (v := (-1000001)) X qw_6_5 dX11_settled_32 ?_
    exact gq_iret X G h dX11_settled_34
  have h := h.2 c3
  refine lv_aload_n hx hb dX11_settled_11 rfl (lv_at hl 0 rfl) ?_
  refine gf_PH_now X G qw_2_16 dX11_settled_12 ?_
  refine lv_iload_n hx hb dX11_settled_15 rfl (lv_at hl 2 rfl) ?_
  refine gq_calli G (gc_VN (C := RX6) (rest := []) X hl.1 G (m_X6_hasCell hI isPap_26 h) cw_X6_hasCell nm_33 qw_21_20 qw_21_21 (ob_Paper isPap_26) rfl rfl rfl rfl (Nat.le_of_ble_eq_true rfl) ⟨Nat.le_of_ble_eq_true rfl, Nat.le_of_ble_eq_true rfl⟩ ⟨Nat.le_refl _, Nat.le_refl _⟩ dX11_settled_16) (fun r5 M4 H locs G h => ?_)
  refine lv_if_eq (tgt := 32) hx hb dX11_settled_19 (by decide) (fun c6 => ?_) (fun c6 => ?_)
  · have h := h.1 c6
    refine gq_ldc (v := (-1000001)) X qw_6_5 dX11_settled_32 ?_
    exact gq_iret X G h dX11_settled_34
  have h := h.2 c6
  refine lv_iload_n hx hb dX11_settled_22 rfl (lv_at hl 3 rfl) ?_
  refine lv_if_lt (tgt := 32) hx hb dX11_settled_23 (by decide) (fun c7 => ?_) (fun c7 => ?_)
  · have h := h.1 c7
    refine gq_ldc (v := (-1000001)) X qw_6_5 dX11_settled_32 ?_
    exact gq_iret X G h dX11_settled_34
  have h := h.2 c7
  refine lv_iload_n hx hb dX11_settled_26 rfl (lv_at hl 3 rfl) ?_
  refine lv_bipush (v := (20)) hx hb dX11_settled_27 (by decide) ?_
  refine lv_icmp_le (tgt := 35) hx hb dX11_settled_29 (by decide) (fun c8 => ?_) (fun c8 => ?_)
  · have h := h.1 c8
    refine lv_iload hx hb dX11_settled_35 (lv_at hl 4 rfl) ?_
    refine lv_if_lt (tgt := 55) hx hb dX11_settled_37 (by decide) (fun c9 => ?_) (fun c9 => ?_)
    · have h := h.1 c9
      refine gq_ldc (v := (-1000001)) X qw_6_5 dX11_settled_55 ?_
      exact gq_iret X G h dX11_settled_57
    have h := h.2 c9
    refine lv_iload hx hb dX11_settled_40 (lv_at hl 4 rfl) ?_
    refine lv_bipush (v := (10)) hx hb dX11_settled_42 (by decide) ?_
    refine lv_icmp_gt (tgt := 55) hx hb dX11_settled_44 (by decide) (fun c10 => ?_) (fun c10 => ?_)
    · have h := h.1 c10
      refine gq_ldc (v := (-1000001)) X qw_6_5 dX11_settled_55 ?_
      exact gq_iret X G h dX11_settled_57
    have h := h.2 c10
    refine lv_iload hx hb dX11_settled_47 (lv_at hl 5 rfl) ?_
    refine gq_calli G (gc_S (rest := []) X hl.1 G (m_X11_isBit hI  h) cw_X11_isBit qw_21_2 qw_21_3 rfl rfl (Nat.le_of_ble_eq_true rfl) ⟨Nat.le_of_ble_eq_true rfl, Nat.le_of_ble_eq_true rfl⟩ ⟨Nat.le_refl _, Nat.le_refl _⟩ dX11_settled_49) (fun r12 M11 H locs G h => ?_)
    refine lv_if_ne (tgt := 58) hx hb dX11_settled_52 (by decide) (fun c13 => ?_) (fun c13 => ?_)
    · have h := h.2 c13
      refine lv_aload_n hx hb dX11_settled_58 rfl (lv_at hl 0 rfl) ?_
      refine gf_PH_foretold X G qw_2_22 dX11_settled_59 ?_
      refine lv_iload_n hx hb dX11_settled_62 rfl (lv_at hl 1 rfl) ?_
      refine lv_iload_n hx hb dX11_settled_63 rfl (lv_at hl 2 rfl) ?_
      refine lv_iload_n hx hb dX11_settled_64 rfl (lv_at hl 3 rfl) ?_
      refine lv_iload hx hb dX11_settled_65 (lv_at hl 4 rfl) ?_
      refine gq_calli G (gc_VN (C := RX4) (rest := []) X hl.1 G (m_X4_tenthsThatKnow hI  h) cw_X4_tenthsThatKnow nm_59 qw_34_3 qw_34_4 ob_Fore rfl rfl rfl rfl (Nat.le_of_ble_eq_true rfl) ⟨Nat.le_of_ble_eq_true rfl, Nat.le_of_ble_eq_true rfl⟩ ⟨Nat.le_refl _, Nat.le_refl _⟩ dX11_settled_67) (fun r15 M14 H locs G h => ?_)
      refine lv_istore (lv' := [(6, .int (r15)), (0, .ref (ad 0)), (1, .int (v1)), (2, .int (v2)), (3, .int (v3)), (4, .int (v4)), (5, .int (v5))]) hx hb dX11_settled_70 hl (by decide) rfl (fun ls hl => ?_)
      refine lv_aload_n hx hb dX11_settled_72 rfl (lv_at hl 1 rfl) ?_
      refine gf_PH_foretold X G qw_2_22 dX11_settled_73 ?_
      refine gq_calli G (gc_VN (C := RX4) (rest := []) X hl.1 G (m_X4_tenthsInAll hI  h) cw_X4_tenthsInAll nm_62 qw_34_19 qw_34_20 ob_Fore rfl rfl rfl rfl (Nat.le_of_ble_eq_true rfl) ⟨Nat.le_of_ble_eq_true rfl, Nat.le_of_ble_eq_true rfl⟩ ⟨Nat.le_refl _, Nat.le_refl _⟩ dX11_settled_76) (fun r17 M16 H locs G h => ?_)
      refine lv_istore (lv' := [(7, .int (r17)), (6, .int (r15)), (0, .ref (ad 0)), (1, .int (v1)), (2, .int (v2)), (3, .int (v3)), (4, .int (v4)), (5, .int (v5))]) hx hb dX11_settled_79 hl (by decide) rfl (fun ls hl => ?_)
      refine lv_iload hx hb dX11_settled_81 (lv_at hl 1 rfl) ?_
      refine lv_iload hx hb dX11_settled_83 (lv_at hl 0 rfl) ?_
      refine gq_calli G (gc_S (rest := []) X hl.1 G (m_X11_commonDivisor hI  h) cw_X11_commonDivisor qw_34_22 qw_34_23 rfl rfl (Nat.le_of_ble_eq_true rfl) ⟨Nat.le_of_ble_eq_true rfl, Nat.le_of_ble_eq_true rfl⟩ ⟨Nat.le_refl _, Nat.le_refl _⟩ dX11_settled_85) (fun r19 M18 H locs G h => ?_)
      refine lv_istore (lv' := [(8, .int (r19)), (7, .int (r17)), (6, .int (r15)), (0, .ref (ad 0)), (1, .int (v1)), (2, .int (v2)), (3, .int (v3)), (4, .int (v4)), (5, .int (v5))]) hx hb dX11_settled_88 hl (by decide) rfl (fun ls hl => ?_)
      refine lv_iload hx hb dX11_settled_90 (lv_at hl 0 rfl) ?_
      refine lv_iconst (v := (1)) hx hb dX11_settled_92 (by decide) ?_
      refine lv_icmp_ge (tgt := 100) hx hb dX11_settled_93 (by decide) (fun c20 => ?_) (fun c20 => ?_)
      · have h := h.1 c20
        refine lv_iload hx hb dX11_settled_100 (lv_at hl 8 rfl) ?_
        refine lv_if_ne (tgt := 113) hx hb dX11_settled_102 (by decide) (fun c21 => ?_) (fun c21 => ?_)
        · have h := h.2 c21
          refine lv_iload hx hb dX11_settled_113 (lv_at hl 1 rfl) ?_
          refine lv_iload hx hb dX11_settled_115 (lv_at hl 0 rfl) ?_
          obtain ⟨q22, h⟩ := h
          refine lv_idiv hx hb dX11_settled_117 q22 ?_
          exact gq_iret X G h dX11_settled_118
        have h := h.1 c21
        refine lv_iload hx hb dX11_settled_105 (lv_at hl 2 rfl) ?_
        refine lv_iload hx hb dX11_settled_107 (lv_at hl 0 rfl) ?_
        obtain ⟨q23, h⟩ := h
        refine lv_idiv hx hb dX11_settled_109 q23 ?_
        refine lv_goto (tgt := 118) hx hb dX11_settled_110 (by decide) ?_
        exact gq_iret X G h dX11_settled_118
      have h := h.2 c20
      refine gq_ldcw (v := (-1000000)) X qw_29_6 dX11_settled_96 ?_
      exact gq_iret X G h dX11_settled_99
    have h := h.1 c13
    refine gq_ldc (v := (-1000001)) X qw_6_5 dX11_settled_55 ?_
    exact gq_iret X G h dX11_settled_57
  have h := h.2 c8
  refine gq_ldc (v := (-1000001)) X qw_6_5 dX11_settled_32 ?_
  exact gq_iret X G h dX11_settled_34
def f_X4_afterYears_146 (K : Int32 → Mm → Prop) (s0 : Int32) (M : Mm) : Prop := (f_J6_bitCount_0f7a4 (s0) M (fun r2 M1 => K (r2) M1))
def f_X4_afterYears_112 (K : Int32 → Mm → Prop) (k18 : Int64 → Int32 → Mm → Prop) (v1 : Int32) (v3 : Int32) (v4 : Int64) (v6 : Int32) (M : Mm) : Prop := (f_X6_passDay 56 M (fun M3 => k18 (v4) (v6 + 1) M3))
def f_X4_afterYears_72 (K : Int32 → Mm → Prop) (k18 : Int64 → Int32 → Mm → Prop) (v1 : Int32) (v3 : Int32) (v4 : Int64) (v6 : Int32) (M : Mm) : Prop := ((((M 56 9 : Int32) ≤ 0 : Prop) → f_X4_afterYears_112 K k18 (v1) (v3) (v4) (v6) M) ∧ (¬ ((M 56 9 : Int32) ≤ 0 : Prop) → ((((lg_cmp (v4 - v4 / 5 * 5) (0) : Int32) = 0 : Prop) → (¬ ((M 56 9 : Int32).toInt64) = 0 ∧ (f_X6_moveUpIfFree 56 ((v4 - v4 / ((M 56 9 : Int32).toInt64) * ((M 56 9 : Int32).toInt64)).toInt32) M (fun M7 => f_X4_afterYears_112 K k18 (v1) (v3) (v4) (v6) M7)))) ∧ (¬ ((lg_cmp (v4 - v4 / 5 * 5) (0) : Int32) = 0 : Prop) → f_X4_afterYears_112 K k18 (v1) (v3) (v4) (v6) M))))
def l_X4_afterYears_18 (K : Int32 → Mm → Prop) (v1 : Int32) (v3 : Int32) : Nat → Int64 → Int32 → Mm → Prop
  | 0, _, _, _ => False
  | n + 1, v4, v6, M => ((((v1 : Int32) ≤ v6 : Prop) → ((((v3 : Int32) = 0 : Prop) → (f_X6_knownByAnybody 56 M (fun r11 M10 => f_X4_afterYears_146 K (r11) M10))) ∧ (¬ ((v3 : Int32) = 0 : Prop) → f_X4_afterYears_146 K (M 56 12) M))) ∧ (¬ ((v1 : Int32) ≤ v6 : Prop) → ((((M 56 8 : Int32) ≤ 0 : Prop) → f_X4_afterYears_72 K (fun a0 a1 a => (l_X4_afterYears_18 K v1 v3 n) a0 a1 a) (v1) (v3) ((v4 * 16807) - (v4 * 16807) / 2147483647 * 2147483647) (v6) M) ∧ (¬ ((M 56 8 : Int32) ≤ 0 : Prop) → (¬ ((M 56 8 : Int32).toInt64) = 0 ∧ (∀ M14 : Mm, M14 = gU M 56 12 ((M 56 12) ^^^ (1 <<< (((((v4 * 16807) - (v4 * 16807) / 2147483647 * 2147483647) - ((v4 * 16807) - (v4 * 16807) / 2147483647 * 2147483647) / ((M 56 8 : Int32).toInt64) * ((M 56 8 : Int32).toInt64)).toInt32) &&& 31))) → f_X4_afterYears_72 K (fun a0 a1 a => (l_X4_afterYears_18 K v1 v3 n) a0 a1 a) (v1) (v3) ((v4 * 16807) - (v4 * 16807) / 2147483647 * 2147483647) (v6) M14))))))
def f_X4_afterYears (v1 : Int32) (v2 : Int32) (v3 : Int32) (M : Mm) (K : Int32 → Mm → Prop) : Prop := (f_X6_become 56 26 M (fun M16 => ∃ z, l_X4_afterYears_18 K (v1) (v3) z ((v2 : Int32).toInt64) (0) M16))
set_option maxHeartbeats 4000000 in
set_option maxRecDepth 100000 in
theorem m_X4_afterYears (hI : gI 91 ad) {v1 : Int32} {v2 : Int32} {v3 : Int32} {M : Mm} {K : Int32 → Mm → Prop} (h : f_X4_afterYears v1 v2 v3 M K) : gM l D cy 91 ad (shC ad cy) yX4_afterYears cX4_afterYears 7 (some .int) 5 110 [.ref (ad 55), .int (v1), .int (v2), .int (v3)] M (gQi D 91 ad (shC ad cy) K) := by
  refine gM.of (own := RX4) (lv := [(0, .ref (ad 55)), (1, .int (v1)), (2, .int (v2)), (3, .int (v3))]) (by decide) rfl hI (Nat.le_of_ble_eq_true rfl) rfl ?_
  intro p e s m below meth c ls H locs X G hl
  have hx := X.1
  have hb := X.2.1
  have hJ146 : ∀ (s0 : Int32) (M : Mm) (H : Heap) (locs : List Loc) (ls : Array Slot), gS D s 91 ad (shC ad cy) H locs M → lv_has ls 7 [] → f_X4_afterYears_146 K s0 M → gWk p l e 5 110 s m ([.ref (ad 55), .int (v1), .int (v2), .int (v3)] : List Value).toArray below meth c H locs (gQi D 91 ad (shC ad cy) K) 91 ad 146 ls [.int (s0)] := by
    intro s0 M H locs ls G hl h
    unfold f_X4_afterYears_146 at h
    refine gq_calli G (gc_S (rest := []) X hl.1 G (m_J6_bitCount_0f7a4 hI  h) cw_J6_bitCount_0f7a4 qw_33_14 qw_28_13 rfl rfl (Nat.le_of_ble_eq_true rfl) ⟨Nat.le_of_ble_eq_true rfl, Nat.le_of_ble_eq_true rfl⟩ ⟨Nat.le_refl _, Nat.le_refl _⟩ dX4_afterYears_146) (fun r2 M1 H locs G h => ?_)
    exact gq_iret X G h dX4_afterYears_149
  have hL18 : ∀ (n : Nat) (v4 : Int64) (v6 : Int32) (M : Mm) (H : Heap) (locs : List Loc) (ls : Array Slot), gS D s 91 ad (shC ad cy) H locs M → lv_has ls 7 [(0, .ref (ad 55)), (1, .int (v1)), (3, .int (v3)), (4, .long (v4)), (6, .int (v6))] → l_X4_afterYears_18 K v1 v3 n v4 v6 M → gWk p l e 5 110 s m ([.ref (ad 55), .int (v1), .int (v2), .int (v3)] : List Value).toArray below meth c H locs (gQi D 91 ad (shC ad cy) K) 91 ad 18 ls [] := by
    intro n18
    induction n18 with
    | zero =>
      intro v4 v6 M H locs ls G hl h
      exact False.elim h
    | succ n18 ih18 =>
      have hJ112 : ∀ (v4 : Int64) (v6 : Int32) (M : Mm) (H : Heap) (locs : List Loc) (ls : Array Slot), gS D s 91 ad (shC ad cy) H locs M → lv_has ls 7 [(0, .ref (ad 55)), (1, .int (v1)), (3, .int (v3)), (4, .long (v4)), (6, .int (v6))] → f_X4_afterYears_112 K (fun a0 a1 a => (l_X4_afterYears_18 K v1 v3 n18) a0 a1 a) v1 v3 v4 v6 M → gWk p l e 5 110 s m ([.ref (ad 55), .int (v1), .int (v2), .int (v3)] : List Value).toArray below meth c H locs (gQi D 91 ad (shC ad cy) K) 91 ad 112 ls [] := by
        intro v4 v6 M H locs ls G hl h
        unfold f_X4_afterYears_112 at h
        refine lv_aload_n hx hb dX4_afterYears_112 rfl (lv_at hl 0 rfl) ?_
        refine gf_Fore_later X G qw_4_21 dX4_afterYears_113 ?_
        refine gq_callv G (gc_VN (C := RX6) (rest := []) X hl.1 G (m_X6_passDay hI isPap_56 h) cw_X6_passDay nm_64 qw_17_4 qw_17_5 (ob_Paper isPap_56) rfl rfl rfl rfl (Nat.le_of_ble_eq_true rfl) ⟨Nat.le_of_ble_eq_true rfl, Nat.le_of_ble_eq_true rfl⟩ ⟨Nat.le_refl _, Nat.le_refl _⟩ dX4_afterYears_116) (fun M3 H locs G h => ?_)
        refine lv_iinc (v := v6 + 1) (lv' := [(6, .int (v6 + 1)), (0, .ref (ad 55)), (1, .int (v1)), (3, .int (v3)), (4, .long (v4))]) hx hb dX4_afterYears_119 hl (k := 4) rfl rfl (by decide) rfl (fun ls hl => ?_)
        refine lv_goto (tgt := 18) hx hb dX4_afterYears_122 (by decide) ?_
        exact ih18 (v4) (v6 + 1) M3 H locs ls G  (lv_sub hl [1, 2, 3, 4, 0] rfl) h
      have hJ72 : ∀ (v4 : Int64) (v6 : Int32) (M : Mm) (H : Heap) (locs : List Loc) (ls : Array Slot), gS D s 91 ad (shC ad cy) H locs M → lv_has ls 7 [(0, .ref (ad 55)), (1, .int (v1)), (3, .int (v3)), (4, .long (v4)), (6, .int (v6))] → f_X4_afterYears_72 K (fun a0 a1 a => (l_X4_afterYears_18 K v1 v3 n18) a0 a1 a) v1 v3 v4 v6 M → gWk p l e 5 110 s m ([.ref (ad 55), .int (v1), .int (v2), .int (v3)] : List Value).toArray below meth c H locs (gQi D 91 ad (shC ad cy) K) 91 ad 72 ls [] := by
        intro v4 v6 M H locs ls G hl h
        unfold f_X4_afterYears_72 at h
        refine lv_aload_n hx hb dX4_afterYears_72 rfl (lv_at hl 0 rfl) ?_
        refine gf_Fore_later X G qw_4_21 dX4_afterYears_73 ?_
        refine gfN_Paper_wallCount X G isPap_56 nf_27 dX4_afterYears_76 ?_
        refine lv_if_le (tgt := 112) hx hb dX4_afterYears_79 (by decide) (fun c4 => ?_) (fun c4 => ?_)
        · have h := h.1 c4
          exact hJ112 (v4) (v6)  M H locs ls G  (lv_sub hl [0, 1, 2, 3, 4] rfl) h
        have h := h.2 c4
        refine lv_lload hx hb dX4_afterYears_82 (lv_at hl 3 rfl) ?_
        refine gq_ldc2 (v := (5)) X qw_35_15 dX4_afterYears_84 ?_
        refine lv_lrem hx hb dX4_afterYears_87 (by decide) ?_
        refine lv_lconst (v := 0) hx hb dX4_afterYears_88 (by decide) ?_
        refine W.lcmp hx hb dX4_afterYears_89 ?_
        refine lv_if_ne (tgt := 112) hx hb dX4_afterYears_90 (by decide) (fun c5 => ?_) (fun c5 => ?_)
        · have h := h.2 c5
          exact hJ112 (v4) (v6)  M H locs ls G  (lv_sub hl [0, 1, 2, 3, 4] rfl) h
        have h := h.1 c5
        refine lv_aload_n hx hb dX4_afterYears_93 rfl (lv_at hl 0 rfl) ?_
        refine gf_Fore_later X G qw_4_21 dX4_afterYears_94 ?_
        refine lv_lload hx hb dX4_afterYears_97 (lv_at hl 3 rfl) ?_
        refine lv_aload_n hx hb dX4_afterYears_99 rfl (lv_at hl 0 rfl) ?_
        refine gf_Fore_later X G qw_4_21 dX4_afterYears_100 ?_
        refine gfN_Paper_wallCount X G isPap_56 nf_27 dX4_afterYears_103 ?_
        refine lv_i2l hx hb dX4_afterYears_106 rfl ?_
        obtain ⟨q6, h⟩ := h
        refine lv_lrem hx hb dX4_afterYears_107 q6 ?_
        refine lv_l2i hx hb dX4_afterYears_108 rfl ?_
        refine gq_callv G (gc_VN (C := RX6) (rest := []) X hl.1 G (m_X6_moveUpIfFree hI isPap_56 h) cw_X6_moveUpIfFree nm_61 qw_34_14 qw_34_15 (ob_Paper isPap_56) rfl rfl rfl rfl (Nat.le_of_ble_eq_true rfl) ⟨Nat.le_of_ble_eq_true rfl, Nat.le_of_ble_eq_true rfl⟩ ⟨Nat.le_refl _, Nat.le_refl _⟩ dX4_afterYears_109) (fun M7 H locs G h => ?_)
        exact hJ112 (v4) (v6)  M7 H locs ls G  (lv_sub hl [0, 1, 2, 3, 4] rfl) h
      intro v4 v6 M H locs ls G hl h
      rw [l_X4_afterYears_18] at h
      refine lv_iload hx hb dX4_afterYears_18 (lv_at hl 4 rfl) ?_
      refine lv_iload_n hx hb dX4_afterYears_20 rfl (lv_at hl 1 rfl) ?_
      refine lv_icmp_ge (tgt := 125) hx hb dX4_afterYears_21 (by decide) (fun c8 => ?_) (fun c8 => ?_)
      · have h := h.1 c8
        refine lv_iload_n hx hb dX4_afterYears_125 rfl (lv_at hl 2 rfl) ?_
        refine lv_if_ne (tgt := 139) hx hb dX4_afterYears_126 (by decide) (fun c9 => ?_) (fun c9 => ?_)
        · have h := h.2 c9
          refine lv_aload_n hx hb dX4_afterYears_139 rfl (lv_at hl 0 rfl) ?_
          refine gf_Fore_later X G qw_4_21 dX4_afterYears_140 ?_
          refine gfN_Paper_faded X G isPap_56 nf_39 dX4_afterYears_143 ?_
          exact hJ146  (M 56 12) M H locs ls G  (lv_sub hl [] rfl) h
        have h := h.1 c9
        refine lv_aload_n hx hb dX4_afterYears_129 rfl (lv_at hl 0 rfl) ?_
        refine gf_Fore_later X G qw_4_21 dX4_afterYears_130 ?_
        refine gq_calli G (gc_VN (C := RX6) (rest := []) X hl.1 G (m_X6_knownByAnybody hI isPap_56 h) cw_X6_knownByAnybody nm_65 qw_19_7 qw_19_8 (ob_Paper isPap_56) rfl rfl rfl rfl (Nat.le_of_ble_eq_true rfl) ⟨Nat.le_of_ble_eq_true rfl, Nat.le_of_ble_eq_true rfl⟩ ⟨Nat.le_refl _, Nat.le_refl _⟩ dX4_afterYears_133) (fun r11 M10 H locs G h => ?_)
        refine lv_goto (tgt := 146) hx hb dX4_afterYears_136 (by decide) ?_
        exact hJ146  (r11) M10 H locs ls G  (lv_sub hl [] rfl) h
      have h := h.2 c8
      refine lv_lload hx hb dX4_afterYears_24 (lv_at hl 3 rfl) ?_
      refine gq_ldc2 (v := (16807)) X qw_35_13 dX4_afterYears_26 ?_
      refine lv_lmul hx hb dX4_afterYears_29 ?_
      refine gq_ldc2 (v := (2147483647)) X qw_35_14 dX4_afterYears_30 ?_
      refine lv_lrem hx hb dX4_afterYears_33 (by decide) ?_
      refine lv_lstore (lv' := [(4, .long ((v4 * 16807) - (v4 * 16807) / 2147483647 * 2147483647)), (0, .ref (ad 55)), (1, .int (v1)), (3, .int (v3)), (6, .int (v6))]) hx hb dX4_afterYears_34 hl (by decide) rfl (fun ls hl => ?_)
      refine lv_aload_n hx hb dX4_afterYears_36 rfl (lv_at hl 1 rfl) ?_
      refine gf_Fore_later X G qw_4_21 dX4_afterYears_37 ?_
      refine gfN_Paper_cells X G isPap_56 nf_25 dX4_afterYears_40 ?_
      refine lv_if_le (tgt := 72) hx hb dX4_afterYears_43 (by decide) (fun c12 => ?_) (fun c12 => ?_)
      · have h := h.1 c12
        exact hJ72 ((v4 * 16807) - (v4 * 16807) / 2147483647 * 2147483647) (v6)  M H locs ls G  (lv_sub hl [1, 2, 3, 0, 4] rfl) h
      have h := h.2 c12
      refine lv_aload_n hx hb dX4_afterYears_46 rfl (lv_at hl 1 rfl) ?_
      refine gf_Fore_later X G qw_4_21 dX4_afterYears_47 ?_
      refine lv_dup hx hb dX4_afterYears_50 rfl ?_
      refine gfN_Paper_faded X G isPap_56 nf_39 dX4_afterYears_51 ?_
      refine lv_iconst (v := (1)) hx hb dX4_afterYears_54 (by decide) ?_
      refine lv_lload hx hb dX4_afterYears_55 (lv_at hl 0 rfl) ?_
      refine lv_aload_n hx hb dX4_afterYears_57 rfl (lv_at hl 1 rfl) ?_
      refine gf_Fore_later X G qw_4_21 dX4_afterYears_58 ?_
      refine gfN_Paper_cells X G isPap_56 nf_25 dX4_afterYears_61 ?_
      refine lv_i2l hx hb dX4_afterYears_64 rfl ?_
      obtain ⟨q13, h⟩ := h
      refine lv_lrem hx hb dX4_afterYears_65 q13 ?_
      refine lv_l2i hx hb dX4_afterYears_66 rfl ?_
      refine lv_ishl hx hb dX4_afterYears_67 ?_
      refine lv_ixor hx hb dX4_afterYears_68 ?_
      refine gpN_Paper_faded X G isPap_56 nf_39 dX4_afterYears_69 (fun M14 H locs e15 G => ?_)
      have h := h M14 e15
      exact hJ72 ((v4 * 16807) - (v4 * 16807) / 2147483647 * 2147483647) (v6)  M14 H locs ls G  (lv_sub hl [1, 2, 3, 0, 4] rfl) h
  unfold f_X4_afterYears at h
  refine lv_aload_n hx hb dX4_afterYears_0 rfl (lv_at hl 0 rfl) ?_
  refine gf_Fore_later X G qw_4_21 dX4_afterYears_1 ?_
  refine lv_aload_n hx hb dX4_afterYears_4 rfl (lv_at hl 0 rfl) ?_
  refine gf_Fore_now X G qw_4_19 dX4_afterYears_5 ?_
  refine gq_callv G (gc_VN (C := RX6) (rest := []) X hl.1 G (m_X6_become hI isPap_56 isPap_26 h) cw_X6_become nm_46 qw_13_14 qw_13_15 (ob_Paper isPap_56) rfl rfl rfl rfl (Nat.le_of_ble_eq_true rfl) ⟨Nat.le_of_ble_eq_true rfl, Nat.le_of_ble_eq_true rfl⟩ ⟨Nat.le_refl _, Nat.le_refl _⟩ dX4_afterYears_8) (fun M16 H locs G h => ?_)
  refine lv_iload_n hx hb dX4_afterYears_11 rfl (lv_at hl 2 rfl) ?_
  refine lv_i2l hx hb dX4_afterYears_12 rfl ?_
  refine lv_lstore (lv' := [(4, .long ((v2 : Int32).toInt64)), (0, .ref (ad 55)), (1, .int (v1)), (2, .int (v2)), (3, .int (v3))]) hx hb dX4_afterYears_13 hl (by decide) rfl (fun ls hl => ?_)
  refine lv_iconst (v := (0)) hx hb dX4_afterYears_15 (by decide) ?_
  refine lv_istore (lv' := [(6, .int (0)), (4, .long ((v2 : Int32).toInt64)), (0, .ref (ad 55)), (1, .int (v1)), (2, .int (v2)), (3, .int (v3))]) hx hb dX4_afterYears_16 hl (by decide) rfl (fun ls hl => ?_)
  obtain ⟨n17, h⟩ := h
  exact hL18   n17 ((v2 : Int32).toInt64) (0) M16 H locs ls G  (lv_sub hl [2, 3, 5, 1, 0] rfl) h
def f_X11_drawn (v1 : Int32) (v2 : Int32) (v3 : Int32) (M : Mm) (K : Int32 → Mm → Prop) : Prop := (f_X11_noPaper  M (fun r2 M1 => ((((r2 : Int32) = 0 : Prop) → ((((v1 : Int32) < 0 : Prop) → K (-1000001) M1) ∧ (¬ ((v1 : Int32) < 0 : Prop) → ((((60 : Int32) < v1 : Prop) → K (-1000001) M1) ∧ (¬ ((60 : Int32) < v1 : Prop) → ((((v2 : Int32) < 1 : Prop) → K (-1000001) M1) ∧ (¬ ((v2 : Int32) < 1 : Prop) → ((((999999 : Int32) < v2 : Prop) → K (-1000001) M1) ∧ (¬ ((999999 : Int32) < v2 : Prop) → (f_X11_isBit (v3) M1 (fun r9 M8 => ((((r9 : Int32) = 0 : Prop) → K (-1000001) M8) ∧ (¬ ((r9 : Int32) = 0 : Prop) → (f_X4_afterYears (v1) (v2) (v3) M8 (fun r12 M11 => K (r12) M11))))))))))))))) ∧ (¬ ((r2 : Int32) = 0 : Prop) → K (-1000002) M1))))
set_option maxHeartbeats 4000000 in
set_option maxRecDepth 100000 in
theorem m_X11_drawn (hI : gI 91 ad) {v1 : Int32} {v2 : Int32} {v3 : Int32} {M : Mm} {K : Int32 → Mm → Prop} (h : f_X11_drawn v1 v2 v3 M K) : gM l D cy 91 ad (shC ad cy) yX11_drawn cX11_drawn 4 (some .int) 6 136 [.ref (ad 0), .int (v1), .int (v2), .int (v3)] M (gQi D 91 ad (shC ad cy) K) := by
  refine gM.of (own := RX11) (lv := [(0, .ref (ad 0)), (1, .int (v1)), (2, .int (v2)), (3, .int (v3))]) (by decide) rfl hI (Nat.le_of_ble_eq_true rfl) rfl ?_
  intro p e s m below meth c ls H locs X G hl
  have hx := X.1
  have hb := X.2.1
  unfold f_X11_drawn at h
  refine lv_aload_n hx hb dX11_drawn_0 rfl (lv_at hl 0 rfl) ?_
  refine gq_calli G (gc_V (C := RX11) (rest := []) X hl.1 G (m_X11_noPaper hI  h) cw_X11_noPaper qw_16_17 qw_16_18 qw_16_19 ob_PH rfl rfl rfl rfl (Nat.le_of_ble_eq_true rfl) ⟨Nat.le_of_ble_eq_true rfl, Nat.le_of_ble_eq_true rfl⟩ ⟨Nat.le_refl _, Nat.le_refl _⟩ dX11_drawn_1) (fun r2 M1 H locs G h => ?_)
  refine lv_if_eq (tgt := 10) hx hb dX11_drawn_4 (by decide) (fun c3 => ?_) (fun c3 => ?_)
  · have h := h.1 c3
    refine lv_iload_n hx hb dX11_drawn_10 rfl (lv_at hl 1 rfl) ?_
    refine lv_if_lt (tgt := 39) hx hb dX11_drawn_11 (by decide) (fun c4 => ?_) (fun c4 => ?_)
    · have h := h.1 c4
      refine gq_ldc (v := (-1000001)) X qw_6_5 dX11_drawn_39 ?_
      exact gq_iret X G h dX11_drawn_41
    have h := h.2 c4
    refine lv_iload_n hx hb dX11_drawn_14 rfl (lv_at hl 1 rfl) ?_
    refine lv_bipush (v := (60)) hx hb dX11_drawn_15 (by decide) ?_
    refine lv_icmp_gt (tgt := 39) hx hb dX11_drawn_17 (by decide) (fun c5 => ?_) (fun c5 => ?_)
    · have h := h.1 c5
      refine gq_ldc (v := (-1000001)) X qw_6_5 dX11_drawn_39 ?_
      exact gq_iret X G h dX11_drawn_41
    have h := h.2 c5
    refine lv_iload_n hx hb dX11_drawn_20 rfl (lv_at hl 2 rfl) ?_
    refine lv_iconst (v := (1)) hx hb dX11_drawn_21 (by decide) ?_
    refine lv_icmp_lt (tgt := 39) hx hb dX11_drawn_22 (by decide) (fun c6 => ?_) (fun c6 => ?_)
    · have h := h.1 c6
      refine gq_ldc (v := (-1000001)) X qw_6_5 dX11_drawn_39 ?_
      exact gq_iret X G h dX11_drawn_41
    have h := h.2 c6
    refine lv_iload_n hx hb dX11_drawn_25 rfl (lv_at hl 2 rfl) ?_
    refine gq_ldcw (v := (999999)) X qw_35_9 dX11_drawn_26 ?_
    refine lv_icmp_gt (tgt := 39) hx hb dX11_drawn_29 (by decide) (fun c7 => ?_) (fun c7 => ?_)
    · have h := h.1 c7
      refine gq_ldc (v := (-1000001)) X qw_6_5 dX11_drawn_39 ?_
      exact gq_iret X G h dX11_drawn_41
    have h := h.2 c7
    refine lv_iload_n hx hb dX11_drawn_32 rfl (lv_at hl 3 rfl) ?_
    refine gq_calli G (gc_S (rest := []) X hl.1 G (m_X11_isBit hI  h) cw_X11_isBit qw_21_2 qw_21_3 rfl rfl (Nat.le_of_ble_eq_true rfl) ⟨Nat.le_of_ble_eq_true rfl, Nat.le_of_ble_eq_true rfl⟩ ⟨Nat.le_refl _, Nat.le_refl _⟩ dX11_drawn_33) (fun r9 M8 H locs G h => ?_)
    refine lv_if_ne (tgt := 42) hx hb dX11_drawn_36 (by decide) (fun c10 => ?_) (fun c10 => ?_)
    · have h := h.2 c10
      refine lv_aload_n hx hb dX11_drawn_42 rfl (lv_at hl 0 rfl) ?_
      refine gf_PH_foretold X G qw_2_22 dX11_drawn_43 ?_
      refine lv_iload_n hx hb dX11_drawn_46 rfl (lv_at hl 1 rfl) ?_
      refine lv_iload_n hx hb dX11_drawn_47 rfl (lv_at hl 2 rfl) ?_
      refine lv_iload_n hx hb dX11_drawn_48 rfl (lv_at hl 3 rfl) ?_
      refine gq_calli G (gc_VN (C := RX4) (rest := []) X hl.1 G (m_X4_afterYears hI  h) cw_X4_afterYears nm_63 qw_35_10 qw_35_11 ob_Fore rfl rfl rfl rfl (Nat.le_of_ble_eq_true rfl) ⟨Nat.le_of_ble_eq_true rfl, Nat.le_of_ble_eq_true rfl⟩ ⟨Nat.le_refl _, Nat.le_refl _⟩ dX11_drawn_49) (fun r12 M11 H locs G h => ?_)
      exact gq_iret X G h dX11_drawn_52
    have h := h.1 c10
    refine gq_ldc (v := (-1000001)) X qw_6_5 dX11_drawn_39 ?_
    exact gq_iret X G h dX11_drawn_41
  have h := h.2 c3
  refine gq_ldc (v := (-1000002)) X qw_16_16 dX11_drawn_7 ?_
  exact gq_iret X G h dX11_drawn_9
def f_X11_imageAt (v1 : Int32) (M : Mm) (K : Option Nat → Mm → Prop) : Prop := ((((v1 : Int32) < 0 : Prop) → K none M) ∧ (¬ ((v1 : Int32) < 0 : Prop) → ((((2 : Int32) ≤ v1 : Prop) → K none M) ∧ (¬ ((2 : Int32) ≤ v1 : Prop) → (vp_in (v1) 2 ∧ K (some (41 + 7 * (v1 : Int32).toNatClampNeg)) M)))))
set_option maxHeartbeats 4000000 in
set_option maxRecDepth 100000 in
theorem m_X11_imageAt (hI : gI 91 ad) {v1 : Int32} {M : Mm} {K : Option Nat → Mm → Prop} (h : f_X11_imageAt v1 M K) : gM l D cy 91 ad (shC ad cy) yX11_imageAt cX11_imageAt 2 (some (.object "PaperHouses$Paper")) 0 0 [.ref (ad 0), .int (v1)] M (gQe D 91 ad (shC ad cy) K) := by
  refine gM.of (own := RX11) (lv := [(0, .ref (ad 0)), (1, .int (v1))]) (by decide) rfl hI (Nat.le_of_ble_eq_true rfl) rfl ?_
  intro p e s m below meth c ls H locs X G hl
  have hx := X.1
  have hb := X.2.1
  unfold f_X11_imageAt at h
  refine lv_iload_n hx hb dX11_imageAt_0 rfl (lv_at hl 1 rfl) ?_
  refine lv_if_lt (tgt := 22) hx hb dX11_imageAt_1 (by decide) (fun c1 => ?_) (fun c1 => ?_)
  · have h := h.1 c1
    refine lv_null hx hb dX11_imageAt_22 ?_
    exact gq_aretN X G h dX11_imageAt_23
  have h := h.2 c1
  refine lv_iload_n hx hb dX11_imageAt_4 rfl (lv_at hl 1 rfl) ?_
  refine lv_aload_n hx hb dX11_imageAt_5 rfl (lv_at hl 0 rfl) ?_
  refine gf_PH_images X G qw_2_18 dX11_imageAt_6 ?_
  refine gl_images X G dX11_imageAt_9 ?_
  refine lv_icmp_ge (tgt := 22) hx hb dX11_imageAt_10 (by decide) (fun c2 => ?_) (fun c2 => ?_)
  · have h := h.1 c2
    refine lv_null hx hb dX11_imageAt_22 ?_
    exact gq_aretN X G h dX11_imageAt_23
  have h := h.2 c2
  refine lv_aload_n hx hb dX11_imageAt_13 rfl (lv_at hl 0 rfl) ?_
  refine gf_PH_images X G qw_2_18 dX11_imageAt_14 ?_
  refine lv_iload_n hx hb dX11_imageAt_17 rfl (lv_at hl 1 rfl) ?_
  obtain ⟨q3, h⟩ := h
  refine ga_images X G q3 dX11_imageAt_18 ?_
  refine lv_goto (tgt := 23) hx hb dX11_imageAt_19 (by decide) ?_
  exact gq_aret X G h dX11_imageAt_23
def f_X11_image (v1 : Int32) (M : Mm) (K : Int32 → Mm → Prop) : Prop := (f_X11_imageAt (v1) M (fun o8 M1 => (o8 = none → K (-1000001) M1) ∧ (∀ p2 : Nat, o8 = some p2 → (f_X11_noPaper  M1 (fun r4 M3 => ((((r4 : Int32) = 0 : Prop) → (isPap p2 ∧ (f_X6_become p2 26 M3 (fun M7 => K (1) M7)))) ∧ (¬ ((r4 : Int32) = 0 : Prop) → K (-1000002) M3)))))))
set_option maxHeartbeats 4000000 in
set_option maxRecDepth 100000 in
theorem m_X11_image (hI : gI 91 ad) {v1 : Int32} {M : Mm} {K : Int32 → Mm → Prop} (h : f_X11_image v1 M K) : gM l D cy 91 ad (shC ad cy) yX11_image cX11_image 3 (some .int) 2 85 [.ref (ad 0), .int (v1)] M (gQi D 91 ad (shC ad cy) K) := by
  refine gM.of (own := RX11) (lv := [(0, .ref (ad 0)), (1, .int (v1))]) (by decide) rfl hI (Nat.le_of_ble_eq_true rfl) rfl ?_
  intro p e s m below meth c ls H locs X G hl
  have hx := X.1
  have hb := X.2.1
  unfold f_X11_image at h
  refine lv_aload_n hx hb dX11_image_0 rfl (lv_at hl 0 rfl) ?_
  refine lv_iload_n hx hb dX11_image_1 rfl (lv_at hl 1 rfl) ?_
  refine gq_calle G (gc_V (C := RX11) (rest := []) X hl.1 G (m_X11_imageAt hI  h) cw_X11_imageAt qw_36_3 qw_36_4 qw_36_5 ob_PH rfl rfl rfl rfl (Nat.le_of_ble_eq_true rfl) ⟨Nat.le_of_ble_eq_true rfl, Nat.le_of_ble_eq_true rfl⟩ ⟨Nat.le_refl _, Nat.le_refl _⟩ dX11_image_2) (fun M1 H locs G h => ?_) (fun p2 M1 H locs G h => ?_)
  · have h := h.1 rfl
    refine lv_astore_nN (lv' := [(2, .null), (0, .ref (ad 0)), (1, .int (v1))]) hx hb dX11_image_5 rfl hl (by decide) rfl (fun ls hl => ?_)
    refine lv_aload_nN hx hb dX11_image_6 rfl (lv_at hl 0 rfl) ?_
    refine lv_ifnonnullN hx hb dX11_image_7 ?_
    refine gq_ldc (v := (-1000001)) X qw_6_5 dX11_image_10 ?_
    exact gq_iret X G h dX11_image_12
  have h := h.2 p2 rfl
  refine lv_astore_n (lv' := [(2, .ref (ad p2)), (0, .ref (ad 0)), (1, .int (v1))]) hx hb dX11_image_5 rfl hl (by decide) rfl (fun ls hl => ?_)
  refine lv_aload_n hx hb dX11_image_6 rfl (lv_at hl 0 rfl) ?_
  refine lv_ifnonnull (tgt := 13) hx hb dX11_image_7 (by decide) ?_
  refine lv_aload_n hx hb dX11_image_13 rfl (lv_at hl 1 rfl) ?_
  refine gq_calli G (gc_V (C := RX11) (rest := []) X hl.1 G (m_X11_noPaper hI  h) cw_X11_noPaper qw_16_17 qw_16_18 qw_16_19 ob_PH rfl rfl rfl rfl (Nat.le_of_ble_eq_true rfl) ⟨Nat.le_of_ble_eq_true rfl, Nat.le_of_ble_eq_true rfl⟩ ⟨Nat.le_refl _, Nat.le_refl _⟩ dX11_image_14) (fun r4 M3 H locs G h => ?_)
  refine lv_if_eq (tgt := 23) hx hb dX11_image_17 (by decide) (fun c5 => ?_) (fun c5 => ?_)
  · have h := h.1 c5
    refine lv_aload_n hx hb dX11_image_23 rfl (lv_at hl 0 rfl) ?_
    refine lv_aload_n hx hb dX11_image_24 rfl (lv_at hl 1 rfl) ?_
    refine gf_PH_now X G qw_2_16 dX11_image_25 ?_
    obtain ⟨q6, h⟩ := h
    refine gq_callv G (gc_VN (C := RX6) (rest := []) X hl.1 G (m_X6_become hI q6 isPap_26 h) cw_X6_become nm_26 qw_13_14 qw_13_15 (ob_Paper q6) rfl rfl rfl rfl (Nat.le_of_ble_eq_true rfl) ⟨Nat.le_of_ble_eq_true rfl, Nat.le_of_ble_eq_true rfl⟩ ⟨Nat.le_refl _, Nat.le_refl _⟩ dX11_image_28) (fun M7 H locs G h => ?_)
    refine lv_iconst (v := (1)) hx hb dX11_image_31 (by decide) ?_
    exact gq_iret X G h dX11_image_32
  have h := h.2 c5
  refine gq_ldc (v := (-1000002)) X qw_16_16 dX11_image_20 ?_
  exact gq_iret X G h dX11_image_22
def f_X11_restore (v1 : Int32) (M : Mm) (K : Int32 → Mm → Prop) : Prop := (f_X11_imageAt (v1) M (fun o7 M1 => (o7 = none → K (-1000001) M1) ∧ (∀ p2 : Nat, o7 = some p2 → (isPap p2 ∧ ((((M1 p2 8 : Int32) = 0 : Prop) → K (-1000002) M1) ∧ (¬ ((M1 p2 8 : Int32) = 0 : Prop) → (f_X6_become 26 p2 M1 (fun M5 => (f_X11_forgetActs  M5 (fun M6 => K (1) M6))))))))))
set_option maxHeartbeats 4000000 in
set_option maxRecDepth 100000 in
theorem m_X11_restore (hI : gI 91 ad) {v1 : Int32} {M : Mm} {K : Int32 → Mm → Prop} (h : f_X11_restore v1 M K) : gM l D cy 91 ad (shC ad cy) yX11_restore cX11_restore 3 (some .int) 2 85 [.ref (ad 0), .int (v1)] M (gQi D 91 ad (shC ad cy) K) := by
  refine gM.of (own := RX11) (lv := [(0, .ref (ad 0)), (1, .int (v1))]) (by decide) rfl hI (Nat.le_of_ble_eq_true rfl) rfl ?_
  intro p e s m below meth c ls H locs X G hl
  have hx := X.1
  have hb := X.2.1
  unfold f_X11_restore at h
  refine lv_aload_n hx hb dX11_restore_0 rfl (lv_at hl 0 rfl) ?_
  refine lv_iload_n hx hb dX11_restore_1 rfl (lv_at hl 1 rfl) ?_
  refine gq_calle G (gc_V (C := RX11) (rest := []) X hl.1 G (m_X11_imageAt hI  h) cw_X11_imageAt qw_36_3 qw_36_4 qw_36_5 ob_PH rfl rfl rfl rfl (Nat.le_of_ble_eq_true rfl) ⟨Nat.le_of_ble_eq_true rfl, Nat.le_of_ble_eq_true rfl⟩ ⟨Nat.le_refl _, Nat.le_refl _⟩ dX11_restore_2) (fun M1 H locs G h => ?_) (fun p2 M1 H locs G h => ?_)
  · have h := h.1 rfl
    refine lv_astore_nN (lv' := [(2, .null), (0, .ref (ad 0)), (1, .int (v1))]) hx hb dX11_restore_5 rfl hl (by decide) rfl (fun ls hl => ?_)
    refine lv_aload_nN hx hb dX11_restore_6 rfl (lv_at hl 0 rfl) ?_
    refine lv_ifnonnullN hx hb dX11_restore_7 ?_
    refine gq_ldc (v := (-1000001)) X qw_6_5 dX11_restore_10 ?_
    exact gq_iret X G h dX11_restore_12
  have h := h.2 p2 rfl
  refine lv_astore_n (lv' := [(2, .ref (ad p2)), (0, .ref (ad 0)), (1, .int (v1))]) hx hb dX11_restore_5 rfl hl (by decide) rfl (fun ls hl => ?_)
  refine lv_aload_n hx hb dX11_restore_6 rfl (lv_at hl 0 rfl) ?_
  refine lv_ifnonnull (tgt := 13) hx hb dX11_restore_7 (by decide) ?_
  refine lv_aload_n hx hb dX11_restore_13 rfl (lv_at hl 0 rfl) ?_
  obtain ⟨q3, h⟩ := h
  refine gfN_Paper_cells X G q3 nf_26 dX11_restore_14 ?_
  refine lv_if_ne (tgt := 23) hx hb dX11_restore_17 (by decide) (fun c4 => ?_) (fun c4 => ?_)
  · have h := h.2 c4
    refine lv_aload_n hx hb dX11_restore_23 rfl (lv_at hl 1 rfl) ?_
    refine gf_PH_now X G qw_2_16 dX11_restore_24 ?_
    refine lv_aload_n hx hb dX11_restore_27 rfl (lv_at hl 0 rfl) ?_
    refine gq_callv G (gc_VN (C := RX6) (rest := []) X hl.1 G (m_X6_become hI isPap_26 q3 h) cw_X6_become nm_26 qw_13_14 qw_13_15 (ob_Paper isPap_26) rfl rfl rfl rfl (Nat.le_of_ble_eq_true rfl) ⟨Nat.le_of_ble_eq_true rfl, Nat.le_of_ble_eq_true rfl⟩ ⟨Nat.le_refl _, Nat.le_refl _⟩ dX11_restore_28) (fun M5 H locs G h => ?_)
    refine lv_aload_n hx hb dX11_restore_31 rfl (lv_at hl 1 rfl) ?_
    refine gq_callv G (gc_V (C := RX11) (rest := []) X hl.1 G (m_X11_forgetActs hI  h) cw_X11_forgetActs qw_13_18 qw_13_19 qw_13_20 ob_PH rfl rfl rfl rfl (Nat.le_of_ble_eq_true rfl) ⟨Nat.le_of_ble_eq_true rfl, Nat.le_of_ble_eq_true rfl⟩ ⟨Nat.le_refl _, Nat.le_refl _⟩ dX11_restore_32) (fun M6 H locs G h => ?_)
    refine lv_iconst (v := (1)) hx hb dX11_restore_35 (by decide) ?_
    exact gq_iret X G h dX11_restore_36
  have h := h.1 c4
  refine gq_ldc (v := (-1000002)) X qw_16_16 dX11_restore_20 ?_
  exact gq_iret X G h dX11_restore_22
def f_X11_kind (v1 : Int32) (M : Mm) (K : Int32 → Mm → Prop) : Prop := (f_X6_hasFolk 26 (v1) M (fun r2 M1 => ((((r2 : Int32) = 0 : Prop) → K (-1000001) M1) ∧ (¬ ((r2 : Int32) = 0 : Prop) → (vp_in (v1) 5 ∧ K (M1 (26 + 3) (v1 : Int32).toNatClampNeg) M1)))))
set_option maxHeartbeats 4000000 in
set_option maxRecDepth 100000 in
theorem m_X11_kind (hI : gI 91 ad) {v1 : Int32} {M : Mm} {K : Int32 → Mm → Prop} (h : f_X11_kind v1 M K) : gM l D cy 91 ad (shC ad cy) yX11_kind cX11_kind 2 (some .int) 1 21 [.ref (ad 0), .int (v1)] M (gQi D 91 ad (shC ad cy) K) := by
  refine gM.of (own := RX11) (lv := [(0, .ref (ad 0)), (1, .int (v1))]) (by decide) rfl hI (Nat.le_of_ble_eq_true rfl) rfl ?_
  intro p e s m below meth c ls H locs X G hl
  have hx := X.1
  have hb := X.2.1
  unfold f_X11_kind at h
  refine lv_aload_n hx hb dX11_kind_0 rfl (lv_at hl 0 rfl) ?_
  refine gf_PH_now X G qw_2_16 dX11_kind_1 ?_
  refine lv_iload_n hx hb dX11_kind_4 rfl (lv_at hl 1 rfl) ?_
  refine gq_calli G (gc_VN (C := RX6) (rest := []) X hl.1 G (m_X6_hasFolk hI isPap_26 h) cw_X6_hasFolk nm_34 qw_22_17 qw_22_18 (ob_Paper isPap_26) rfl rfl rfl rfl (Nat.le_of_ble_eq_true rfl) ⟨Nat.le_of_ble_eq_true rfl, Nat.le_of_ble_eq_true rfl⟩ ⟨Nat.le_refl _, Nat.le_refl _⟩ dX11_kind_5) (fun r2 M1 H locs G h => ?_)
  refine lv_if_eq (tgt := 23) hx hb dX11_kind_8 (by decide) (fun c3 => ?_) (fun c3 => ?_)
  · have h := h.1 c3
    refine gq_ldc (v := (-1000001)) X qw_6_5 dX11_kind_23 ?_
    exact gq_iret X G h dX11_kind_25
  have h := h.2 c3
  refine lv_aload_n hx hb dX11_kind_11 rfl (lv_at hl 0 rfl) ?_
  refine gf_PH_now X G qw_2_16 dX11_kind_12 ?_
  refine gfN_Paper_kinds X G isPap_26 nf_14 dX11_kind_15 ?_
  refine lv_iload_n hx hb dX11_kind_18 rfl (lv_at hl 1 rfl) ?_
  obtain ⟨q4, h⟩ := h
  refine gq_iald X G (ar_Paper_kinds isPap_26) q4 dX11_kind_19 ?_
  refine lv_goto (tgt := 25) hx hb dX11_kind_20 (by decide) ?_
  exact gq_iret X G h dX11_kind_25
def f_X11_isOfKind (v0 : Nat) (v1 : Int32) (M : Mm) (K : Int32 → Mm → Prop) : Prop := (((v1 : Int32) = 0 → K 1 M) ∧ (¬ (v1 : Int32) = 0 → (((v1 : Int32) = 1 → ((gIs 19 v0 = 0 ∨ gIs 19 v0 = 1) ∧ K (gIs 19 v0) M)) ∧ (¬ (v1 : Int32) = 1 → (((v1 : Int32) = 2 → ((gIs 20 v0 = 0 ∨ gIs 20 v0 = 1) ∧ K (gIs 20 v0) M)) ∧ (¬ (v1 : Int32) = 2 → (((v1 : Int32) = 3 → ((gIs 21 v0 = 0 ∨ gIs 21 v0 = 1) ∧ K (gIs 21 v0) M)) ∧ (¬ (v1 : Int32) = 3 → (((v1 : Int32) = 4 → ((gIs 22 v0 = 0 ∨ gIs 22 v0 = 1) ∧ K (gIs 22 v0) M)) ∧ (¬ (v1 : Int32) = 4 → (((v1 : Int32) = 5 → ((gIs 23 v0 = 0 ∨ gIs 23 v0 = 1) ∧ K (gIs 23 v0) M)) ∧ (¬ (v1 : Int32) = 5 → K 0 M))))))))))))
set_option maxHeartbeats 4000000 in
set_option maxRecDepth 100000 in
theorem m_X11_isOfKind (hI : gI 91 ad) {v0 : Nat} (hv0 : isFolk v0) {v1 : Int32} {M : Mm} {K : Int32 → Mm → Prop} (h : f_X11_isOfKind v0 v1 M K) : gM l D cy 91 ad (shC ad cy) yX11_isOfKind cX11_isOfKind 2 (some .boolean) 0 0 [.ref (ad v0), .int (v1)] M (gQi D 91 ad (shC ad cy) K) := by
  refine gM.of (own := RX11) (lv := [(0, .ref (ad v0)), (1, .int (v1))]) (by decide) rfl hI (Nat.le_of_ble_eq_true rfl) rfl ?_
  intro p e s m below meth c ls H locs X G hl
  have hx := X.1
  have hb := X.2.1
  unfold f_X11_isOfKind at h
  refine lv_iload_n hx hb dX11_isOfKind_0 rfl (lv_at hl 1 rfl) ?_
  by_cases c1 : (v1 : Int32) = 0
  · refine gq_tabIn (v := 0) (tgt := 40) hx hb dX11_isOfKind_1 c1 (by decide) (by decide) rfl (by decide) ?_
    have h := h.1 c1
    refine lv_aload_n hx hb dX11_isOfKind_40 rfl (lv_at hl 0 rfl) ?_
    refine lv_ifnull hx hb dX11_isOfKind_41 ?_
    refine lv_iconst (v := (1)) hx hb dX11_isOfKind_44 (by decide) ?_
    refine lv_goto (tgt := 49) hx hb dX11_isOfKind_45 (by decide) ?_
    exact gq_zret X G (Or.inr rfl) h dX11_isOfKind_49
  have h := h.2 c1
  by_cases c2 : (v1 : Int32) = 1
  · refine gq_tabIn (v := 1) (tgt := 50) hx hb dX11_isOfKind_1 c2 (by decide) (by decide) rfl (by decide) ?_
    have h := h.1 c2
    refine lv_aload_n hx hb dX11_isOfKind_50 rfl (lv_at hl 0 rfl) ?_
    refine gi_Lodger X G hv0 qw_37_10 dX11_isOfKind_51 ?_
    exact gq_zret X G h.1 h.2 dX11_isOfKind_54
  have h := h.2 c2
  by_cases c3 : (v1 : Int32) = 2
  · refine gq_tabIn (v := 2) (tgt := 55) hx hb dX11_isOfKind_1 c3 (by decide) (by decide) rfl (by decide) ?_
    have h := h.1 c3
    refine lv_aload_n hx hb dX11_isOfKind_55 rfl (lv_at hl 0 rfl) ?_
    refine gi_Widow X G hv0 qw_37_11 dX11_isOfKind_56 ?_
    exact gq_zret X G h.1 h.2 dX11_isOfKind_59
  have h := h.2 c3
  by_cases c4 : (v1 : Int32) = 3
  · refine gq_tabIn (v := 3) (tgt := 60) hx hb dX11_isOfKind_1 c4 (by decide) (by decide) rfl (by decide) ?_
    have h := h.1 c4
    refine lv_aload_n hx hb dX11_isOfKind_60 rfl (lv_at hl 0 rfl) ?_
    refine gi_Short X G hv0 qw_37_12 dX11_isOfKind_61 ?_
    exact gq_zret X G h.1 h.2 dX11_isOfKind_64
  have h := h.2 c4
  by_cases c5 : (v1 : Int32) = 4
  · refine gq_tabIn (v := 4) (tgt := 65) hx hb dX11_isOfKind_1 c5 (by decide) (by decide) rfl (by decide) ?_
    have h := h.1 c5
    refine lv_aload_n hx hb dX11_isOfKind_65 rfl (lv_at hl 0 rfl) ?_
    refine gi_Doctor X G hv0 qw_37_13 dX11_isOfKind_66 ?_
    exact gq_zret X G h.1 h.2 dX11_isOfKind_69
  have h := h.2 c5
  by_cases c6 : (v1 : Int32) = 5
  · refine gq_tabIn (v := 5) (tgt := 70) hx hb dX11_isOfKind_1 c6 (by decide) (by decide) rfl (by decide) ?_
    have h := h.1 c6
    refine lv_aload_n hx hb dX11_isOfKind_70 rfl (lv_at hl 0 rfl) ?_
    refine gi_Boy X G hv0 qw_37_14 dX11_isOfKind_71 ?_
    exact gq_zret X G h.1 h.2 dX11_isOfKind_74
  have h := h.2 c6
  refine lv_tableOut (tgt := 75) hx hb dX11_isOfKind_1 (by have := gq_ne (v := 0) (z := 0) c1 rfl; have := gq_ne (v := 1) (z := 1) c2 rfl; have := gq_ne (v := 2) (z := 2) c3 rfl; have := gq_ne (v := 3) (z := 3) c4 rfl; have := gq_ne (v := 4) (z := 4) c5 rfl; have := gq_ne (v := 5) (z := 5) c6 rfl; omega) (by decide) ?_
  refine lv_iconst (v := (0)) hx hb dX11_isOfKind_75 (by decide) ?_
  exact gq_zret X G (Or.inl rfl) h dX11_isOfKind_76
def f_X11_as (v1 : Int32) (v2 : Int32) (M : Mm) (K : Int32 → Mm → Prop) : Prop := (f_X6_hasFolk 26 (v1) M (fun r2 M1 => ((((r2 : Int32) = 0 : Prop) → K (-1000001) M1) ∧ (¬ ((r2 : Int32) = 0 : Prop) → ((((v2 : Int32) < 0 : Prop) → K (-1000001) M1) ∧ (¬ ((v2 : Int32) < 0 : Prop) → ((((v2 : Int32) < 6 : Prop) → (f_X6_sortOf 26 (v1) M1 (fun o16 M6 => (o16 = none → False) ∧ (∀ p7 : Nat, o16 = some p7 → (isFolk p7 ∧ (f_X11_isOfKind p7 (v2) M6 (fun r10 M9 => ((((r10 : Int32) = 0 : Prop) → (f_X11_found (3) M9 (fun r15 M14 => K (r15) M14))) ∧ (¬ ((r10 : Int32) = 0 : Prop) → (f_X11_sound (v1) M9 (fun r13 M12 => K (r13) M12))))))))))) ∧ (¬ ((v2 : Int32) < 6 : Prop) → K (-1000001) M1))))))))
set_option maxHeartbeats 4000000 in
set_option maxRecDepth 100000 in
theorem m_X11_as (hI : gI 91 ad) {v1 : Int32} {v2 : Int32} {M : Mm} {K : Int32 → Mm → Prop} (h : f_X11_as v1 v2 M K) : gM l D cy 91 ad (shC ad cy) yX11_as cX11_as 3 (some .int) 1 22 [.ref (ad 0), .int (v1), .int (v2)] M (gQi D 91 ad (shC ad cy) K) := by
  refine gM.of (own := RX11) (lv := [(0, .ref (ad 0)), (1, .int (v1)), (2, .int (v2))]) (by decide) rfl hI (Nat.le_of_ble_eq_true rfl) rfl ?_
  intro p e s m below meth c ls H locs X G hl
  have hx := X.1
  have hb := X.2.1
  unfold f_X11_as at h
  refine lv_aload_n hx hb dX11_as_0 rfl (lv_at hl 0 rfl) ?_
  refine gf_PH_now X G qw_2_16 dX11_as_1 ?_
  refine lv_iload_n hx hb dX11_as_4 rfl (lv_at hl 1 rfl) ?_
  refine gq_calli G (gc_VN (C := RX6) (rest := []) X hl.1 G (m_X6_hasFolk hI isPap_26 h) cw_X6_hasFolk nm_34 qw_22_17 qw_22_18 (ob_Paper isPap_26) rfl rfl rfl rfl (Nat.le_of_ble_eq_true rfl) ⟨Nat.le_of_ble_eq_true rfl, Nat.le_of_ble_eq_true rfl⟩ ⟨Nat.le_refl _, Nat.le_refl _⟩ dX11_as_5) (fun r2 M1 H locs G h => ?_)
  refine lv_if_eq (tgt := 21) hx hb dX11_as_8 (by decide) (fun c3 => ?_) (fun c3 => ?_)
  · have h := h.1 c3
    refine gq_ldc (v := (-1000001)) X qw_6_5 dX11_as_21 ?_
    exact gq_iret X G h dX11_as_23
  have h := h.2 c3
  refine lv_iload_n hx hb dX11_as_11 rfl (lv_at hl 2 rfl) ?_
  refine lv_if_lt (tgt := 21) hx hb dX11_as_12 (by decide) (fun c4 => ?_) (fun c4 => ?_)
  · have h := h.1 c4
    refine gq_ldc (v := (-1000001)) X qw_6_5 dX11_as_21 ?_
    exact gq_iret X G h dX11_as_23
  have h := h.2 c4
  refine lv_iload_n hx hb dX11_as_15 rfl (lv_at hl 2 rfl) ?_
  refine lv_bipush (v := (6)) hx hb dX11_as_16 (by decide) ?_
  refine lv_icmp_lt (tgt := 24) hx hb dX11_as_18 (by decide) (fun c5 => ?_) (fun c5 => ?_)
  · have h := h.1 c5
    refine lv_aload_n hx hb dX11_as_24 rfl (lv_at hl 0 rfl) ?_
    refine gf_PH_now X G qw_2_16 dX11_as_25 ?_
    refine lv_iload_n hx hb dX11_as_28 rfl (lv_at hl 1 rfl) ?_
    refine gq_calle G (gc_VN (C := RX6) (rest := []) X hl.1 G (m_X6_sortOf hI isPap_26 h) cw_X6_sortOf nm_66 qw_17_16 qw_17_17 (ob_Paper isPap_26) rfl rfl rfl rfl (Nat.le_of_ble_eq_true rfl) ⟨Nat.le_of_ble_eq_true rfl, Nat.le_of_ble_eq_true rfl⟩ ⟨Nat.le_refl _, Nat.le_refl _⟩ dX11_as_29) (fun M6 H locs G h => ?_) (fun p7 M6 H locs G h => ?_)
    · have h := h.1 rfl
      refine lv_iload_n hx hb dX11_as_32 rfl (lv_at hl 2 rfl) ?_
      exact h.elim
    have h := h.2 p7 rfl
    refine lv_iload_n hx hb dX11_as_32 rfl (lv_at hl 2 rfl) ?_
    obtain ⟨q8, h⟩ := h
    refine gq_calli G (gc_S (rest := []) X hl.1 G (m_X11_isOfKind hI q8 h) cw_X11_isOfKind qw_37_7 qw_37_8 rfl rfl (Nat.le_of_ble_eq_true rfl) ⟨Nat.le_of_ble_eq_true rfl, Nat.le_of_ble_eq_true rfl⟩ ⟨Nat.le_refl _, Nat.le_refl _⟩ dX11_as_33) (fun r10 M9 H locs G h => ?_)
    refine lv_if_ne (tgt := 45) hx hb dX11_as_36 (by decide) (fun c11 => ?_) (fun c11 => ?_)
    · have h := h.2 c11
      refine lv_aload_n hx hb dX11_as_45 rfl (lv_at hl 0 rfl) ?_
      refine lv_iload_n hx hb dX11_as_46 rfl (lv_at hl 1 rfl) ?_
      refine gq_calli G (gc_V (C := RX11) (rest := []) X hl.1 G (m_X11_sound hI  h) cw_X11_sound qw_7_0 qw_7_1 qw_7_2 ob_PH rfl rfl rfl rfl (Nat.le_of_ble_eq_true rfl) ⟨Nat.le_of_ble_eq_true rfl, Nat.le_of_ble_eq_true rfl⟩ ⟨Nat.le_refl _, Nat.le_refl _⟩ dX11_as_47) (fun r13 M12 H locs G h => ?_)
      exact gq_iret X G h dX11_as_50
    have h := h.1 c11
    refine lv_aload_n hx hb dX11_as_39 rfl (lv_at hl 0 rfl) ?_
    refine lv_iconst (v := (3)) hx hb dX11_as_40 (by decide) ?_
    refine gq_calli G (gc_V (C := RX11) (rest := []) X hl.1 G (m_X11_found hI  h) cw_X11_found qw_6_10 qw_6_11 qw_6_12 ob_PH rfl rfl rfl rfl (Nat.le_of_ble_eq_true rfl) ⟨Nat.le_of_ble_eq_true rfl, Nat.le_of_ble_eq_true rfl⟩ ⟨Nat.le_refl _, Nat.le_refl _⟩ dX11_as_41) (fun r15 M14 H locs G h => ?_)
    exact gq_iret X G h dX11_as_44
  have h := h.2 c5
  refine gq_ldc (v := (-1000001)) X qw_6_5 dX11_as_21 ?_
  exact gq_iret X G h dX11_as_23
def f_X0_begin (v1 : Int32) (v2 : Int32) (v3 : Int32) (M : Mm) (K : Mm → Prop) : Prop := (∀ M1 : Mm, M1 = gU M 64 1 (0) → (∀ M3 : Mm, M3 = gU M1 64 2 (v1) → (∀ M5 : Mm, M5 = gU M3 64 3 (v2) → (∀ M7 : Mm, M7 = gU M5 64 4 (v3) → K M7))))
set_option maxHeartbeats 4000000 in
set_option maxRecDepth 100000 in
theorem m_X0_begin (hI : gI 91 ad) {v1 : Int32} {v2 : Int32} {v3 : Int32} {M : Mm} {K : Mm → Prop} (h : f_X0_begin v1 v2 v3 M K) : gM l D cy 91 ad (shC ad cy) yX0_begin cX0_begin 4 none 0 0 [.ref (ad 64), .int (v1), .int (v2), .int (v3)] M (gQv D 91 ad (shC ad cy) K) := by
  refine gM.of (own := RX0) (lv := [(0, .ref (ad 64)), (1, .int (v1)), (2, .int (v2)), (3, .int (v3))]) (by decide) rfl hI (Nat.le_of_ble_eq_true rfl) rfl ?_
  intro p e s m below meth c ls H locs X G hl
  have hx := X.1
  have hb := X.2.1
  unfold f_X0_begin at h
  refine lv_aload_n hx hb dX0_begin_0 rfl (lv_at hl 0 rfl) ?_
  refine lv_iconst (v := (0)) hx hb dX0_begin_1 (by decide) ?_
  refine gp_Asked_traced X G qw_38_2 dX0_begin_2 (fun M1 H locs e2 G => ?_)
  have h := h M1 e2
  refine lv_aload_n hx hb dX0_begin_5 rfl (lv_at hl 0 rfl) ?_
  refine lv_iload_n hx hb dX0_begin_6 rfl (lv_at hl 1 rfl) ?_
  refine gp_Asked_number X G qw_38_3 dX0_begin_7 (fun M3 H locs e4 G => ?_)
  have h := h M3 e4
  refine lv_aload_n hx hb dX0_begin_10 rfl (lv_at hl 0 rfl) ?_
  refine lv_iload_n hx hb dX0_begin_11 rfl (lv_at hl 2 rfl) ?_
  refine gp_Asked_house X G qw_38_4 dX0_begin_12 (fun M5 H locs e6 G => ?_)
  have h := h M5 e6
  refine lv_aload_n hx hb dX0_begin_15 rfl (lv_at hl 0 rfl) ?_
  refine lv_iload_n hx hb dX0_begin_16 rfl (lv_at hl 3 rfl) ?_
  refine gp_Asked_known X G qw_38_5 dX0_begin_17 (fun M7 H locs e8 G => ?_)
  have h := h M7 e8
  exact gq_vret X G h dX0_begin_20
def f_X0_leave (v1 : Int32) (M : Mm) (K : Mm → Prop) : Prop := ((((M 64 1 : Int32) < 16 : Prop) → (vp_in (M 64 1) 16 ∧ (∀ M3 : Mm, M3 = gU M 65 (M 64 1 : Int32).toNatClampNeg (v1) → (∀ M5 : Mm, M5 = gU M3 64 1 ((M3 64 1) + 1) → K M5)))) ∧ (¬ ((M 64 1 : Int32) < 16 : Prop) → K M))
set_option maxHeartbeats 4000000 in
set_option maxRecDepth 100000 in
theorem m_X0_leave (hI : gI 91 ad) {v1 : Int32} {M : Mm} {K : Mm → Prop} (h : f_X0_leave v1 M K) : gM l D cy 91 ad (shC ad cy) yX0_leave cX0_leave 2 none 0 0 [.ref (ad 64), .int (v1)] M (gQv D 91 ad (shC ad cy) K) := by
  refine gM.of (own := RX0) (lv := [(0, .ref (ad 64)), (1, .int (v1))]) (by decide) rfl hI (Nat.le_of_ble_eq_true rfl) rfl ?_
  intro p e s m below meth c ls H locs X G hl
  have hx := X.1
  have hb := X.2.1
  unfold f_X0_leave at h
  refine lv_aload_n hx hb dX0_leave_0 rfl (lv_at hl 0 rfl) ?_
  refine gf_Asked_traced X G qw_38_2 dX0_leave_1 ?_
  refine lv_bipush (v := (16)) hx hb dX0_leave_4 (by decide) ?_
  refine lv_icmp_lt (tgt := 10) hx hb dX0_leave_6 (by decide) (fun c1 => ?_) (fun c1 => ?_)
  · have h := h.1 c1
    refine lv_aload_n hx hb dX0_leave_10 rfl (lv_at hl 0 rfl) ?_
    refine gf_Asked_bodies X G qw_5_1 dX0_leave_11 ?_
    refine lv_aload_n hx hb dX0_leave_14 rfl (lv_at hl 0 rfl) ?_
    refine gf_Asked_traced X G qw_38_2 dX0_leave_15 ?_
    refine lv_iload_n hx hb dX0_leave_18 rfl (lv_at hl 1 rfl) ?_
    obtain ⟨q2, h⟩ := h
    refine gq_iast X G ar_65 q2 dX0_leave_19 (fun M3 H locs e4 G => ?_)
    have h := h M3 e4
    refine lv_aload_n hx hb dX0_leave_20 rfl (lv_at hl 0 rfl) ?_
    refine lv_dup hx hb dX0_leave_21 rfl ?_
    refine gf_Asked_traced X G qw_38_2 dX0_leave_22 ?_
    refine lv_iconst (v := (1)) hx hb dX0_leave_25 (by decide) ?_
    refine lv_iadd hx hb dX0_leave_26 ?_
    refine gp_Asked_traced X G qw_38_2 dX0_leave_27 (fun M5 H locs e6 G => ?_)
    have h := h M5 e6
    exact gq_vret X G h dX0_leave_30
  have h := h.2 c1
  exact gq_vret X G h dX0_leave_9
def f_X3_mark_19  (M : Mm) (K : Int32 → Mm → Prop) : Prop := (f_X0_leave (20) M (fun M1 => K (M1 64 2) M1))
set_option maxHeartbeats 4000000 in
set_option maxRecDepth 100000 in
theorem m_X3_mark_19 (hI : gI 91 ad)  {M : Mm} {K : Int32 → Mm → Prop} (h : f_X3_mark_19  M K) : gM l D cy 91 ad (shC ad cy) yX3_mark cX3_mark 2 (some .int) 1 21 [.ref (ad 19), .ref (ad 64)] M (gQi D 91 ad (shC ad cy) K) := by
  refine gM.of (own := RX3) (lv := [(0, .ref (ad 19)), (1, .ref (ad 64))]) (by decide) rfl hI (Nat.le_of_ble_eq_true rfl) rfl ?_
  intro p e s m below meth c ls H locs X G hl
  have hx := X.1
  have hb := X.2.1
  unfold f_X3_mark_19 at h
  refine lv_aload_n hx hb dX3_mark_0 rfl (lv_at hl 1 rfl) ?_
  refine lv_bipush (v := (20)) hx hb dX3_mark_1 (by decide) ?_
  refine gq_callv G (gc_VN (C := RX0) (rest := []) X hl.1 G (m_X0_leave hI  h) cw_X0_leave nm_73 qw_38_12 qw_38_13 ob_Asked rfl rfl rfl rfl (Nat.le_of_ble_eq_true rfl) ⟨Nat.le_of_ble_eq_true rfl, Nat.le_of_ble_eq_true rfl⟩ ⟨Nat.le_refl _, Nat.le_refl _⟩ dX3_mark_3) (fun M1 H locs G h => ?_)
  refine lv_aload_n hx hb dX3_mark_6 rfl (lv_at hl 1 rfl) ?_
  refine gfN_Asked_number X G nf_43 dX3_mark_7 ?_
  exact gq_iret X G h dX3_mark_10
def f_X5_mark_19  (M : Mm) (K : Int32 → Mm → Prop) : Prop := (f_X0_leave (21) M (fun M1 => (f_X3_mark_19  M1 (fun r3 M2 => K (r3 + (M2 64 3)) M2))))
set_option maxHeartbeats 4000000 in
set_option maxRecDepth 100000 in
theorem m_X5_mark_19 (hI : gI 91 ad)  {M : Mm} {K : Int32 → Mm → Prop} (h : f_X5_mark_19  M K) : gM l D cy 91 ad (shC ad cy) yX5_mark cX5_mark 2 (some .int) 2 42 [.ref (ad 19), .ref (ad 64)] M (gQi D 91 ad (shC ad cy) K) := by
  refine gM.of (own := RX5) (lv := [(0, .ref (ad 19)), (1, .ref (ad 64))]) (by decide) rfl hI (Nat.le_of_ble_eq_true rfl) rfl ?_
  intro p e s m below meth c ls H locs X G hl
  have hx := X.1
  have hb := X.2.1
  unfold f_X5_mark_19 at h
  refine lv_aload_n hx hb dX5_mark_0 rfl (lv_at hl 1 rfl) ?_
  refine lv_bipush (v := (21)) hx hb dX5_mark_1 (by decide) ?_
  refine gq_callv G (gc_VN (C := RX0) (rest := []) X hl.1 G (m_X0_leave hI  h) cw_X0_leave nm_70 qw_38_12 qw_38_13 ob_Asked rfl rfl rfl rfl (Nat.le_of_ble_eq_true rfl) ⟨Nat.le_of_ble_eq_true rfl, Nat.le_of_ble_eq_true rfl⟩ ⟨Nat.le_refl _, Nat.le_refl _⟩ dX5_mark_3) (fun M1 H locs G h => ?_)
  refine lv_aload_n hx hb dX5_mark_6 rfl (lv_at hl 0 rfl) ?_
  refine lv_aload_n hx hb dX5_mark_7 rfl (lv_at hl 1 rfl) ?_
  refine gq_calli G (gc_SU (rest := []) X hl.1 G (m_X3_mark_19 hI  h) cw_X3_mark qw_39_10 qw_39_11 qw_39_5 qw_39_12 (by decide) ob_Lodger rfl rfl rfl (Nat.le_of_ble_eq_true rfl) ⟨Nat.le_of_ble_eq_true rfl, Nat.le_of_ble_eq_true rfl⟩ ⟨Nat.le_refl _, Nat.le_refl _⟩ dX5_mark_8) (fun r3 M2 H locs G h => ?_)
  refine lv_aload_n hx hb dX5_mark_11 rfl (lv_at hl 1 rfl) ?_
  refine gfN_Asked_house X G nf_44 dX5_mark_12 ?_
  refine lv_iadd hx hb dX5_mark_15 ?_
  exact gq_iret X G h dX5_mark_16
def f_X3_mark_20  (M : Mm) (K : Int32 → Mm → Prop) : Prop := (f_X0_leave (20) M (fun M1 => K (M1 64 2) M1))
set_option maxHeartbeats 4000000 in
set_option maxRecDepth 100000 in
theorem m_X3_mark_20 (hI : gI 91 ad)  {M : Mm} {K : Int32 → Mm → Prop} (h : f_X3_mark_20  M K) : gM l D cy 91 ad (shC ad cy) yX3_mark cX3_mark 2 (some .int) 1 21 [.ref (ad 20), .ref (ad 64)] M (gQi D 91 ad (shC ad cy) K) := by
  refine gM.of (own := RX3) (lv := [(0, .ref (ad 20)), (1, .ref (ad 64))]) (by decide) rfl hI (Nat.le_of_ble_eq_true rfl) rfl ?_
  intro p e s m below meth c ls H locs X G hl
  have hx := X.1
  have hb := X.2.1
  unfold f_X3_mark_20 at h
  refine lv_aload_n hx hb dX3_mark_0 rfl (lv_at hl 1 rfl) ?_
  refine lv_bipush (v := (20)) hx hb dX3_mark_1 (by decide) ?_
  refine gq_callv G (gc_VN (C := RX0) (rest := []) X hl.1 G (m_X0_leave hI  h) cw_X0_leave nm_73 qw_38_12 qw_38_13 ob_Asked rfl rfl rfl rfl (Nat.le_of_ble_eq_true rfl) ⟨Nat.le_of_ble_eq_true rfl, Nat.le_of_ble_eq_true rfl⟩ ⟨Nat.le_refl _, Nat.le_refl _⟩ dX3_mark_3) (fun M1 H locs G h => ?_)
  refine lv_aload_n hx hb dX3_mark_6 rfl (lv_at hl 1 rfl) ?_
  refine gfN_Asked_number X G nf_43 dX3_mark_7 ?_
  exact gq_iret X G h dX3_mark_10
def f_X5_mark_20  (M : Mm) (K : Int32 → Mm → Prop) : Prop := (f_X0_leave (21) M (fun M1 => (f_X3_mark_20  M1 (fun r3 M2 => K (r3 + (M2 64 3)) M2))))
set_option maxHeartbeats 4000000 in
set_option maxRecDepth 100000 in
theorem m_X5_mark_20 (hI : gI 91 ad)  {M : Mm} {K : Int32 → Mm → Prop} (h : f_X5_mark_20  M K) : gM l D cy 91 ad (shC ad cy) yX5_mark cX5_mark 2 (some .int) 2 42 [.ref (ad 20), .ref (ad 64)] M (gQi D 91 ad (shC ad cy) K) := by
  refine gM.of (own := RX5) (lv := [(0, .ref (ad 20)), (1, .ref (ad 64))]) (by decide) rfl hI (Nat.le_of_ble_eq_true rfl) rfl ?_
  intro p e s m below meth c ls H locs X G hl
  have hx := X.1
  have hb := X.2.1
  unfold f_X5_mark_20 at h
  refine lv_aload_n hx hb dX5_mark_0 rfl (lv_at hl 1 rfl) ?_
  refine lv_bipush (v := (21)) hx hb dX5_mark_1 (by decide) ?_
  refine gq_callv G (gc_VN (C := RX0) (rest := []) X hl.1 G (m_X0_leave hI  h) cw_X0_leave nm_70 qw_38_12 qw_38_13 ob_Asked rfl rfl rfl rfl (Nat.le_of_ble_eq_true rfl) ⟨Nat.le_of_ble_eq_true rfl, Nat.le_of_ble_eq_true rfl⟩ ⟨Nat.le_refl _, Nat.le_refl _⟩ dX5_mark_3) (fun M1 H locs G h => ?_)
  refine lv_aload_n hx hb dX5_mark_6 rfl (lv_at hl 0 rfl) ?_
  refine lv_aload_n hx hb dX5_mark_7 rfl (lv_at hl 1 rfl) ?_
  refine gq_calli G (gc_SU (rest := []) X hl.1 G (m_X3_mark_20 hI  h) cw_X3_mark qw_39_10 qw_39_11 qw_39_5 qw_39_12 (by decide) ob_Widow rfl rfl rfl (Nat.le_of_ble_eq_true rfl) ⟨Nat.le_of_ble_eq_true rfl, Nat.le_of_ble_eq_true rfl⟩ ⟨Nat.le_refl _, Nat.le_refl _⟩ dX5_mark_8) (fun r3 M2 H locs G h => ?_)
  refine lv_aload_n hx hb dX5_mark_11 rfl (lv_at hl 1 rfl) ?_
  refine gfN_Asked_house X G nf_44 dX5_mark_12 ?_
  refine lv_iadd hx hb dX5_mark_15 ?_
  exact gq_iret X G h dX5_mark_16
def f_X10_mark_20  (M : Mm) (K : Int32 → Mm → Prop) : Prop := (f_X0_leave (24) M (fun M1 => (f_X5_mark_20  M1 (fun r3 M2 => K (r3 * 2) M2))))
set_option maxHeartbeats 4000000 in
set_option maxRecDepth 100000 in
theorem m_X10_mark_20 (hI : gI 91 ad)  {M : Mm} {K : Int32 → Mm → Prop} (h : f_X10_mark_20  M K) : gM l D cy 91 ad (shC ad cy) yX10_mark cX10_mark 2 (some .int) 3 63 [.ref (ad 20), .ref (ad 64)] M (gQi D 91 ad (shC ad cy) K) := by
  refine gM.of (own := RX10) (lv := [(0, .ref (ad 20)), (1, .ref (ad 64))]) (by decide) rfl hI (Nat.le_of_ble_eq_true rfl) rfl ?_
  intro p e s m below meth c ls H locs X G hl
  have hx := X.1
  have hb := X.2.1
  unfold f_X10_mark_20 at h
  refine lv_aload_n hx hb dX10_mark_0 rfl (lv_at hl 1 rfl) ?_
  refine lv_bipush (v := (24)) hx hb dX10_mark_1 (by decide) ?_
  refine gq_callv G (gc_VN (C := RX0) (rest := []) X hl.1 G (m_X0_leave hI  h) cw_X0_leave nm_72 qw_38_12 qw_38_13 ob_Asked rfl rfl rfl rfl (Nat.le_of_ble_eq_true rfl) ⟨Nat.le_of_ble_eq_true rfl, Nat.le_of_ble_eq_true rfl⟩ ⟨Nat.le_refl _, Nat.le_refl _⟩ dX10_mark_3) (fun M1 H locs G h => ?_)
  refine lv_aload_n hx hb dX10_mark_6 rfl (lv_at hl 0 rfl) ?_
  refine lv_aload_n hx hb dX10_mark_7 rfl (lv_at hl 1 rfl) ?_
  refine gq_calli G (gc_SU (rest := []) X hl.1 G (m_X5_mark_20 hI  h) cw_X5_mark qw_40_0 qw_39_15 qw_40_1 qw_39_7 (by decide) ob_Widow rfl rfl rfl (Nat.le_of_ble_eq_true rfl) ⟨Nat.le_of_ble_eq_true rfl, Nat.le_of_ble_eq_true rfl⟩ ⟨Nat.le_refl _, Nat.le_refl _⟩ dX10_mark_8) (fun r3 M2 H locs G h => ?_)
  refine lv_iconst (v := (2)) hx hb dX10_mark_11 (by decide) ?_
  refine lv_imul hx hb dX10_mark_12 ?_
  exact gq_iret X G h dX10_mark_13
def f_X3_mark_21  (M : Mm) (K : Int32 → Mm → Prop) : Prop := (f_X0_leave (20) M (fun M1 => K (M1 64 2) M1))
set_option maxHeartbeats 4000000 in
set_option maxRecDepth 100000 in
theorem m_X3_mark_21 (hI : gI 91 ad)  {M : Mm} {K : Int32 → Mm → Prop} (h : f_X3_mark_21  M K) : gM l D cy 91 ad (shC ad cy) yX3_mark cX3_mark 2 (some .int) 1 21 [.ref (ad 21), .ref (ad 64)] M (gQi D 91 ad (shC ad cy) K) := by
  refine gM.of (own := RX3) (lv := [(0, .ref (ad 21)), (1, .ref (ad 64))]) (by decide) rfl hI (Nat.le_of_ble_eq_true rfl) rfl ?_
  intro p e s m below meth c ls H locs X G hl
  have hx := X.1
  have hb := X.2.1
  unfold f_X3_mark_21 at h
  refine lv_aload_n hx hb dX3_mark_0 rfl (lv_at hl 1 rfl) ?_
  refine lv_bipush (v := (20)) hx hb dX3_mark_1 (by decide) ?_
  refine gq_callv G (gc_VN (C := RX0) (rest := []) X hl.1 G (m_X0_leave hI  h) cw_X0_leave nm_73 qw_38_12 qw_38_13 ob_Asked rfl rfl rfl rfl (Nat.le_of_ble_eq_true rfl) ⟨Nat.le_of_ble_eq_true rfl, Nat.le_of_ble_eq_true rfl⟩ ⟨Nat.le_refl _, Nat.le_refl _⟩ dX3_mark_3) (fun M1 H locs G h => ?_)
  refine lv_aload_n hx hb dX3_mark_6 rfl (lv_at hl 1 rfl) ?_
  refine gfN_Asked_number X G nf_43 dX3_mark_7 ?_
  exact gq_iret X G h dX3_mark_10
def f_X5_mark_21  (M : Mm) (K : Int32 → Mm → Prop) : Prop := (f_X0_leave (21) M (fun M1 => (f_X3_mark_21  M1 (fun r3 M2 => K (r3 + (M2 64 3)) M2))))
set_option maxHeartbeats 4000000 in
set_option maxRecDepth 100000 in
theorem m_X5_mark_21 (hI : gI 91 ad)  {M : Mm} {K : Int32 → Mm → Prop} (h : f_X5_mark_21  M K) : gM l D cy 91 ad (shC ad cy) yX5_mark cX5_mark 2 (some .int) 2 42 [.ref (ad 21), .ref (ad 64)] M (gQi D 91 ad (shC ad cy) K) := by
  refine gM.of (own := RX5) (lv := [(0, .ref (ad 21)), (1, .ref (ad 64))]) (by decide) rfl hI (Nat.le_of_ble_eq_true rfl) rfl ?_
  intro p e s m below meth c ls H locs X G hl
  have hx := X.1
  have hb := X.2.1
  unfold f_X5_mark_21 at h
  refine lv_aload_n hx hb dX5_mark_0 rfl (lv_at hl 1 rfl) ?_
  refine lv_bipush (v := (21)) hx hb dX5_mark_1 (by decide) ?_
  refine gq_callv G (gc_VN (C := RX0) (rest := []) X hl.1 G (m_X0_leave hI  h) cw_X0_leave nm_70 qw_38_12 qw_38_13 ob_Asked rfl rfl rfl rfl (Nat.le_of_ble_eq_true rfl) ⟨Nat.le_of_ble_eq_true rfl, Nat.le_of_ble_eq_true rfl⟩ ⟨Nat.le_refl _, Nat.le_refl _⟩ dX5_mark_3) (fun M1 H locs G h => ?_)
  refine lv_aload_n hx hb dX5_mark_6 rfl (lv_at hl 0 rfl) ?_
  refine lv_aload_n hx hb dX5_mark_7 rfl (lv_at hl 1 rfl) ?_
  refine gq_calli G (gc_SU (rest := []) X hl.1 G (m_X3_mark_21 hI  h) cw_X3_mark qw_39_10 qw_39_11 qw_39_5 qw_39_12 (by decide) ob_Short rfl rfl rfl (Nat.le_of_ble_eq_true rfl) ⟨Nat.le_of_ble_eq_true rfl, Nat.le_of_ble_eq_true rfl⟩ ⟨Nat.le_refl _, Nat.le_refl _⟩ dX5_mark_8) (fun r3 M2 H locs G h => ?_)
  refine lv_aload_n hx hb dX5_mark_11 rfl (lv_at hl 1 rfl) ?_
  refine gfN_Asked_house X G nf_44 dX5_mark_12 ?_
  refine lv_iadd hx hb dX5_mark_15 ?_
  exact gq_iret X G h dX5_mark_16
def f_X8_mark_21  (M : Mm) (K : Int32 → Mm → Prop) : Prop := (f_X0_leave (22) M (fun M1 => (f_X5_mark_21  M1 (fun r3 M2 => K (r3 - 1000) M2))))
set_option maxHeartbeats 4000000 in
set_option maxRecDepth 100000 in
theorem m_X8_mark_21 (hI : gI 91 ad)  {M : Mm} {K : Int32 → Mm → Prop} (h : f_X8_mark_21  M K) : gM l D cy 91 ad (shC ad cy) yX8_mark cX8_mark 2 (some .int) 3 63 [.ref (ad 21), .ref (ad 64)] M (gQi D 91 ad (shC ad cy) K) := by
  refine gM.of (own := RX8) (lv := [(0, .ref (ad 21)), (1, .ref (ad 64))]) (by decide) rfl hI (Nat.le_of_ble_eq_true rfl) rfl ?_
  intro p e s m below meth c ls H locs X G hl
  have hx := X.1
  have hb := X.2.1
  unfold f_X8_mark_21 at h
  refine lv_aload_n hx hb dX8_mark_0 rfl (lv_at hl 1 rfl) ?_
  refine lv_bipush (v := (22)) hx hb dX8_mark_1 (by decide) ?_
  refine gq_callv G (gc_VN (C := RX0) (rest := []) X hl.1 G (m_X0_leave hI  h) cw_X0_leave nm_71 qw_38_12 qw_38_13 ob_Asked rfl rfl rfl rfl (Nat.le_of_ble_eq_true rfl) ⟨Nat.le_of_ble_eq_true rfl, Nat.le_of_ble_eq_true rfl⟩ ⟨Nat.le_refl _, Nat.le_refl _⟩ dX8_mark_3) (fun M1 H locs G h => ?_)
  refine lv_aload_n hx hb dX8_mark_6 rfl (lv_at hl 0 rfl) ?_
  refine lv_aload_n hx hb dX8_mark_7 rfl (lv_at hl 1 rfl) ?_
  refine gq_calli G (gc_SU (rest := []) X hl.1 G (m_X5_mark_21 hI  h) cw_X5_mark qw_39_20 qw_39_15 qw_18_20 qw_39_7 (by decide) ob_Short rfl rfl rfl (Nat.le_of_ble_eq_true rfl) ⟨Nat.le_of_ble_eq_true rfl, Nat.le_of_ble_eq_true rfl⟩ ⟨Nat.le_refl _, Nat.le_refl _⟩ dX8_mark_8) (fun r3 M2 H locs G h => ?_)
  refine lv_sipush (v := (1000)) hx hb dX8_mark_11 (by decide) ?_
  refine lv_isub hx hb dX8_mark_14 ?_
  exact gq_iret X G h dX8_mark_15
def f_X3_mark_22  (M : Mm) (K : Int32 → Mm → Prop) : Prop := (f_X0_leave (20) M (fun M1 => K (M1 64 2) M1))
set_option maxHeartbeats 4000000 in
set_option maxRecDepth 100000 in
theorem m_X3_mark_22 (hI : gI 91 ad)  {M : Mm} {K : Int32 → Mm → Prop} (h : f_X3_mark_22  M K) : gM l D cy 91 ad (shC ad cy) yX3_mark cX3_mark 2 (some .int) 1 21 [.ref (ad 22), .ref (ad 64)] M (gQi D 91 ad (shC ad cy) K) := by
  refine gM.of (own := RX3) (lv := [(0, .ref (ad 22)), (1, .ref (ad 64))]) (by decide) rfl hI (Nat.le_of_ble_eq_true rfl) rfl ?_
  intro p e s m below meth c ls H locs X G hl
  have hx := X.1
  have hb := X.2.1
  unfold f_X3_mark_22 at h
  refine lv_aload_n hx hb dX3_mark_0 rfl (lv_at hl 1 rfl) ?_
  refine lv_bipush (v := (20)) hx hb dX3_mark_1 (by decide) ?_
  refine gq_callv G (gc_VN (C := RX0) (rest := []) X hl.1 G (m_X0_leave hI  h) cw_X0_leave nm_73 qw_38_12 qw_38_13 ob_Asked rfl rfl rfl rfl (Nat.le_of_ble_eq_true rfl) ⟨Nat.le_of_ble_eq_true rfl, Nat.le_of_ble_eq_true rfl⟩ ⟨Nat.le_refl _, Nat.le_refl _⟩ dX3_mark_3) (fun M1 H locs G h => ?_)
  refine lv_aload_n hx hb dX3_mark_6 rfl (lv_at hl 1 rfl) ?_
  refine gfN_Asked_number X G nf_43 dX3_mark_7 ?_
  exact gq_iret X G h dX3_mark_10
def f_X3_size_22  (M : Mm) (K : Int32 → Mm → Prop) : Prop := (f_X0_leave (10) M (fun M1 => K (M1 64 4) M1))
set_option maxHeartbeats 4000000 in
set_option maxRecDepth 100000 in
theorem m_X3_size_22 (hI : gI 91 ad)  {M : Mm} {K : Int32 → Mm → Prop} (h : f_X3_size_22  M K) : gM l D cy 91 ad (shC ad cy) yX3_size cX3_size 2 (some .int) 1 21 [.ref (ad 22), .ref (ad 64)] M (gQi D 91 ad (shC ad cy) K) := by
  refine gM.of (own := RX3) (lv := [(0, .ref (ad 22)), (1, .ref (ad 64))]) (by decide) rfl hI (Nat.le_of_ble_eq_true rfl) rfl ?_
  intro p e s m below meth c ls H locs X G hl
  have hx := X.1
  have hb := X.2.1
  unfold f_X3_size_22 at h
  refine lv_aload_n hx hb dX3_size_0 rfl (lv_at hl 1 rfl) ?_
  refine lv_bipush (v := (10)) hx hb dX3_size_1 (by decide) ?_
  refine gq_callv G (gc_VN (C := RX0) (rest := []) X hl.1 G (m_X0_leave hI  h) cw_X0_leave nm_73 qw_38_12 qw_38_13 ob_Asked rfl rfl rfl rfl (Nat.le_of_ble_eq_true rfl) ⟨Nat.le_of_ble_eq_true rfl, Nat.le_of_ble_eq_true rfl⟩ ⟨Nat.le_refl _, Nat.le_refl _⟩ dX3_size_3) (fun M1 H locs G h => ?_)
  refine lv_aload_n hx hb dX3_size_6 rfl (lv_at hl 1 rfl) ?_
  refine gfN_Asked_known X G nf_45 dX3_size_7 ?_
  exact gq_iret X G h dX3_size_10
def f_X2_size_22  (M : Mm) (K : Int32 → Mm → Prop) : Prop := (f_X0_leave (13) M (fun M1 => (f_X3_size_22  M1 (fun r3 M2 => K (r3 - 100) M2))))
set_option maxHeartbeats 4000000 in
set_option maxRecDepth 100000 in
theorem m_X2_size_22 (hI : gI 91 ad)  {M : Mm} {K : Int32 → Mm → Prop} (h : f_X2_size_22  M K) : gM l D cy 91 ad (shC ad cy) yX2_size cX2_size 2 (some .int) 2 42 [.ref (ad 22), .ref (ad 64)] M (gQi D 91 ad (shC ad cy) K) := by
  refine gM.of (own := RX2) (lv := [(0, .ref (ad 22)), (1, .ref (ad 64))]) (by decide) rfl hI (Nat.le_of_ble_eq_true rfl) rfl ?_
  intro p e s m below meth c ls H locs X G hl
  have hx := X.1
  have hb := X.2.1
  unfold f_X2_size_22 at h
  refine lv_aload_n hx hb dX2_size_0 rfl (lv_at hl 1 rfl) ?_
  refine lv_bipush (v := (13)) hx hb dX2_size_1 (by decide) ?_
  refine gq_callv G (gc_VN (C := RX0) (rest := []) X hl.1 G (m_X0_leave hI  h) cw_X0_leave nm_69 qw_38_12 qw_38_13 ob_Asked rfl rfl rfl rfl (Nat.le_of_ble_eq_true rfl) ⟨Nat.le_of_ble_eq_true rfl, Nat.le_of_ble_eq_true rfl⟩ ⟨Nat.le_refl _, Nat.le_refl _⟩ dX2_size_3) (fun M1 H locs G h => ?_)
  refine lv_aload_n hx hb dX2_size_6 rfl (lv_at hl 0 rfl) ?_
  refine lv_aload_n hx hb dX2_size_7 rfl (lv_at hl 1 rfl) ?_
  refine gq_calli G (gc_SU (rest := []) X hl.1 G (m_X3_size_22 hI  h) cw_X3_size qw_38_20 qw_38_7 qw_38_21 qw_38_22 (by decide) ob_Doctor rfl rfl rfl (Nat.le_of_ble_eq_true rfl) ⟨Nat.le_of_ble_eq_true rfl, Nat.le_of_ble_eq_true rfl⟩ ⟨Nat.le_refl _, Nat.le_refl _⟩ dX2_size_8) (fun r3 M2 H locs G h => ?_)
  refine lv_bipush (v := (100)) hx hb dX2_size_11 (by decide) ?_
  refine lv_isub hx hb dX2_size_13 ?_
  exact gq_iret X G h dX2_size_14
def f_X2_mark_22  (M : Mm) (K : Int32 → Mm → Prop) : Prop := (f_X0_leave (23) M (fun M1 => (f_X3_mark_22  M1 (fun r3 M2 => (f_X2_size_22  M2 (fun r5 M4 => K (r3 - r5) M4))))))
set_option maxHeartbeats 4000000 in
set_option maxRecDepth 100000 in
theorem m_X2_mark_22 (hI : gI 91 ad)  {M : Mm} {K : Int32 → Mm → Prop} (h : f_X2_mark_22  M K) : gM l D cy 91 ad (shC ad cy) yX2_mark cX2_mark 3 (some .int) 3 63 [.ref (ad 22), .ref (ad 64)] M (gQi D 91 ad (shC ad cy) K) := by
  refine gM.of (own := RX2) (lv := [(0, .ref (ad 22)), (1, .ref (ad 64))]) (by decide) rfl hI (Nat.le_of_ble_eq_true rfl) rfl ?_
  intro p e s m below meth c ls H locs X G hl
  have hx := X.1
  have hb := X.2.1
  unfold f_X2_mark_22 at h
  refine lv_aload_n hx hb dX2_mark_0 rfl (lv_at hl 1 rfl) ?_
  refine lv_bipush (v := (23)) hx hb dX2_mark_1 (by decide) ?_
  refine gq_callv G (gc_VN (C := RX0) (rest := []) X hl.1 G (m_X0_leave hI  h) cw_X0_leave nm_69 qw_38_12 qw_38_13 ob_Asked rfl rfl rfl rfl (Nat.le_of_ble_eq_true rfl) ⟨Nat.le_of_ble_eq_true rfl, Nat.le_of_ble_eq_true rfl⟩ ⟨Nat.le_refl _, Nat.le_refl _⟩ dX2_mark_3) (fun M1 H locs G h => ?_)
  refine lv_aload_n hx hb dX2_mark_6 rfl (lv_at hl 0 rfl) ?_
  refine lv_aload_n hx hb dX2_mark_7 rfl (lv_at hl 1 rfl) ?_
  refine gq_calli G (gc_SU (rest := []) X hl.1 G (m_X3_mark_22 hI  h) cw_X3_mark qw_40_13 qw_39_11 qw_38_21 qw_39_12 (by decide) ob_Doctor rfl rfl rfl (Nat.le_of_ble_eq_true rfl) ⟨Nat.le_of_ble_eq_true rfl, Nat.le_of_ble_eq_true rfl⟩ ⟨Nat.le_refl _, Nat.le_refl _⟩ dX2_mark_8) (fun r3 M2 H locs G h => ?_)
  refine lv_istore_n (lv' := [(2, .int (r3)), (0, .ref (ad 22)), (1, .ref (ad 64))]) hx hb dX2_mark_11 rfl hl (by decide) rfl (fun ls hl => ?_)
  refine lv_iload_n hx hb dX2_mark_12 rfl (lv_at hl 0 rfl) ?_
  refine lv_aload_n hx hb dX2_mark_13 rfl (lv_at hl 1 rfl) ?_
  refine lv_aload_n hx hb dX2_mark_14 rfl (lv_at hl 2 rfl) ?_
  refine gq_calli G (gc_V (C := RX2) (rest := [.int (r3)]) X hl.1 G (m_X2_size_22 hI  h) cw_X2_size qw_40_17 qw_38_18 qw_40_18 ob_Doctor rfl rfl rfl rfl (Nat.le_of_ble_eq_true rfl) ⟨Nat.le_of_ble_eq_true rfl, Nat.le_of_ble_eq_true rfl⟩ ⟨Nat.le_refl _, Nat.le_refl _⟩ dX2_mark_15) (fun r5 M4 H locs G h => ?_)
  refine lv_isub hx hb dX2_mark_18 ?_
  exact gq_iret X G h dX2_mark_19
def f_X3_mark_23  (M : Mm) (K : Int32 → Mm → Prop) : Prop := (f_X0_leave (20) M (fun M1 => K (M1 64 2) M1))
set_option maxHeartbeats 4000000 in
set_option maxRecDepth 100000 in
theorem m_X3_mark_23 (hI : gI 91 ad)  {M : Mm} {K : Int32 → Mm → Prop} (h : f_X3_mark_23  M K) : gM l D cy 91 ad (shC ad cy) yX3_mark cX3_mark 2 (some .int) 1 21 [.ref (ad 23), .ref (ad 64)] M (gQi D 91 ad (shC ad cy) K) := by
  refine gM.of (own := RX3) (lv := [(0, .ref (ad 23)), (1, .ref (ad 64))]) (by decide) rfl hI (Nat.le_of_ble_eq_true rfl) rfl ?_
  intro p e s m below meth c ls H locs X G hl
  have hx := X.1
  have hb := X.2.1
  unfold f_X3_mark_23 at h
  refine lv_aload_n hx hb dX3_mark_0 rfl (lv_at hl 1 rfl) ?_
  refine lv_bipush (v := (20)) hx hb dX3_mark_1 (by decide) ?_
  refine gq_callv G (gc_VN (C := RX0) (rest := []) X hl.1 G (m_X0_leave hI  h) cw_X0_leave nm_73 qw_38_12 qw_38_13 ob_Asked rfl rfl rfl rfl (Nat.le_of_ble_eq_true rfl) ⟨Nat.le_of_ble_eq_true rfl, Nat.le_of_ble_eq_true rfl⟩ ⟨Nat.le_refl _, Nat.le_refl _⟩ dX3_mark_3) (fun M1 H locs G h => ?_)
  refine lv_aload_n hx hb dX3_mark_6 rfl (lv_at hl 1 rfl) ?_
  refine gfN_Asked_number X G nf_43 dX3_mark_7 ?_
  exact gq_iret X G h dX3_mark_10
def f_X3_size_23  (M : Mm) (K : Int32 → Mm → Prop) : Prop := (f_X0_leave (10) M (fun M1 => K (M1 64 4) M1))
set_option maxHeartbeats 4000000 in
set_option maxRecDepth 100000 in
theorem m_X3_size_23 (hI : gI 91 ad)  {M : Mm} {K : Int32 → Mm → Prop} (h : f_X3_size_23  M K) : gM l D cy 91 ad (shC ad cy) yX3_size cX3_size 2 (some .int) 1 21 [.ref (ad 23), .ref (ad 64)] M (gQi D 91 ad (shC ad cy) K) := by
  refine gM.of (own := RX3) (lv := [(0, .ref (ad 23)), (1, .ref (ad 64))]) (by decide) rfl hI (Nat.le_of_ble_eq_true rfl) rfl ?_
  intro p e s m below meth c ls H locs X G hl
  have hx := X.1
  have hb := X.2.1
  unfold f_X3_size_23 at h
  refine lv_aload_n hx hb dX3_size_0 rfl (lv_at hl 1 rfl) ?_
  refine lv_bipush (v := (10)) hx hb dX3_size_1 (by decide) ?_
  refine gq_callv G (gc_VN (C := RX0) (rest := []) X hl.1 G (m_X0_leave hI  h) cw_X0_leave nm_73 qw_38_12 qw_38_13 ob_Asked rfl rfl rfl rfl (Nat.le_of_ble_eq_true rfl) ⟨Nat.le_of_ble_eq_true rfl, Nat.le_of_ble_eq_true rfl⟩ ⟨Nat.le_refl _, Nat.le_refl _⟩ dX3_size_3) (fun M1 H locs G h => ?_)
  refine lv_aload_n hx hb dX3_size_6 rfl (lv_at hl 1 rfl) ?_
  refine gfN_Asked_known X G nf_45 dX3_size_7 ?_
  exact gq_iret X G h dX3_size_10
def f_X2_size_23  (M : Mm) (K : Int32 → Mm → Prop) : Prop := (f_X0_leave (13) M (fun M1 => (f_X3_size_23  M1 (fun r3 M2 => K (r3 - 100) M2))))
set_option maxHeartbeats 4000000 in
set_option maxRecDepth 100000 in
theorem m_X2_size_23 (hI : gI 91 ad)  {M : Mm} {K : Int32 → Mm → Prop} (h : f_X2_size_23  M K) : gM l D cy 91 ad (shC ad cy) yX2_size cX2_size 2 (some .int) 2 42 [.ref (ad 23), .ref (ad 64)] M (gQi D 91 ad (shC ad cy) K) := by
  refine gM.of (own := RX2) (lv := [(0, .ref (ad 23)), (1, .ref (ad 64))]) (by decide) rfl hI (Nat.le_of_ble_eq_true rfl) rfl ?_
  intro p e s m below meth c ls H locs X G hl
  have hx := X.1
  have hb := X.2.1
  unfold f_X2_size_23 at h
  refine lv_aload_n hx hb dX2_size_0 rfl (lv_at hl 1 rfl) ?_
  refine lv_bipush (v := (13)) hx hb dX2_size_1 (by decide) ?_
  refine gq_callv G (gc_VN (C := RX0) (rest := []) X hl.1 G (m_X0_leave hI  h) cw_X0_leave nm_69 qw_38_12 qw_38_13 ob_Asked rfl rfl rfl rfl (Nat.le_of_ble_eq_true rfl) ⟨Nat.le_of_ble_eq_true rfl, Nat.le_of_ble_eq_true rfl⟩ ⟨Nat.le_refl _, Nat.le_refl _⟩ dX2_size_3) (fun M1 H locs G h => ?_)
  refine lv_aload_n hx hb dX2_size_6 rfl (lv_at hl 0 rfl) ?_
  refine lv_aload_n hx hb dX2_size_7 rfl (lv_at hl 1 rfl) ?_
  refine gq_calli G (gc_SU (rest := []) X hl.1 G (m_X3_size_23 hI  h) cw_X3_size qw_38_20 qw_38_7 qw_38_21 qw_38_22 (by decide) ob_Boy rfl rfl rfl (Nat.le_of_ble_eq_true rfl) ⟨Nat.le_of_ble_eq_true rfl, Nat.le_of_ble_eq_true rfl⟩ ⟨Nat.le_refl _, Nat.le_refl _⟩ dX2_size_8) (fun r3 M2 H locs G h => ?_)
  refine lv_bipush (v := (100)) hx hb dX2_size_11 (by decide) ?_
  refine lv_isub hx hb dX2_size_13 ?_
  exact gq_iret X G h dX2_size_14
def f_X1_size_23  (M : Mm) (K : Int32 → Mm → Prop) : Prop := (f_X0_leave (14) M (fun M1 => (f_X2_size_23  M1 (fun r3 M2 => K (r3 * 2) M2))))
set_option maxHeartbeats 4000000 in
set_option maxRecDepth 100000 in
theorem m_X1_size_23 (hI : gI 91 ad)  {M : Mm} {K : Int32 → Mm → Prop} (h : f_X1_size_23  M K) : gM l D cy 91 ad (shC ad cy) yX1_size cX1_size 2 (some .int) 3 63 [.ref (ad 23), .ref (ad 64)] M (gQi D 91 ad (shC ad cy) K) := by
  refine gM.of (own := RX1) (lv := [(0, .ref (ad 23)), (1, .ref (ad 64))]) (by decide) rfl hI (Nat.le_of_ble_eq_true rfl) rfl ?_
  intro p e s m below meth c ls H locs X G hl
  have hx := X.1
  have hb := X.2.1
  unfold f_X1_size_23 at h
  refine lv_aload_n hx hb dX1_size_0 rfl (lv_at hl 1 rfl) ?_
  refine lv_bipush (v := (14)) hx hb dX1_size_1 (by decide) ?_
  refine gq_callv G (gc_VN (C := RX0) (rest := []) X hl.1 G (m_X0_leave hI  h) cw_X0_leave nm_68 qw_38_12 qw_38_13 ob_Asked rfl rfl rfl rfl (Nat.le_of_ble_eq_true rfl) ⟨Nat.le_of_ble_eq_true rfl, Nat.le_of_ble_eq_true rfl⟩ ⟨Nat.le_refl _, Nat.le_refl _⟩ dX1_size_3) (fun M1 H locs G h => ?_)
  refine lv_aload_n hx hb dX1_size_6 rfl (lv_at hl 0 rfl) ?_
  refine lv_aload_n hx hb dX1_size_7 rfl (lv_at hl 1 rfl) ?_
  refine gq_calli G (gc_SU (rest := []) X hl.1 G (m_X2_size_23 hI  h) cw_X2_size qw_38_15 qw_38_16 qw_38_17 qw_38_18 (by decide) ob_Boy rfl rfl rfl (Nat.le_of_ble_eq_true rfl) ⟨Nat.le_of_ble_eq_true rfl, Nat.le_of_ble_eq_true rfl⟩ ⟨Nat.le_refl _, Nat.le_refl _⟩ dX1_size_8) (fun r3 M2 H locs G h => ?_)
  refine lv_iconst (v := (2)) hx hb dX1_size_11 (by decide) ?_
  refine lv_imul hx hb dX1_size_12 ?_
  exact gq_iret X G h dX1_size_13
def f_X2_mark_23  (M : Mm) (K : Int32 → Mm → Prop) : Prop := (f_X0_leave (23) M (fun M1 => (f_X3_mark_23  M1 (fun r3 M2 => (f_X1_size_23  M2 (fun r5 M4 => K (r3 - r5) M4))))))
set_option maxHeartbeats 4000000 in
set_option maxRecDepth 100000 in
theorem m_X2_mark_23 (hI : gI 91 ad)  {M : Mm} {K : Int32 → Mm → Prop} (h : f_X2_mark_23  M K) : gM l D cy 91 ad (shC ad cy) yX2_mark cX2_mark 3 (some .int) 4 84 [.ref (ad 23), .ref (ad 64)] M (gQi D 91 ad (shC ad cy) K) := by
  refine gM.of (own := RX2) (lv := [(0, .ref (ad 23)), (1, .ref (ad 64))]) (by decide) rfl hI (Nat.le_of_ble_eq_true rfl) rfl ?_
  intro p e s m below meth c ls H locs X G hl
  have hx := X.1
  have hb := X.2.1
  unfold f_X2_mark_23 at h
  refine lv_aload_n hx hb dX2_mark_0 rfl (lv_at hl 1 rfl) ?_
  refine lv_bipush (v := (23)) hx hb dX2_mark_1 (by decide) ?_
  refine gq_callv G (gc_VN (C := RX0) (rest := []) X hl.1 G (m_X0_leave hI  h) cw_X0_leave nm_69 qw_38_12 qw_38_13 ob_Asked rfl rfl rfl rfl (Nat.le_of_ble_eq_true rfl) ⟨Nat.le_of_ble_eq_true rfl, Nat.le_of_ble_eq_true rfl⟩ ⟨Nat.le_refl _, Nat.le_refl _⟩ dX2_mark_3) (fun M1 H locs G h => ?_)
  refine lv_aload_n hx hb dX2_mark_6 rfl (lv_at hl 0 rfl) ?_
  refine lv_aload_n hx hb dX2_mark_7 rfl (lv_at hl 1 rfl) ?_
  refine gq_calli G (gc_SU (rest := []) X hl.1 G (m_X3_mark_23 hI  h) cw_X3_mark qw_40_13 qw_39_11 qw_38_21 qw_39_12 (by decide) ob_Boy rfl rfl rfl (Nat.le_of_ble_eq_true rfl) ⟨Nat.le_of_ble_eq_true rfl, Nat.le_of_ble_eq_true rfl⟩ ⟨Nat.le_refl _, Nat.le_refl _⟩ dX2_mark_8) (fun r3 M2 H locs G h => ?_)
  refine lv_istore_n (lv' := [(2, .int (r3)), (0, .ref (ad 23)), (1, .ref (ad 64))]) hx hb dX2_mark_11 rfl hl (by decide) rfl (fun ls hl => ?_)
  refine lv_iload_n hx hb dX2_mark_12 rfl (lv_at hl 0 rfl) ?_
  refine lv_aload_n hx hb dX2_mark_13 rfl (lv_at hl 1 rfl) ?_
  refine lv_aload_n hx hb dX2_mark_14 rfl (lv_at hl 2 rfl) ?_
  refine gq_calli G (gc_O (x := yX2_size) (owner := "PaperHouses$Doctor") (C := RX1) (rest := [.int (r3)]) X hl.1 G (m_X1_size_23 hI  h) cw_X1_size qw_40_17 qw_38_16 (va_Decl.of (X.2.2.2.2.1 _ qw_38_18) (X.2.2.2.2.1 _ qw_38_19)) (by decide) rfl qw_38_10 qw_40_16 ob_Boy rfl rfl rfl rfl (Nat.le_of_ble_eq_true rfl) ⟨Nat.le_of_ble_eq_true rfl, Nat.le_of_ble_eq_true rfl⟩ ⟨Nat.le_refl _, Nat.le_refl _⟩ dX2_mark_15) (fun r5 M4 H locs G h => ?_)
  refine lv_isub hx hb dX2_mark_18 ?_
  exact gq_iret X G h dX2_mark_19
end GEN04
