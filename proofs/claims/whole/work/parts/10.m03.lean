section GEN03
variable {l : Launch} {D : va_G} {cy : Nat → ClassId} {ad : Nat → Nat}
def l_X6_knownByParty_4 (K : Int32 → Mm → Prop) (v0 : Nat) (v1 : Int32) : Nat → Int32 → Int32 → Mm → Prop
  | 0, _, _, _ => False
  | n + 1, v2, v3, M => ((((M v0 10 : Int32) ≤ v3 : Prop) → K (v2) M) ∧ (¬ ((M v0 10 : Int32) ≤ v3 : Prop) → (f_X11_bitOf (v1) (v3) M (fun r3 M2 => ((((r3 : Int32) = 1 : Prop) → (vp_in (v3) 5 ∧ (l_X6_knownByParty_4 K v0 v1 n) (v2 ||| (M2 (v0 + 6) (v3 : Int32).toNatClampNeg)) (v3 + 1) M2)) ∧ (¬ ((r3 : Int32) = 1 : Prop) → (l_X6_knownByParty_4 K v0 v1 n) (v2) (v3 + 1) M2))))))
def f_X6_knownByParty (v0 : Nat) (v1 : Int32) (M : Mm) (K : Int32 → Mm → Prop) : Prop := ∃ z, l_X6_knownByParty_4 K (v0) (v1) z (0) (0) M
set_option maxHeartbeats 4000000 in
set_option maxRecDepth 100000 in
theorem m_X6_knownByParty (hI : gI 91 ad) {v0 : Nat} (hv0 : isPap v0) {v1 : Int32} {M : Mm} {K : Int32 → Mm → Prop} (h : f_X6_knownByParty v0 v1 M K) : gM l D cy 91 ad (shC ad cy) yX6_knownByParty cX6_knownByParty 4 (some .int) 1 21 [.ref (ad v0), .int (v1)] M (gQi D 91 ad (shC ad cy) K) := by
  refine gM.of (own := RX6) (lv := [(0, .ref (ad v0)), (1, .int (v1))]) (by decide) rfl hI (Nat.le_of_ble_eq_true rfl) rfl ?_
  intro p e s m below meth c ls H locs X G hl
  have hx := X.1
  have hb := X.2.1
  have hL4 : ∀ (n : Nat) (v2 : Int32) (v3 : Int32) (M : Mm) (H : Heap) (locs : List Loc) (ls : Array Slot), gS D s 91 ad (shC ad cy) H locs M → lv_has ls 4 [(0, .ref (ad v0)), (1, .int (v1)), (2, .int (v2)), (3, .int (v3))] → l_X6_knownByParty_4 K v0 v1 n v2 v3 M → gWk p l e 1 21 s m ([.ref (ad v0), .int (v1)] : List Value).toArray below meth c H locs (gQi D 91 ad (shC ad cy) K) 91 ad 4 ls [] := by
    intro n4
    induction n4 with
    | zero =>
      intro v2 v3 M H locs ls G hl h
      exact False.elim h
    | succ n4 ih4 =>
      intro v2 v3 M H locs ls G hl h
      rw [l_X6_knownByParty_4] at h
      refine lv_iload_n hx hb dX6_knownByParty_4 rfl (lv_at hl 3 rfl) ?_
      refine lv_aload_n hx hb dX6_knownByParty_5 rfl (lv_at hl 0 rfl) ?_
      refine gf_Paper_folkCount X G hv0 qw_11_5 dX6_knownByParty_6 ?_
      refine lv_icmp_ge (tgt := 36) hx hb dX6_knownByParty_9 (by decide) (fun c1 => ?_) (fun c1 => ?_)
      · have h := h.1 c1
        refine lv_iload_n hx hb dX6_knownByParty_36 rfl (lv_at hl 2 rfl) ?_
        exact gq_iret X G h dX6_knownByParty_37
      have h := h.2 c1
      refine lv_iload_n hx hb dX6_knownByParty_12 rfl (lv_at hl 1 rfl) ?_
      refine lv_iload_n hx hb dX6_knownByParty_13 rfl (lv_at hl 3 rfl) ?_
      refine gq_calli G (gc_SN (rest := []) X hl.1 G (m_X11_bitOf hI  h) cw_X11_bitOf nm_40 qw_22_0 rfl rfl (Nat.le_of_ble_eq_true rfl) ⟨Nat.le_of_ble_eq_true rfl, Nat.le_of_ble_eq_true rfl⟩ ⟨Nat.le_refl _, Nat.le_refl _⟩ dX6_knownByParty_14) (fun r3 M2 H locs G h => ?_)
      refine lv_iconst (v := (1)) hx hb dX6_knownByParty_17 (by decide) ?_
      refine lv_icmp_ne (tgt := 30) hx hb dX6_knownByParty_18 (by decide) (fun c4 => ?_) (fun c4 => ?_)
      · have h := h.2 c4
        refine lv_iinc (v := v3 + 1) (lv' := [(3, .int (v3 + 1)), (0, .ref (ad v0)), (1, .int (v1)), (2, .int (v2))]) hx hb dX6_knownByParty_30 hl (k := 3) rfl rfl (by decide) rfl (fun ls hl => ?_)
        refine lv_goto (tgt := 4) hx hb dX6_knownByParty_33 (by decide) ?_
        exact ih4 (v2) (v3 + 1) M2 H locs ls G  (lv_sub hl [1, 2, 3, 0] rfl) h
      have h := h.1 c4
      refine lv_iload_n hx hb dX6_knownByParty_21 rfl (lv_at hl 2 rfl) ?_
      refine lv_aload_n hx hb dX6_knownByParty_22 rfl (lv_at hl 0 rfl) ?_
      refine gf_Paper_knows X G hv0 qw_4_13 dX6_knownByParty_23 ?_
      refine lv_iload_n hx hb dX6_knownByParty_26 rfl (lv_at hl 3 rfl) ?_
      obtain ⟨q5, h⟩ := h
      refine gq_iald X G (ar_Paper_knows hv0) q5 dX6_knownByParty_27 ?_
      refine lv_ior hx hb dX6_knownByParty_28 ?_
      refine lv_istore_n (lv' := [(2, .int (v2 ||| (M2 (v0 + 6) (v3 : Int32).toNatClampNeg))), (0, .ref (ad v0)), (1, .int (v1)), (3, .int (v3))]) hx hb dX6_knownByParty_29 rfl hl (by decide) rfl (fun ls hl => ?_)
      refine lv_iinc (v := v3 + 1) (lv' := [(3, .int (v3 + 1)), (2, .int (v2 ||| (M2 (v0 + 6) (v3 : Int32).toNatClampNeg))), (0, .ref (ad v0)), (1, .int (v1))]) hx hb dX6_knownByParty_30 hl (k := 3) rfl rfl (by decide) rfl (fun ls hl => ?_)
      refine lv_goto (tgt := 4) hx hb dX6_knownByParty_33 (by decide) ?_
      exact ih4 (v2 ||| (M2 (v0 + 6) (v3 : Int32).toNatClampNeg)) (v3 + 1) M2 H locs ls G  (lv_sub hl [2, 3, 1, 0] rfl) h
  unfold f_X6_knownByParty at h
  refine lv_iconst (v := (0)) hx hb dX6_knownByParty_0 (by decide) ?_
  refine lv_istore_n (lv' := [(2, .int (0)), (0, .ref (ad v0)), (1, .int (v1))]) hx hb dX6_knownByParty_1 rfl hl (by decide) rfl (fun ls hl => ?_)
  refine lv_iconst (v := (0)) hx hb dX6_knownByParty_2 (by decide) ?_
  refine lv_istore_n (lv' := [(3, .int (0)), (2, .int (0)), (0, .ref (ad v0)), (1, .int (v1))]) hx hb dX6_knownByParty_3 rfl hl (by decide) rfl (fun ls hl => ?_)
  obtain ⟨n6, h⟩ := h
  exact hL4   n6 (0) (0) M H locs ls G  (lv_sub hl [2, 3, 1, 0] rfl) h
def l_X6_fewestWhoKnowAll_7 (K : Int32 → Mm → Prop) (v0 : Nat) : Nat → Int32 → Int32 → Int32 → Mm → Prop
  | 0, _, _, _, _ => False
  | n + 1, v1, v2, v3, M => ((((1 <<< ((M v0 10) &&& 31) : Int32) ≤ v3 : Prop) → K (v1) M) ∧ (¬ ((1 <<< ((M v0 10) &&& 31) : Int32) ≤ v3 : Prop) → (f_J6_bitCount_0f7a4 (v3) M (fun r3 M2 => ((((v2 : Int32) ≤ r3 : Prop) → (l_X6_fewestWhoKnowAll_7 K v0 n) (v1) (v2) (v3 + 1) M2) ∧ (¬ ((v2 : Int32) ≤ r3 : Prop) → (f_X6_knownByParty v0 (v3) M2 (fun r6 M5 => (f_X6_allCells v0 M5 (fun r8 M7 => ((((r6 : Int32) = r8 : Prop) → (f_J6_bitCount_0f7a4 (v3) M7 (fun r11 M10 => (l_X6_fewestWhoKnowAll_7 K v0 n) (v3) (r11) (v3 + 1) M10))) ∧ (¬ ((r6 : Int32) = r8 : Prop) → (l_X6_fewestWhoKnowAll_7 K v0 n) (v1) (v2) (v3 + 1) M7))))))))))))
def f_X6_fewestWhoKnowAll (v0 : Nat) (M : Mm) (K : Int32 → Mm → Prop) : Prop := ∃ z, l_X6_fewestWhoKnowAll_7 K (v0) z (0) (6) (1) M
set_option maxHeartbeats 4000000 in
set_option maxRecDepth 100000 in
theorem m_X6_fewestWhoKnowAll (hI : gI 91 ad) {v0 : Nat} (hv0 : isPap v0) {M : Mm} {K : Int32 → Mm → Prop} (h : f_X6_fewestWhoKnowAll v0 M K) : gM l D cy 91 ad (shC ad cy) yX6_fewestWhoKnowAll cX6_fewestWhoKnowAll 4 (some .int) 2 44 [.ref (ad v0)] M (gQi D 91 ad (shC ad cy) K) := by
  refine gM.of (own := RX6) (lv := [(0, .ref (ad v0))]) (by decide) rfl hI (Nat.le_of_ble_eq_true rfl) rfl ?_
  intro p e s m below meth c ls H locs X G hl
  have hx := X.1
  have hb := X.2.1
  have hL7 : ∀ (n : Nat) (v1 : Int32) (v2 : Int32) (v3 : Int32) (M : Mm) (H : Heap) (locs : List Loc) (ls : Array Slot), gS D s 91 ad (shC ad cy) H locs M → lv_has ls 4 [(0, .ref (ad v0)), (1, .int (v1)), (2, .int (v2)), (3, .int (v3))] → l_X6_fewestWhoKnowAll_7 K v0 n v1 v2 v3 M → gWk p l e 2 44 s m ([.ref (ad v0)] : List Value).toArray below meth c H locs (gQi D 91 ad (shC ad cy) K) 91 ad 7 ls [] := by
    intro n7
    induction n7 with
    | zero =>
      intro v1 v2 v3 M H locs ls G hl h
      exact False.elim h
    | succ n7 ih7 =>
      intro v1 v2 v3 M H locs ls G hl h
      rw [l_X6_fewestWhoKnowAll_7] at h
      refine lv_iload_n hx hb dX6_fewestWhoKnowAll_7 rfl (lv_at hl 3 rfl) ?_
      refine lv_iconst (v := (1)) hx hb dX6_fewestWhoKnowAll_8 (by decide) ?_
      refine lv_aload_n hx hb dX6_fewestWhoKnowAll_9 rfl (lv_at hl 0 rfl) ?_
      refine gf_Paper_folkCount X G hv0 qw_11_5 dX6_fewestWhoKnowAll_10 ?_
      refine lv_ishl hx hb dX6_fewestWhoKnowAll_13 ?_
      refine lv_icmp_ge (tgt := 50) hx hb dX6_fewestWhoKnowAll_14 (by decide) (fun c1 => ?_) (fun c1 => ?_)
      · have h := h.1 c1
        refine lv_iload_n hx hb dX6_fewestWhoKnowAll_50 rfl (lv_at hl 1 rfl) ?_
        exact gq_iret X G h dX6_fewestWhoKnowAll_51
      have h := h.2 c1
      refine lv_iload_n hx hb dX6_fewestWhoKnowAll_17 rfl (lv_at hl 3 rfl) ?_
      refine gq_calli G (gc_S (rest := []) X hl.1 G (m_J6_bitCount_0f7a4 hI  h) cw_J6_bitCount_0f7a4 qw_29_10 qw_28_13 rfl rfl (Nat.le_of_ble_eq_true rfl) ⟨Nat.le_of_ble_eq_true rfl, Nat.le_of_ble_eq_true rfl⟩ ⟨Nat.le_refl _, Nat.le_refl _⟩ dX6_fewestWhoKnowAll_18) (fun r3 M2 H locs G h => ?_)
      refine lv_iload_n hx hb dX6_fewestWhoKnowAll_21 rfl (lv_at hl 2 rfl) ?_
      refine lv_icmp_ge (tgt := 44) hx hb dX6_fewestWhoKnowAll_22 (by decide) (fun c4 => ?_) (fun c4 => ?_)
      · have h := h.1 c4
        refine lv_iinc (v := v3 + 1) (lv' := [(3, .int (v3 + 1)), (0, .ref (ad v0)), (1, .int (v1)), (2, .int (v2))]) hx hb dX6_fewestWhoKnowAll_44 hl (k := 3) rfl rfl (by decide) rfl (fun ls hl => ?_)
        refine lv_goto (tgt := 7) hx hb dX6_fewestWhoKnowAll_47 (by decide) ?_
        exact ih7 (v1) (v2) (v3 + 1) M2 H locs ls G  (lv_sub hl [1, 2, 3, 0] rfl) h
      have h := h.2 c4
      refine lv_aload_n hx hb dX6_fewestWhoKnowAll_25 rfl (lv_at hl 0 rfl) ?_
      refine lv_iload_n hx hb dX6_fewestWhoKnowAll_26 rfl (lv_at hl 3 rfl) ?_
      refine gq_calli G (gc_V (C := RX6) (rest := []) X hl.1 G (m_X6_knownByParty hI hv0 h) cw_X6_knownByParty qw_29_11 qw_29_12 qw_29_13 (ob_Paper hv0) rfl rfl rfl rfl (Nat.le_of_ble_eq_true rfl) ⟨Nat.le_of_ble_eq_true rfl, Nat.le_of_ble_eq_true rfl⟩ ⟨Nat.le_refl _, Nat.le_refl _⟩ dX6_fewestWhoKnowAll_27) (fun r6 M5 H locs G h => ?_)
      refine lv_aload_n hx hb dX6_fewestWhoKnowAll_30 rfl (lv_at hl 0 rfl) ?_
      refine gq_calli G (gc_V (C := RX6) (rest := [.int (r6)]) X hl.1 G (m_X6_allCells hI hv0 h) cw_X6_allCells qw_29_15 qw_19_0 qw_19_1 (ob_Paper hv0) rfl rfl rfl rfl (Nat.le_of_ble_eq_true rfl) ⟨Nat.le_of_ble_eq_true rfl, Nat.le_of_ble_eq_true rfl⟩ ⟨Nat.le_refl _, Nat.le_refl _⟩ dX6_fewestWhoKnowAll_31) (fun r8 M7 H locs G h => ?_)
      refine lv_icmp_ne (tgt := 44) hx hb dX6_fewestWhoKnowAll_34 (by decide) (fun c9 => ?_) (fun c9 => ?_)
      · have h := h.2 c9
        refine lv_iinc (v := v3 + 1) (lv' := [(3, .int (v3 + 1)), (0, .ref (ad v0)), (1, .int (v1)), (2, .int (v2))]) hx hb dX6_fewestWhoKnowAll_44 hl (k := 3) rfl rfl (by decide) rfl (fun ls hl => ?_)
        refine lv_goto (tgt := 7) hx hb dX6_fewestWhoKnowAll_47 (by decide) ?_
        exact ih7 (v1) (v2) (v3 + 1) M7 H locs ls G  (lv_sub hl [1, 2, 3, 0] rfl) h
      have h := h.1 c9
      refine lv_iload_n hx hb dX6_fewestWhoKnowAll_37 rfl (lv_at hl 3 rfl) ?_
      refine lv_istore_n (lv' := [(1, .int (v3)), (0, .ref (ad v0)), (2, .int (v2)), (3, .int (v3))]) hx hb dX6_fewestWhoKnowAll_38 rfl hl (by decide) rfl (fun ls hl => ?_)
      refine lv_iload_n hx hb dX6_fewestWhoKnowAll_39 rfl (lv_at hl 3 rfl) ?_
      refine gq_calli G (gc_S (rest := []) X hl.1 G (m_J6_bitCount_0f7a4 hI  h) cw_J6_bitCount_0f7a4 qw_29_10 qw_28_13 rfl rfl (Nat.le_of_ble_eq_true rfl) ⟨Nat.le_of_ble_eq_true rfl, Nat.le_of_ble_eq_true rfl⟩ ⟨Nat.le_refl _, Nat.le_refl _⟩ dX6_fewestWhoKnowAll_40) (fun r11 M10 H locs G h => ?_)
      refine lv_istore_n (lv' := [(2, .int (r11)), (1, .int (v3)), (0, .ref (ad v0)), (3, .int (v3))]) hx hb dX6_fewestWhoKnowAll_43 rfl hl (by decide) rfl (fun ls hl => ?_)
      refine lv_iinc (v := v3 + 1) (lv' := [(3, .int (v3 + 1)), (2, .int (r11)), (1, .int (v3)), (0, .ref (ad v0))]) hx hb dX6_fewestWhoKnowAll_44 hl (k := 3) rfl rfl (by decide) rfl (fun ls hl => ?_)
      refine lv_goto (tgt := 7) hx hb dX6_fewestWhoKnowAll_47 (by decide) ?_
      exact ih7 (v3) (r11) (v3 + 1) M10 H locs ls G  (lv_sub hl [3, 2, 1, 0] rfl) h
  unfold f_X6_fewestWhoKnowAll at h
  refine lv_iconst (v := (0)) hx hb dX6_fewestWhoKnowAll_0 (by decide) ?_
  refine lv_istore_n (lv' := [(1, .int (0)), (0, .ref (ad v0))]) hx hb dX6_fewestWhoKnowAll_1 rfl hl (by decide) rfl (fun ls hl => ?_)
  refine lv_bipush (v := (6)) hx hb dX6_fewestWhoKnowAll_2 (by decide) ?_
  refine lv_istore_n (lv' := [(2, .int (6)), (1, .int (0)), (0, .ref (ad v0))]) hx hb dX6_fewestWhoKnowAll_4 rfl hl (by decide) rfl (fun ls hl => ?_)
  refine lv_iconst (v := (1)) hx hb dX6_fewestWhoKnowAll_5 (by decide) ?_
  refine lv_istore_n (lv' := [(3, .int (1)), (2, .int (6)), (1, .int (0)), (0, .ref (ad v0))]) hx hb dX6_fewestWhoKnowAll_6 rfl hl (by decide) rfl (fun ls hl => ?_)
  obtain ⟨n12, h⟩ := h
  exact hL7   n12 (0) (6) (1) M H locs ls G  (lv_sub hl [3, 2, 1, 0] rfl) h
def f_X11_together (v1 : Int32) (M : Mm) (K : Int32 → Mm → Prop) : Prop := (f_X11_noPaper  M (fun r2 M1 => ((((r2 : Int32) = 0 : Prop) → (f_X11_isBit (v1) M1 (fun r5 M4 => ((((r5 : Int32) = 0 : Prop) → K (-1000001) M4) ∧ (¬ ((r5 : Int32) = 0 : Prop) → (f_X6_fewestWhoKnowAll 26 M4 (fun r8 M7 => ((((r8 : Int32) = 0 : Prop) → K (-1000000) M7) ∧ (¬ ((r8 : Int32) = 0 : Prop) → ((((v1 : Int32) = 0 : Prop) → (f_J6_bitCount_0f7a4 (r8) M7 (fun r12 M11 => K (r12) M11))) ∧ (¬ ((v1 : Int32) = 0 : Prop) → K (r8) M7))))))))))) ∧ (¬ ((r2 : Int32) = 0 : Prop) → K (-1000002) M1))))
set_option maxHeartbeats 4000000 in
set_option maxRecDepth 100000 in
theorem m_X11_together (hI : gI 91 ad) {v1 : Int32} {M : Mm} {K : Int32 → Mm → Prop} (h : f_X11_together v1 M K) : gM l D cy 91 ad (shC ad cy) yX11_together cX11_together 3 (some .int) 3 67 [.ref (ad 0), .int (v1)] M (gQi D 91 ad (shC ad cy) K) := by
  refine gM.of (own := RX11) (lv := [(0, .ref (ad 0)), (1, .int (v1))]) (by decide) rfl hI (Nat.le_of_ble_eq_true rfl) rfl ?_
  intro p e s m below meth c ls H locs X G hl
  have hx := X.1
  have hb := X.2.1
  unfold f_X11_together at h
  refine lv_aload_n hx hb dX11_together_0 rfl (lv_at hl 0 rfl) ?_
  refine gq_calli G (gc_V (C := RX11) (rest := []) X hl.1 G (m_X11_noPaper hI  h) cw_X11_noPaper qw_16_17 qw_16_18 qw_16_19 ob_PH rfl rfl rfl rfl (Nat.le_of_ble_eq_true rfl) ⟨Nat.le_of_ble_eq_true rfl, Nat.le_of_ble_eq_true rfl⟩ ⟨Nat.le_refl _, Nat.le_refl _⟩ dX11_together_1) (fun r2 M1 H locs G h => ?_)
  refine lv_if_eq (tgt := 10) hx hb dX11_together_4 (by decide) (fun c3 => ?_) (fun c3 => ?_)
  · have h := h.1 c3
    refine lv_iload_n hx hb dX11_together_10 rfl (lv_at hl 1 rfl) ?_
    refine gq_calli G (gc_S (rest := []) X hl.1 G (m_X11_isBit hI  h) cw_X11_isBit qw_21_2 qw_21_3 rfl rfl (Nat.le_of_ble_eq_true rfl) ⟨Nat.le_of_ble_eq_true rfl, Nat.le_of_ble_eq_true rfl⟩ ⟨Nat.le_refl _, Nat.le_refl _⟩ dX11_together_11) (fun r5 M4 H locs G h => ?_)
    refine lv_if_ne (tgt := 20) hx hb dX11_together_14 (by decide) (fun c6 => ?_) (fun c6 => ?_)
    · have h := h.2 c6
      refine lv_aload_n hx hb dX11_together_20 rfl (lv_at hl 0 rfl) ?_
      refine gf_PH_now X G qw_2_16 dX11_together_21 ?_
      refine gq_calli G (gc_VN (C := RX6) (rest := []) X hl.1 G (m_X6_fewestWhoKnowAll hI isPap_26 h) cw_X6_fewestWhoKnowAll nm_52 qw_29_7 qw_29_8 (ob_Paper isPap_26) rfl rfl rfl rfl (Nat.le_of_ble_eq_true rfl) ⟨Nat.le_of_ble_eq_true rfl, Nat.le_of_ble_eq_true rfl⟩ ⟨Nat.le_refl _, Nat.le_refl _⟩ dX11_together_24) (fun r8 M7 H locs G h => ?_)
      refine lv_istore_n (lv' := [(2, .int (r8)), (0, .ref (ad 0)), (1, .int (v1))]) hx hb dX11_together_27 rfl hl (by decide) rfl (fun ls hl => ?_)
      refine lv_iload_n hx hb dX11_together_28 rfl (lv_at hl 0 rfl) ?_
      refine lv_if_ne (tgt := 36) hx hb dX11_together_29 (by decide) (fun c9 => ?_) (fun c9 => ?_)
      · have h := h.2 c9
        refine lv_iload_n hx hb dX11_together_36 rfl (lv_at hl 2 rfl) ?_
        refine lv_if_ne (tgt := 47) hx hb dX11_together_37 (by decide) (fun c10 => ?_) (fun c10 => ?_)
        · have h := h.2 c10
          refine lv_iload_n hx hb dX11_together_47 rfl (lv_at hl 0 rfl) ?_
          exact gq_iret X G h dX11_together_48
        have h := h.1 c10
        refine lv_iload_n hx hb dX11_together_40 rfl (lv_at hl 0 rfl) ?_
        refine gq_calli G (gc_S (rest := []) X hl.1 G (m_J6_bitCount_0f7a4 hI  h) cw_J6_bitCount_0f7a4 qw_28_12 qw_28_13 rfl rfl (Nat.le_of_ble_eq_true rfl) ⟨Nat.le_of_ble_eq_true rfl, Nat.le_of_ble_eq_true rfl⟩ ⟨Nat.le_refl _, Nat.le_refl _⟩ dX11_together_41) (fun r12 M11 H locs G h => ?_)
        refine lv_goto (tgt := 48) hx hb dX11_together_44 (by decide) ?_
        exact gq_iret X G h dX11_together_48
      have h := h.1 c9
      refine gq_ldcw (v := (-1000000)) X qw_29_6 dX11_together_32 ?_
      exact gq_iret X G h dX11_together_35
    have h := h.1 c6
    refine gq_ldc (v := (-1000001)) X qw_6_5 dX11_together_17 ?_
    exact gq_iret X G h dX11_together_19
  have h := h.2 c3
  refine gq_ldc (v := (-1000002)) X qw_16_16 dX11_together_7 ?_
  exact gq_iret X G h dX11_together_9
def l_X6_figureByPeriod_19 (K : Int32 → Mm → Prop) (v0 : Nat) (v1 : Int32) (v3 : Int32) : Nat → Int32 → Mm → Prop
  | 0, _, _ => False
  | n + 1, v4, M => ((((M v0 8 : Int32) ≤ v4 : Prop) → K (-1000000) M) ∧ (¬ ((M v0 8 : Int32) ≤ v4 : Prop) → (vp_in (v1) 5 ∧ (f_X11_bitOf (M (v0 + 6) (v1 : Int32).toNatClampNeg) (v4) M (fun r4 M3 => ((((r4 : Int32) = 1 : Prop) → (vp_in (v4) 24 ∧ K (M3 (v0 + 1) (v4 : Int32).toNatClampNeg) M3)) ∧ (¬ ((r4 : Int32) = 1 : Prop) → (l_X6_figureByPeriod_19 K v0 v1 v3 n) (v4 + v3) M3)))))))
def f_X6_figureByPeriod (v0 : Nat) (v1 : Int32) (v2 : Int32) (M : Mm) (K : Int32 → Mm → Prop) : Prop := (f_X6_periodOf v0 (v1) M (fun r8 M7 => ((((1 : Int32) ≤ r8 : Prop) → (¬ r8 = 0 ∧ ∃ z, l_X6_figureByPeriod_19 K (v0) (v1) (r8) z (v2 - v2 / r8 * r8) M7)) ∧ (¬ ((1 : Int32) ≤ r8 : Prop) → K (-1000000) M7))))
set_option maxHeartbeats 4000000 in
set_option maxRecDepth 100000 in
theorem m_X6_figureByPeriod (hI : gI 91 ad) {v0 : Nat} (hv0 : isPap v0) {v1 : Int32} {v2 : Int32} {M : Mm} {K : Int32 → Mm → Prop} (h : f_X6_figureByPeriod v0 v1 v2 M K) : gM l D cy 91 ad (shC ad cy) yX6_figureByPeriod cX6_figureByPeriod 5 (some .int) 3 67 [.ref (ad v0), .int (v1), .int (v2)] M (gQi D 91 ad (shC ad cy) K) := by
  refine gM.of (own := RX6) (lv := [(0, .ref (ad v0)), (1, .int (v1)), (2, .int (v2))]) (by decide) rfl hI (Nat.le_of_ble_eq_true rfl) rfl ?_
  intro p e s m below meth c ls H locs X G hl
  have hx := X.1
  have hb := X.2.1
  have hL19 : ∀ (v3 : Int32) (n : Nat) (v4 : Int32) (M : Mm) (H : Heap) (locs : List Loc) (ls : Array Slot), gS D s 91 ad (shC ad cy) H locs M → lv_has ls 5 [(0, .ref (ad v0)), (1, .int (v1)), (3, .int (v3)), (4, .int (v4))] → l_X6_figureByPeriod_19 K v0 v1 v3 n v4 M → gWk p l e 3 67 s m ([.ref (ad v0), .int (v1), .int (v2)] : List Value).toArray below meth c H locs (gQi D 91 ad (shC ad cy) K) 91 ad 19 ls [] := by
    intro v3 n19
    induction n19 with
    | zero =>
      intro v4 M H locs ls G hl h
      exact False.elim h
    | succ n19 ih19 =>
      intro v4 M H locs ls G hl h
      rw [l_X6_figureByPeriod_19] at h
      refine lv_iload hx hb dX6_figureByPeriod_19 (lv_at hl 3 rfl) ?_
      refine lv_aload_n hx hb dX6_figureByPeriod_21 rfl (lv_at hl 0 rfl) ?_
      refine gf_Paper_cells X G hv0 qw_11_3 dX6_figureByPeriod_22 ?_
      refine lv_icmp_ge (tgt := 60) hx hb dX6_figureByPeriod_25 (by decide) (fun c1 => ?_) (fun c1 => ?_)
      · have h := h.1 c1
        refine gq_ldc (v := (-1000000)) X qw_30_3 dX6_figureByPeriod_60 ?_
        exact gq_iret X G h dX6_figureByPeriod_62
      have h := h.2 c1
      refine lv_aload_n hx hb dX6_figureByPeriod_28 rfl (lv_at hl 0 rfl) ?_
      refine gf_Paper_knows X G hv0 qw_4_13 dX6_figureByPeriod_29 ?_
      refine lv_iload_n hx hb dX6_figureByPeriod_32 rfl (lv_at hl 1 rfl) ?_
      obtain ⟨q2, h⟩ := h
      refine gq_iald X G (ar_Paper_knows hv0) q2 dX6_figureByPeriod_33 ?_
      refine lv_iload hx hb dX6_figureByPeriod_34 (lv_at hl 3 rfl) ?_
      refine gq_calli G (gc_SN (rest := []) X hl.1 G (m_X11_bitOf hI  h) cw_X11_bitOf nm_40 qw_22_0 rfl rfl (Nat.le_of_ble_eq_true rfl) ⟨Nat.le_of_ble_eq_true rfl, Nat.le_of_ble_eq_true rfl⟩ ⟨Nat.le_refl _, Nat.le_refl _⟩ dX6_figureByPeriod_36) (fun r4 M3 H locs G h => ?_)
      refine lv_iconst (v := (1)) hx hb dX6_figureByPeriod_39 (by decide) ?_
      refine lv_icmp_ne (tgt := 51) hx hb dX6_figureByPeriod_40 (by decide) (fun c5 => ?_) (fun c5 => ?_)
      · have h := h.2 c5
        refine lv_iload hx hb dX6_figureByPeriod_51 (lv_at hl 3 rfl) ?_
        refine lv_iload_n hx hb dX6_figureByPeriod_53 rfl (lv_at hl 2 rfl) ?_
        refine lv_iadd hx hb dX6_figureByPeriod_54 ?_
        refine lv_istore (lv' := [(4, .int (v4 + v3)), (0, .ref (ad v0)), (1, .int (v1)), (3, .int (v3))]) hx hb dX6_figureByPeriod_55 hl (by decide) rfl (fun ls hl => ?_)
        refine lv_goto (tgt := 19) hx hb dX6_figureByPeriod_57 (by decide) ?_
        exact ih19 (v4 + v3) M3 H locs ls G  (lv_sub hl [1, 2, 3, 0] rfl) h
      have h := h.1 c5
      refine lv_aload_n hx hb dX6_figureByPeriod_43 rfl (lv_at hl 0 rfl) ?_
      refine gf_Paper_figures X G hv0 qw_4_8 dX6_figureByPeriod_44 ?_
      refine lv_iload hx hb dX6_figureByPeriod_47 (lv_at hl 3 rfl) ?_
      obtain ⟨q6, h⟩ := h
      refine gq_iald X G (ar_Paper_figures hv0) q6 dX6_figureByPeriod_49 ?_
      exact gq_iret X G h dX6_figureByPeriod_50
  unfold f_X6_figureByPeriod at h
  refine lv_aload_n hx hb dX6_figureByPeriod_0 rfl (lv_at hl 0 rfl) ?_
  refine lv_iload_n hx hb dX6_figureByPeriod_1 rfl (lv_at hl 1 rfl) ?_
  refine gq_calli G (gc_V (C := RX6) (rest := []) X hl.1 G (m_X6_periodOf hI hv0 h) cw_X6_periodOf qw_30_4 qw_25_10 qw_25_11 (ob_Paper hv0) rfl rfl rfl rfl (Nat.le_of_ble_eq_true rfl) ⟨Nat.le_of_ble_eq_true rfl, Nat.le_of_ble_eq_true rfl⟩ ⟨Nat.le_refl _, Nat.le_refl _⟩ dX6_figureByPeriod_2) (fun r8 M7 H locs G h => ?_)
  refine lv_istore_n (lv' := [(3, .int (r8)), (0, .ref (ad v0)), (1, .int (v1)), (2, .int (v2))]) hx hb dX6_figureByPeriod_5 rfl hl (by decide) rfl (fun ls hl => ?_)
  refine lv_iload_n hx hb dX6_figureByPeriod_6 rfl (lv_at hl 0 rfl) ?_
  refine lv_iconst (v := (1)) hx hb dX6_figureByPeriod_7 (by decide) ?_
  refine lv_icmp_ge (tgt := 14) hx hb dX6_figureByPeriod_8 (by decide) (fun c9 => ?_) (fun c9 => ?_)
  · have h := h.1 c9
    refine lv_iload_n hx hb dX6_figureByPeriod_14 rfl (lv_at hl 3 rfl) ?_
    refine lv_iload_n hx hb dX6_figureByPeriod_15 rfl (lv_at hl 0 rfl) ?_
    obtain ⟨q10, h⟩ := h
    refine lv_irem hx hb dX6_figureByPeriod_16 q10 ?_
    refine lv_istore (lv' := [(4, .int (v2 - v2 / r8 * r8)), (3, .int (r8)), (0, .ref (ad v0)), (1, .int (v1)), (2, .int (v2))]) hx hb dX6_figureByPeriod_17 hl (by decide) rfl (fun ls hl => ?_)
    obtain ⟨n11, h⟩ := h
    exact hL19 (r8)  n11 (v2 - v2 / r8 * r8) M7 H locs ls G  (lv_sub hl [2, 3, 1, 0] rfl) h
  have h := h.2 c9
  refine gq_ldc (v := (-1000000)) X qw_30_3 dX6_figureByPeriod_11 ?_
  exact gq_iret X G h dX6_figureByPeriod_13
def f_X11_beyond (v1 : Int32) (v2 : Int32) (M : Mm) (K : Int32 → Mm → Prop) : Prop := (f_X6_hasFolk 26 (v1) M (fun r2 M1 => ((((r2 : Int32) = 0 : Prop) → K (-1000001) M1) ∧ (¬ ((r2 : Int32) = 0 : Prop) → ((((v2 : Int32) < 0 : Prop) → K (-1000001) M1) ∧ (¬ ((v2 : Int32) < 0 : Prop) → ((((v2 : Int32) ≤ 99 : Prop) → (f_X6_figureByPeriod 26 (v1) (v2) M1 (fun r7 M6 => K (r7) M6))) ∧ (¬ ((v2 : Int32) ≤ 99 : Prop) → K (-1000001) M1))))))))
set_option maxHeartbeats 4000000 in
set_option maxRecDepth 100000 in
theorem m_X11_beyond (hI : gI 91 ad) {v1 : Int32} {v2 : Int32} {M : Mm} {K : Int32 → Mm → Prop} (h : f_X11_beyond v1 v2 M K) : gM l D cy 91 ad (shC ad cy) yX11_beyond cX11_beyond 3 (some .int) 4 91 [.ref (ad 0), .int (v1), .int (v2)] M (gQi D 91 ad (shC ad cy) K) := by
  refine gM.of (own := RX11) (lv := [(0, .ref (ad 0)), (1, .int (v1)), (2, .int (v2))]) (by decide) rfl hI (Nat.le_of_ble_eq_true rfl) rfl ?_
  intro p e s m below meth c ls H locs X G hl
  have hx := X.1
  have hb := X.2.1
  unfold f_X11_beyond at h
  refine lv_aload_n hx hb dX11_beyond_0 rfl (lv_at hl 0 rfl) ?_
  refine gf_PH_now X G qw_2_16 dX11_beyond_1 ?_
  refine lv_iload_n hx hb dX11_beyond_4 rfl (lv_at hl 1 rfl) ?_
  refine gq_calli G (gc_VN (C := RX6) (rest := []) X hl.1 G (m_X6_hasFolk hI isPap_26 h) cw_X6_hasFolk nm_34 qw_22_17 qw_22_18 (ob_Paper isPap_26) rfl rfl rfl rfl (Nat.le_of_ble_eq_true rfl) ⟨Nat.le_of_ble_eq_true rfl, Nat.le_of_ble_eq_true rfl⟩ ⟨Nat.le_refl _, Nat.le_refl _⟩ dX11_beyond_5) (fun r2 M1 H locs G h => ?_)
  refine lv_if_eq (tgt := 21) hx hb dX11_beyond_8 (by decide) (fun c3 => ?_) (fun c3 => ?_)
  · have h := h.1 c3
    refine gq_ldc (v := (-1000001)) X qw_6_5 dX11_beyond_21 ?_
    exact gq_iret X G h dX11_beyond_23
  have h := h.2 c3
  refine lv_iload_n hx hb dX11_beyond_11 rfl (lv_at hl 2 rfl) ?_
  refine lv_if_lt (tgt := 21) hx hb dX11_beyond_12 (by decide) (fun c4 => ?_) (fun c4 => ?_)
  · have h := h.1 c4
    refine gq_ldc (v := (-1000001)) X qw_6_5 dX11_beyond_21 ?_
    exact gq_iret X G h dX11_beyond_23
  have h := h.2 c4
  refine lv_iload_n hx hb dX11_beyond_15 rfl (lv_at hl 2 rfl) ?_
  refine lv_bipush (v := (99)) hx hb dX11_beyond_16 (by decide) ?_
  refine lv_icmp_le (tgt := 24) hx hb dX11_beyond_18 (by decide) (fun c5 => ?_) (fun c5 => ?_)
  · have h := h.1 c5
    refine lv_aload_n hx hb dX11_beyond_24 rfl (lv_at hl 0 rfl) ?_
    refine gf_PH_now X G qw_2_16 dX11_beyond_25 ?_
    refine lv_iload_n hx hb dX11_beyond_28 rfl (lv_at hl 1 rfl) ?_
    refine lv_iload_n hx hb dX11_beyond_29 rfl (lv_at hl 2 rfl) ?_
    refine gq_calli G (gc_VN (C := RX6) (rest := []) X hl.1 G (m_X6_figureByPeriod hI isPap_26 h) cw_X6_figureByPeriod nm_53 qw_30_0 qw_30_1 (ob_Paper isPap_26) rfl rfl rfl rfl (Nat.le_of_ble_eq_true rfl) ⟨Nat.le_of_ble_eq_true rfl, Nat.le_of_ble_eq_true rfl⟩ ⟨Nat.le_refl _, Nat.le_refl _⟩ dX11_beyond_30) (fun r7 M6 H locs G h => ?_)
    exact gq_iret X G h dX11_beyond_33
  have h := h.2 c5
  refine gq_ldc (v := (-1000001)) X qw_6_5 dX11_beyond_21 ?_
  exact gq_iret X G h dX11_beyond_23
def l_X6_isTold_3 (K : Int32 → Mm → Prop) (v0 : Nat) (v1 : Nat) (v2 : Int32) (v3 : Int32) (v4 : Int32) : Nat → Int32 → Mm → Prop
  | 0, _, _ => False
  | n + 1, v5, M => ((((v3 : Int32) ≤ v5 : Prop) → K 1 M) ∧ (¬ ((v3 : Int32) ≤ v5 : Prop) → (vp_in (v2 + v5) 40 ∧ (vp_in (v4 + v5) 24 ∧ ((((M (v1 + 1) (v2 + v5 : Int32).toNatClampNeg : Int32) = M (v0 + 1) (v4 + v5 : Int32).toNatClampNeg : Prop) → (l_X6_isTold_3 K v0 v1 v2 v3 v4 n) (v5 + 1) M) ∧ (¬ ((M (v1 + 1) (v2 + v5 : Int32).toNatClampNeg : Int32) = M (v0 + 1) (v4 + v5 : Int32).toNatClampNeg : Prop) → K 0 M))))))
def f_X6_isTold (v0 : Nat) (v1 : Nat) (v2 : Int32) (v3 : Int32) (v4 : Int32) (M : Mm) (K : Int32 → Mm → Prop) : Prop := ∃ z, l_X6_isTold_3 K (v0) (v1) (v2) (v3) (v4) z (0) M
set_option maxHeartbeats 4000000 in
set_option maxRecDepth 100000 in
theorem m_X6_isTold (hI : gI 91 ad) {v0 : Nat} (hv0 : isPap v0) {v1 : Nat} (hv1 : isRow v1) {v2 : Int32} {v3 : Int32} {v4 : Int32} {M : Mm} {K : Int32 → Mm → Prop} (h : f_X6_isTold v0 v1 v2 v3 v4 M K) : gM l D cy 91 ad (shC ad cy) yX6_isTold cX6_isTold 6 (some .boolean) 0 0 [.ref (ad v0), .ref (ad v1), .int (v2), .int (v3), .int (v4)] M (gQi D 91 ad (shC ad cy) K) := by
  refine gM.of (own := RX6) (lv := [(0, .ref (ad v0)), (1, .ref (ad v1)), (2, .int (v2)), (3, .int (v3)), (4, .int (v4))]) (by decide) rfl hI (Nat.le_of_ble_eq_true rfl) rfl ?_
  intro p e s m below meth c ls H locs X G hl
  have hx := X.1
  have hb := X.2.1
  have hL3 : ∀ (n : Nat) (v5 : Int32) (M : Mm) (H : Heap) (locs : List Loc) (ls : Array Slot), gS D s 91 ad (shC ad cy) H locs M → lv_has ls 6 [(0, .ref (ad v0)), (1, .ref (ad v1)), (2, .int (v2)), (3, .int (v3)), (4, .int (v4)), (5, .int (v5))] → l_X6_isTold_3 K v0 v1 v2 v3 v4 n v5 M → gWk p l e 0 0 s m ([.ref (ad v0), .ref (ad v1), .int (v2), .int (v3), .int (v4)] : List Value).toArray below meth c H locs (gQi D 91 ad (shC ad cy) K) 91 ad 3 ls [] := by
    intro n3
    induction n3 with
    | zero =>
      intro v5 M H locs ls G hl h
      exact False.elim h
    | succ n3 ih3 =>
      intro v5 M H locs ls G hl h
      rw [l_X6_isTold_3] at h
      refine lv_iload hx hb dX6_isTold_3 (lv_at hl 5 rfl) ?_
      refine lv_iload_n hx hb dX6_isTold_5 rfl (lv_at hl 3 rfl) ?_
      refine lv_icmp_ge (tgt := 39) hx hb dX6_isTold_6 (by decide) (fun c1 => ?_) (fun c1 => ?_)
      · have h := h.1 c1
        refine lv_iconst (v := (1)) hx hb dX6_isTold_39 (by decide) ?_
        exact gq_zret X G (Or.inr rfl) h dX6_isTold_40
      have h := h.2 c1
      refine lv_aload_n hx hb dX6_isTold_9 rfl (lv_at hl 1 rfl) ?_
      refine gfN_Row_items X G hv1 nf_2 dX6_isTold_10 ?_
      refine lv_iload_n hx hb dX6_isTold_13 rfl (lv_at hl 2 rfl) ?_
      refine lv_iload hx hb dX6_isTold_14 (lv_at hl 5 rfl) ?_
      refine lv_iadd hx hb dX6_isTold_16 ?_
      obtain ⟨q2, h⟩ := h
      refine gq_iald X G (ar_Row_items hv1) q2 dX6_isTold_17 ?_
      refine lv_aload_n hx hb dX6_isTold_18 rfl (lv_at hl 0 rfl) ?_
      refine gf_Paper_figures X G hv0 qw_4_8 dX6_isTold_19 ?_
      refine lv_iload hx hb dX6_isTold_22 (lv_at hl 4 rfl) ?_
      refine lv_iload hx hb dX6_isTold_24 (lv_at hl 5 rfl) ?_
      refine lv_iadd hx hb dX6_isTold_26 ?_
      obtain ⟨q3, h⟩ := h
      refine gq_iald X G (ar_Paper_figures hv0) q3 dX6_isTold_27 ?_
      refine lv_icmp_eq (tgt := 33) hx hb dX6_isTold_28 (by decide) (fun c4 => ?_) (fun c4 => ?_)
      · have h := h.1 c4
        refine lv_iinc (v := v5 + 1) (lv' := [(5, .int (v5 + 1)), (0, .ref (ad v0)), (1, .ref (ad v1)), (2, .int (v2)), (3, .int (v3)), (4, .int (v4))]) hx hb dX6_isTold_33 hl (k := 5) rfl rfl (by decide) rfl (fun ls hl => ?_)
        refine lv_goto (tgt := 3) hx hb dX6_isTold_36 (by decide) ?_
        exact ih3 (v5 + 1) M H locs ls G  (lv_sub hl [1, 2, 3, 4, 5, 0] rfl) h
      have h := h.2 c4
      refine lv_iconst (v := (0)) hx hb dX6_isTold_31 (by decide) ?_
      exact gq_zret X G (Or.inl rfl) h dX6_isTold_32
  unfold f_X6_isTold at h
  refine lv_iconst (v := (0)) hx hb dX6_isTold_0 (by decide) ?_
  refine lv_istore (lv' := [(5, .int (0)), (0, .ref (ad v0)), (1, .ref (ad v1)), (2, .int (v2)), (3, .int (v3)), (4, .int (v4))]) hx hb dX6_isTold_1 hl (by decide) rfl (fun ls hl => ?_)
  obtain ⟨n5, h⟩ := h
  exact hL3   n5 (0) M H locs ls G  (lv_sub hl [1, 2, 3, 4, 5, 0] rfl) h
def l_X6_firstPlace_3 (K : Int32 → Mm → Prop) (v0 : Nat) (v1 : Nat) (v2 : Int32) (v3 : Int32) : Nat → Int32 → Mm → Prop
  | 0, _, _ => False
  | n + 1, v4, M => ((((M v0 8 : Int32) < v4 + v3 : Prop) → K (-1000000) M) ∧ (¬ ((M v0 8 : Int32) < v4 + v3 : Prop) → (f_X6_isTold v0 v1 (v2) (v3) (v4) M (fun r3 M2 => ((((r3 : Int32) = 0 : Prop) → (l_X6_firstPlace_3 K v0 v1 v2 v3 n) (v4 + 1) M2) ∧ (¬ ((r3 : Int32) = 0 : Prop) → K (v4) M2))))))
def f_X6_firstPlace (v0 : Nat) (v1 : Nat) (v2 : Int32) (v3 : Int32) (M : Mm) (K : Int32 → Mm → Prop) : Prop := ∃ z, l_X6_firstPlace_3 K (v0) (v1) (v2) (v3) z (0) M
set_option maxHeartbeats 4000000 in
set_option maxRecDepth 100000 in
theorem m_X6_firstPlace (hI : gI 91 ad) {v0 : Nat} (hv0 : isPap v0) {v1 : Nat} (hv1 : isRow v1) {v2 : Int32} {v3 : Int32} {M : Mm} {K : Int32 → Mm → Prop} (h : f_X6_firstPlace v0 v1 v2 v3 M K) : gM l D cy 91 ad (shC ad cy) yX6_firstPlace cX6_firstPlace 5 (some .int) 1 25 [.ref (ad v0), .ref (ad v1), .int (v2), .int (v3)] M (gQi D 91 ad (shC ad cy) K) := by
  refine gM.of (own := RX6) (lv := [(0, .ref (ad v0)), (1, .ref (ad v1)), (2, .int (v2)), (3, .int (v3))]) (by decide) rfl hI (Nat.le_of_ble_eq_true rfl) rfl ?_
  intro p e s m below meth c ls H locs X G hl
  have hx := X.1
  have hb := X.2.1
  have hL3 : ∀ (n : Nat) (v4 : Int32) (M : Mm) (H : Heap) (locs : List Loc) (ls : Array Slot), gS D s 91 ad (shC ad cy) H locs M → lv_has ls 5 [(0, .ref (ad v0)), (1, .ref (ad v1)), (2, .int (v2)), (3, .int (v3)), (4, .int (v4))] → l_X6_firstPlace_3 K v0 v1 v2 v3 n v4 M → gWk p l e 1 25 s m ([.ref (ad v0), .ref (ad v1), .int (v2), .int (v3)] : List Value).toArray below meth c H locs (gQi D 91 ad (shC ad cy) K) 91 ad 3 ls [] := by
    intro n3
    induction n3 with
    | zero =>
      intro v4 M H locs ls G hl h
      exact False.elim h
    | succ n3 ih3 =>
      intro v4 M H locs ls G hl h
      rw [l_X6_firstPlace_3] at h
      refine lv_iload hx hb dX6_firstPlace_3 (lv_at hl 4 rfl) ?_
      refine lv_iload_n hx hb dX6_firstPlace_5 rfl (lv_at hl 3 rfl) ?_
      refine lv_iadd hx hb dX6_firstPlace_6 ?_
      refine lv_aload_n hx hb dX6_firstPlace_7 rfl (lv_at hl 0 rfl) ?_
      refine gf_Paper_cells X G hv0 qw_11_3 dX6_firstPlace_8 ?_
      refine lv_icmp_gt (tgt := 35) hx hb dX6_firstPlace_11 (by decide) (fun c1 => ?_) (fun c1 => ?_)
      · have h := h.1 c1
        refine gq_ldc (v := (-1000000)) X qw_30_3 dX6_firstPlace_35 ?_
        exact gq_iret X G h dX6_firstPlace_37
      have h := h.2 c1
      refine lv_aload_n hx hb dX6_firstPlace_14 rfl (lv_at hl 0 rfl) ?_
      refine lv_aload_n hx hb dX6_firstPlace_15 rfl (lv_at hl 1 rfl) ?_
      refine lv_iload_n hx hb dX6_firstPlace_16 rfl (lv_at hl 2 rfl) ?_
      refine lv_iload_n hx hb dX6_firstPlace_17 rfl (lv_at hl 3 rfl) ?_
      refine lv_iload hx hb dX6_firstPlace_18 (lv_at hl 4 rfl) ?_
      refine gq_calli G (gc_V (C := RX6) (rest := []) X hl.1 G (m_X6_isTold hI hv0 hv1 h) cw_X6_isTold qw_30_16 qw_30_17 qw_30_18 (ob_Paper hv0) rfl rfl rfl rfl (Nat.le_of_ble_eq_true rfl) ⟨Nat.le_of_ble_eq_true rfl, Nat.le_of_ble_eq_true rfl⟩ ⟨Nat.le_refl _, Nat.le_refl _⟩ dX6_firstPlace_20) (fun r3 M2 H locs G h => ?_)
      refine lv_if_eq (tgt := 29) hx hb dX6_firstPlace_23 (by decide) (fun c4 => ?_) (fun c4 => ?_)
      · have h := h.1 c4
        refine lv_iinc (v := v4 + 1) (lv' := [(4, .int (v4 + 1)), (0, .ref (ad v0)), (1, .ref (ad v1)), (2, .int (v2)), (3, .int (v3))]) hx hb dX6_firstPlace_29 hl (k := 4) rfl rfl (by decide) rfl (fun ls hl => ?_)
        refine lv_goto (tgt := 3) hx hb dX6_firstPlace_32 (by decide) ?_
        exact ih3 (v4 + 1) M2 H locs ls G  (lv_sub hl [1, 2, 3, 4, 0] rfl) h
      have h := h.2 c4
      refine lv_iload hx hb dX6_firstPlace_26 (lv_at hl 4 rfl) ?_
      exact gq_iret X G h dX6_firstPlace_28
  unfold f_X6_firstPlace at h
  refine lv_iconst (v := (0)) hx hb dX6_firstPlace_0 (by decide) ?_
  refine lv_istore (lv' := [(4, .int (0)), (0, .ref (ad v0)), (1, .ref (ad v1)), (2, .int (v2)), (3, .int (v3))]) hx hb dX6_firstPlace_1 hl (by decide) rfl (fun ls hl => ?_)
  obtain ⟨n5, h⟩ := h
  exact hL3   n5 (0) M H locs ls G  (lv_sub hl [1, 2, 3, 4, 0] rfl) h
def l_X6_countPlaces_6 (K : Int32 → Mm → Prop) (v0 : Nat) (v1 : Nat) (v2 : Int32) (v3 : Int32) : Nat → Int32 → Int32 → Mm → Prop
  | 0, _, _, _ => False
  | n + 1, v4, v5, M => ((((M v0 8 : Int32) < v5 + v3 : Prop) → K (v4) M) ∧ (¬ ((M v0 8 : Int32) < v5 + v3 : Prop) → (f_X6_isTold v0 v1 (v2) (v3) (v5) M (fun r3 M2 => ((((r3 : Int32) = 0 : Prop) → (l_X6_countPlaces_6 K v0 v1 v2 v3 n) (v4) (v5 + 1) M2) ∧ (¬ ((r3 : Int32) = 0 : Prop) → (l_X6_countPlaces_6 K v0 v1 v2 v3 n) (v4 + 1) (v5 + 1) M2))))))
def f_X6_countPlaces (v0 : Nat) (v1 : Nat) (v2 : Int32) (v3 : Int32) (M : Mm) (K : Int32 → Mm → Prop) : Prop := ∃ z, l_X6_countPlaces_6 K (v0) (v1) (v2) (v3) z (0) (0) M
set_option maxHeartbeats 4000000 in
set_option maxRecDepth 100000 in
theorem m_X6_countPlaces (hI : gI 91 ad) {v0 : Nat} (hv0 : isPap v0) {v1 : Nat} (hv1 : isRow v1) {v2 : Int32} {v3 : Int32} {M : Mm} {K : Int32 → Mm → Prop} (h : f_X6_countPlaces v0 v1 v2 v3 M K) : gM l D cy 91 ad (shC ad cy) yX6_countPlaces cX6_countPlaces 6 (some .int) 1 25 [.ref (ad v0), .ref (ad v1), .int (v2), .int (v3)] M (gQi D 91 ad (shC ad cy) K) := by
  refine gM.of (own := RX6) (lv := [(0, .ref (ad v0)), (1, .ref (ad v1)), (2, .int (v2)), (3, .int (v3))]) (by decide) rfl hI (Nat.le_of_ble_eq_true rfl) rfl ?_
  intro p e s m below meth c ls H locs X G hl
  have hx := X.1
  have hb := X.2.1
  have hL6 : ∀ (n : Nat) (v4 : Int32) (v5 : Int32) (M : Mm) (H : Heap) (locs : List Loc) (ls : Array Slot), gS D s 91 ad (shC ad cy) H locs M → lv_has ls 6 [(0, .ref (ad v0)), (1, .ref (ad v1)), (2, .int (v2)), (3, .int (v3)), (4, .int (v4)), (5, .int (v5))] → l_X6_countPlaces_6 K v0 v1 v2 v3 n v4 v5 M → gWk p l e 1 25 s m ([.ref (ad v0), .ref (ad v1), .int (v2), .int (v3)] : List Value).toArray below meth c H locs (gQi D 91 ad (shC ad cy) K) 91 ad 6 ls [] := by
    intro n6
    induction n6 with
    | zero =>
      intro v4 v5 M H locs ls G hl h
      exact False.elim h
    | succ n6 ih6 =>
      intro v4 v5 M H locs ls G hl h
      rw [l_X6_countPlaces_6] at h
      refine lv_iload hx hb dX6_countPlaces_6 (lv_at hl 5 rfl) ?_
      refine lv_iload_n hx hb dX6_countPlaces_8 rfl (lv_at hl 3 rfl) ?_
      refine lv_iadd hx hb dX6_countPlaces_9 ?_
      refine lv_aload_n hx hb dX6_countPlaces_10 rfl (lv_at hl 0 rfl) ?_
      refine gf_Paper_cells X G hv0 qw_11_3 dX6_countPlaces_11 ?_
      refine lv_icmp_gt (tgt := 38) hx hb dX6_countPlaces_14 (by decide) (fun c1 => ?_) (fun c1 => ?_)
      · have h := h.1 c1
        refine lv_iload hx hb dX6_countPlaces_38 (lv_at hl 4 rfl) ?_
        exact gq_iret X G h dX6_countPlaces_40
      have h := h.2 c1
      refine lv_aload_n hx hb dX6_countPlaces_17 rfl (lv_at hl 0 rfl) ?_
      refine lv_aload_n hx hb dX6_countPlaces_18 rfl (lv_at hl 1 rfl) ?_
      refine lv_iload_n hx hb dX6_countPlaces_19 rfl (lv_at hl 2 rfl) ?_
      refine lv_iload_n hx hb dX6_countPlaces_20 rfl (lv_at hl 3 rfl) ?_
      refine lv_iload hx hb dX6_countPlaces_21 (lv_at hl 5 rfl) ?_
      refine gq_calli G (gc_V (C := RX6) (rest := []) X hl.1 G (m_X6_isTold hI hv0 hv1 h) cw_X6_isTold qw_30_16 qw_30_17 qw_30_18 (ob_Paper hv0) rfl rfl rfl rfl (Nat.le_of_ble_eq_true rfl) ⟨Nat.le_of_ble_eq_true rfl, Nat.le_of_ble_eq_true rfl⟩ ⟨Nat.le_refl _, Nat.le_refl _⟩ dX6_countPlaces_23) (fun r3 M2 H locs G h => ?_)
      refine lv_if_eq (tgt := 32) hx hb dX6_countPlaces_26 (by decide) (fun c4 => ?_) (fun c4 => ?_)
      · have h := h.1 c4
        refine lv_iinc (v := v5 + 1) (lv' := [(5, .int (v5 + 1)), (0, .ref (ad v0)), (1, .ref (ad v1)), (2, .int (v2)), (3, .int (v3)), (4, .int (v4))]) hx hb dX6_countPlaces_32 hl (k := 5) rfl rfl (by decide) rfl (fun ls hl => ?_)
        refine lv_goto (tgt := 6) hx hb dX6_countPlaces_35 (by decide) ?_
        exact ih6 (v4) (v5 + 1) M2 H locs ls G  (lv_sub hl [1, 2, 3, 4, 5, 0] rfl) h
      have h := h.2 c4
      refine lv_iinc (v := v4 + 1) (lv' := [(4, .int (v4 + 1)), (0, .ref (ad v0)), (1, .ref (ad v1)), (2, .int (v2)), (3, .int (v3)), (5, .int (v5))]) hx hb dX6_countPlaces_29 hl (k := 4) rfl rfl (by decide) rfl (fun ls hl => ?_)
      refine lv_iinc (v := v5 + 1) (lv' := [(5, .int (v5 + 1)), (4, .int (v4 + 1)), (0, .ref (ad v0)), (1, .ref (ad v1)), (2, .int (v2)), (3, .int (v3))]) hx hb dX6_countPlaces_32 hl (k := 5) rfl rfl (by decide) rfl (fun ls hl => ?_)
      refine lv_goto (tgt := 6) hx hb dX6_countPlaces_35 (by decide) ?_
      exact ih6 (v4 + 1) (v5 + 1) M2 H locs ls G  (lv_sub hl [2, 3, 4, 5, 1, 0] rfl) h
  unfold f_X6_countPlaces at h
  refine lv_iconst (v := (0)) hx hb dX6_countPlaces_0 (by decide) ?_
  refine lv_istore (lv' := [(4, .int (0)), (0, .ref (ad v0)), (1, .ref (ad v1)), (2, .int (v2)), (3, .int (v3))]) hx hb dX6_countPlaces_1 hl (by decide) rfl (fun ls hl => ?_)
  refine lv_iconst (v := (0)) hx hb dX6_countPlaces_3 (by decide) ?_
  refine lv_istore (lv' := [(5, .int (0)), (4, .int (0)), (0, .ref (ad v0)), (1, .ref (ad v1)), (2, .int (v2)), (3, .int (v3))]) hx hb dX6_countPlaces_4 hl (by decide) rfl (fun ls hl => ?_)
  obtain ⟨n5, h⟩ := h
  exact hL6   n5 (0) (0) M H locs ls G  (lv_sub hl [2, 3, 4, 5, 1, 0] rfl) h
def f_X11_piece_105 (K : Int32 → Mm → Prop) (s0 : Int32) (s1 : Nat) (M : Mm) : Prop := (f_X11_sound (s0) M (fun r2 M1 => K (r2) M1))
def f_X11_piece (v1 : Int32) (v2 : Int32) (v3 : Int32) (v4 : Int32) (M : Mm) (K : Int32 → Mm → Prop) : Prop := (f_X11_noPaper  M (fun r4 M3 => ((((r4 : Int32) = 0 : Prop) → (f_X11_rowAt (v1) M3 (fun o29 M6 => (o29 = none → K (-1000001) M6) ∧ (∀ p7 : Nat, o29 = some p7 → ((((v3 : Int32) < 1 : Prop) → K (-1000001) M6) ∧ (¬ ((v3 : Int32) < 1 : Prop) → ((((12 : Int32) < v3 : Prop) → K (-1000001) M6) ∧ (¬ ((12 : Int32) < v3 : Prop) → (f_X11_isBit (v4) M6 (fun r11 M10 => ((((r11 : Int32) = 0 : Prop) → K (-1000001) M10) ∧ (¬ ((r11 : Int32) = 0 : Prop) → (isRow p7 ∧ (f_X7_missing p7 M10 (fun r15 M14 => ((((r15 : Int32) = 0 : Prop) → (f_X7_has p7 (v2) (v3) M14 (fun r18 M17 => ((((r18 : Int32) = 0 : Prop) → (f_X11_found (2) M17 (fun r26 M25 => K (r26) M25))) ∧ (¬ ((r18 : Int32) = 0 : Prop) → ((((v4 : Int32) = 0 : Prop) → (f_X6_countPlaces 26 p7 (v2) (v3) M17 (fun r24 M23 => f_X11_piece_105 K (r24) (0) M23))) ∧ (¬ ((v4 : Int32) = 0 : Prop) → (f_X6_firstPlace 26 p7 (v2) (v3) M17 (fun r22 M21 => f_X11_piece_105 K (r22) (0) M21))))))))) ∧ (¬ ((r15 : Int32) = 0 : Prop) → (f_X11_found (1) M14 (fun r28 M27 => K (r28) M27))))))))))))))))))) ∧ (¬ ((r4 : Int32) = 0 : Prop) → K (-1000002) M3))))
set_option maxHeartbeats 4000000 in
set_option maxRecDepth 100000 in
theorem m_X11_piece (hI : gI 91 ad) {v1 : Int32} {v2 : Int32} {v3 : Int32} {v4 : Int32} {M : Mm} {K : Int32 → Mm → Prop} (h : f_X11_piece v1 v2 v3 v4 M K) : gM l D cy 91 ad (shC ad cy) yX11_piece cX11_piece 6 (some .int) 2 50 [.ref (ad 0), .int (v1), .int (v2), .int (v3), .int (v4)] M (gQi D 91 ad (shC ad cy) K) := by
  refine gM.of (own := RX11) (lv := [(0, .ref (ad 0)), (1, .int (v1)), (2, .int (v2)), (3, .int (v3)), (4, .int (v4))]) (by decide) rfl hI (Nat.le_of_ble_eq_true rfl) rfl ?_
  intro p e s m below meth c ls H locs X G hl
  have hx := X.1
  have hb := X.2.1
  have hJ105 : ∀ (s0 : Int32) (s1 : Nat) (M : Mm) (H : Heap) (locs : List Loc) (ls : Array Slot), gS D s 91 ad (shC ad cy) H locs M → lv_has ls 6 [] → f_X11_piece_105 K s0 s1 M → gWk p l e 2 50 s m ([.ref (ad 0), .int (v1), .int (v2), .int (v3), .int (v4)] : List Value).toArray below meth c H locs (gQi D 91 ad (shC ad cy) K) 91 ad 105 ls [.int (s0), .ref (ad 0)] := by
    intro s0 s1 M H locs ls G hl h
    unfold f_X11_piece_105 at h
    refine gq_calli G (gc_V (C := RX11) (rest := []) X hl.1 G (m_X11_sound hI  h) cw_X11_sound qw_7_0 qw_7_1 qw_7_2 ob_PH rfl rfl rfl rfl (Nat.le_of_ble_eq_true rfl) ⟨Nat.le_of_ble_eq_true rfl, Nat.le_of_ble_eq_true rfl⟩ ⟨Nat.le_refl _, Nat.le_refl _⟩ dX11_piece_105) (fun r2 M1 H locs G h => ?_)
    exact gq_iret X G h dX11_piece_108
  unfold f_X11_piece at h
  refine lv_aload_n hx hb dX11_piece_0 rfl (lv_at hl 0 rfl) ?_
  refine gq_calli G (gc_V (C := RX11) (rest := []) X hl.1 G (m_X11_noPaper hI  h) cw_X11_noPaper qw_16_17 qw_16_18 qw_16_19 ob_PH rfl rfl rfl rfl (Nat.le_of_ble_eq_true rfl) ⟨Nat.le_of_ble_eq_true rfl, Nat.le_of_ble_eq_true rfl⟩ ⟨Nat.le_refl _, Nat.le_refl _⟩ dX11_piece_1) (fun r4 M3 H locs G h => ?_)
  refine lv_if_eq (tgt := 10) hx hb dX11_piece_4 (by decide) (fun c5 => ?_) (fun c5 => ?_)
  · have h := h.1 c5
    refine lv_aload_n hx hb dX11_piece_10 rfl (lv_at hl 0 rfl) ?_
    refine lv_iload_n hx hb dX11_piece_11 rfl (lv_at hl 1 rfl) ?_
    refine gq_calle G (gc_V (C := RX11) (rest := []) X hl.1 G (m_X11_rowAt hI  h) cw_X11_rowAt qw_6_6 qw_6_7 qw_6_8 ob_PH rfl rfl rfl rfl (Nat.le_of_ble_eq_true rfl) ⟨Nat.le_of_ble_eq_true rfl, Nat.le_of_ble_eq_true rfl⟩ ⟨Nat.le_refl _, Nat.le_refl _⟩ dX11_piece_12) (fun M6 H locs G h => ?_) (fun p7 M6 H locs G h => ?_)
    · have h := h.1 rfl
      refine lv_astoreN (lv' := [(5, .null), (0, .ref (ad 0)), (1, .int (v1)), (2, .int (v2)), (3, .int (v3)), (4, .int (v4))]) hx hb dX11_piece_15 hl (by decide) rfl (fun ls hl => ?_)
      refine lv_aloadN hx hb dX11_piece_17 (lv_at hl 0 rfl) ?_
      refine lv_ifnullN (tgt := 41) hx hb dX11_piece_19 (by decide) ?_
      refine gq_ldc (v := (-1000001)) X qw_6_5 dX11_piece_41 ?_
      exact gq_iret X G h dX11_piece_43
    have h := h.2 p7 rfl
    refine lv_astore (lv' := [(5, .ref (ad p7)), (0, .ref (ad 0)), (1, .int (v1)), (2, .int (v2)), (3, .int (v3)), (4, .int (v4))]) hx hb dX11_piece_15 hl (by decide) rfl (fun ls hl => ?_)
    refine lv_aload hx hb dX11_piece_17 (lv_at hl 0 rfl) ?_
    refine lv_ifnull hx hb dX11_piece_19 ?_
    refine lv_iload_n hx hb dX11_piece_22 rfl (lv_at hl 4 rfl) ?_
    refine lv_iconst (v := (1)) hx hb dX11_piece_23 (by decide) ?_
    refine lv_icmp_lt (tgt := 41) hx hb dX11_piece_24 (by decide) (fun c8 => ?_) (fun c8 => ?_)
    · have h := h.1 c8
      refine gq_ldc (v := (-1000001)) X qw_6_5 dX11_piece_41 ?_
      exact gq_iret X G h dX11_piece_43
    have h := h.2 c8
    refine lv_iload_n hx hb dX11_piece_27 rfl (lv_at hl 4 rfl) ?_
    refine lv_bipush (v := (12)) hx hb dX11_piece_28 (by decide) ?_
    refine lv_icmp_gt (tgt := 41) hx hb dX11_piece_30 (by decide) (fun c9 => ?_) (fun c9 => ?_)
    · have h := h.1 c9
      refine gq_ldc (v := (-1000001)) X qw_6_5 dX11_piece_41 ?_
      exact gq_iret X G h dX11_piece_43
    have h := h.2 c9
    refine lv_iload hx hb dX11_piece_33 (lv_at hl 5 rfl) ?_
    refine gq_calli G (gc_S (rest := []) X hl.1 G (m_X11_isBit hI  h) cw_X11_isBit qw_21_2 qw_21_3 rfl rfl (Nat.le_of_ble_eq_true rfl) ⟨Nat.le_of_ble_eq_true rfl, Nat.le_of_ble_eq_true rfl⟩ ⟨Nat.le_refl _, Nat.le_refl _⟩ dX11_piece_35) (fun r11 M10 H locs G h => ?_)
    refine lv_if_ne (tgt := 44) hx hb dX11_piece_38 (by decide) (fun c12 => ?_) (fun c12 => ?_)
    · have h := h.2 c12
      refine lv_aload hx hb dX11_piece_44 (lv_at hl 0 rfl) ?_
      obtain ⟨q13, h⟩ := h
      refine gq_calli G (gc_VN (C := RX7) (rest := []) X hl.1 G (m_X7_missing hI q13 h) cw_X7_missing nm_17 qw_8_5 qw_8_6 (ob_Row q13) rfl rfl rfl rfl (Nat.le_of_ble_eq_true rfl) ⟨Nat.le_of_ble_eq_true rfl, Nat.le_of_ble_eq_true rfl⟩ ⟨Nat.le_refl _, Nat.le_refl _⟩ dX11_piece_46) (fun r15 M14 H locs G h => ?_)
      refine lv_if_eq (tgt := 58) hx hb dX11_piece_49 (by decide) (fun c16 => ?_) (fun c16 => ?_)
      · have h := h.1 c16
        refine lv_aload hx hb dX11_piece_58 (lv_at hl 0 rfl) ?_
        refine lv_iload_n hx hb dX11_piece_60 rfl (lv_at hl 3 rfl) ?_
        refine lv_iload_n hx hb dX11_piece_61 rfl (lv_at hl 4 rfl) ?_
        refine gq_calli G (gc_VN (C := RX7) (rest := []) X hl.1 G (m_X7_has hI q13 h) cw_X7_has nm_18 qw_8_8 qw_8_9 (ob_Row q13) rfl rfl rfl rfl (Nat.le_of_ble_eq_true rfl) ⟨Nat.le_of_ble_eq_true rfl, Nat.le_of_ble_eq_true rfl⟩ ⟨Nat.le_refl _, Nat.le_refl _⟩ dX11_piece_62) (fun r18 M17 H locs G h => ?_)
        refine lv_if_ne (tgt := 74) hx hb dX11_piece_65 (by decide) (fun c19 => ?_) (fun c19 => ?_)
        · have h := h.2 c19
          refine lv_aload_n hx hb dX11_piece_74 rfl (lv_at hl 1 rfl) ?_
          refine lv_iload hx hb dX11_piece_75 (lv_at hl 5 rfl) ?_
          refine lv_if_ne (tgt := 94) hx hb dX11_piece_77 (by decide) (fun c20 => ?_) (fun c20 => ?_)
          · have h := h.2 c20
            refine lv_aload_n hx hb dX11_piece_94 rfl (lv_at hl 1 rfl) ?_
            refine gf_PH_now X G qw_2_16 dX11_piece_95 ?_
            refine lv_aload hx hb dX11_piece_98 (lv_at hl 0 rfl) ?_
            refine lv_iload_n hx hb dX11_piece_100 rfl (lv_at hl 3 rfl) ?_
            refine lv_iload_n hx hb dX11_piece_101 rfl (lv_at hl 4 rfl) ?_
            refine gq_calli G (gc_VN (C := RX6) (rest := [.ref (ad 0)]) X hl.1 G (m_X6_firstPlace hI isPap_26 q13 h) cw_X6_firstPlace nm_55 qw_30_20 qw_30_21 (ob_Paper isPap_26) rfl rfl rfl rfl (Nat.le_of_ble_eq_true rfl) ⟨Nat.le_of_ble_eq_true rfl, Nat.le_of_ble_eq_true rfl⟩ ⟨Nat.le_refl _, Nat.le_refl _⟩ dX11_piece_102) (fun r22 M21 H locs G h => ?_)
            exact hJ105  (r22) (0) M21 H locs ls G  (lv_sub hl [] rfl) h
          have h := h.1 c20
          refine lv_aload_n hx hb dX11_piece_80 rfl (lv_at hl 1 rfl) ?_
          refine gf_PH_now X G qw_2_16 dX11_piece_81 ?_
          refine lv_aload hx hb dX11_piece_84 (lv_at hl 0 rfl) ?_
          refine lv_iload_n hx hb dX11_piece_86 rfl (lv_at hl 3 rfl) ?_
          refine lv_iload_n hx hb dX11_piece_87 rfl (lv_at hl 4 rfl) ?_
          refine gq_calli G (gc_VN (C := RX6) (rest := [.ref (ad 0)]) X hl.1 G (m_X6_countPlaces hI isPap_26 q13 h) cw_X6_countPlaces nm_54 qw_30_13 qw_30_14 (ob_Paper isPap_26) rfl rfl rfl rfl (Nat.le_of_ble_eq_true rfl) ⟨Nat.le_of_ble_eq_true rfl, Nat.le_of_ble_eq_true rfl⟩ ⟨Nat.le_refl _, Nat.le_refl _⟩ dX11_piece_88) (fun r24 M23 H locs G h => ?_)
          refine lv_goto (tgt := 105) hx hb dX11_piece_91 (by decide) ?_
          exact hJ105  (r24) (0) M23 H locs ls G  (lv_sub hl [] rfl) h
        have h := h.1 c19
        refine lv_aload_n hx hb dX11_piece_68 rfl (lv_at hl 1 rfl) ?_
        refine lv_iconst (v := (2)) hx hb dX11_piece_69 (by decide) ?_
        refine gq_calli G (gc_V (C := RX11) (rest := []) X hl.1 G (m_X11_found hI  h) cw_X11_found qw_6_10 qw_6_11 qw_6_12 ob_PH rfl rfl rfl rfl (Nat.le_of_ble_eq_true rfl) ⟨Nat.le_of_ble_eq_true rfl, Nat.le_of_ble_eq_true rfl⟩ ⟨Nat.le_refl _, Nat.le_refl _⟩ dX11_piece_70) (fun r26 M25 H locs G h => ?_)
        exact gq_iret X G h dX11_piece_73
      have h := h.2 c16
      refine lv_aload_n hx hb dX11_piece_52 rfl (lv_at hl 1 rfl) ?_
      refine lv_iconst (v := (1)) hx hb dX11_piece_53 (by decide) ?_
      refine gq_calli G (gc_V (C := RX11) (rest := []) X hl.1 G (m_X11_found hI  h) cw_X11_found qw_6_10 qw_6_11 qw_6_12 ob_PH rfl rfl rfl rfl (Nat.le_of_ble_eq_true rfl) ⟨Nat.le_of_ble_eq_true rfl, Nat.le_of_ble_eq_true rfl⟩ ⟨Nat.le_refl _, Nat.le_refl _⟩ dX11_piece_54) (fun r28 M27 H locs G h => ?_)
      exact gq_iret X G h dX11_piece_57
    have h := h.1 c12
    refine gq_ldc (v := (-1000001)) X qw_6_5 dX11_piece_41 ?_
    exact gq_iret X G h dX11_piece_43
  have h := h.2 c5
  refine gq_ldc (v := (-1000002)) X qw_16_16 dX11_piece_7 ?_
  exact gq_iret X G h dX11_piece_9
def l_X4_fewestMoves_80 (K : Int32 → Mm → Prop) (k10 : Int32 → Mm → Prop) (v1 : Int32) (v2 : Int32) : Nat → Int32 → Mm → Prop
  | 0, _, _ => False
  | n + 1, v3, M => ((((M 26 8 : Int32) < v3 : Prop) → k10 (v2 + 1) M) ∧ (¬ ((M 26 8 : Int32) < v3 : Prop) → (vp_in (v3) 25 ∧ (vp_in (v3 - 1) 25 ∧ (∀ M4 : Mm, M4 = gU M 63 (v3 : Int32).toNatClampNeg (if (M 63 (v3 - 1 : Int32).toNatClampNeg : Int32) < M 63 (v3 : Int32).toNatClampNeg then M 63 (v3 - 1 : Int32).toNatClampNeg else M 63 (v3 : Int32).toNatClampNeg) → (l_X4_fewestMoves_80 K k10 v1 v2 n) (v3 + 1) M4)))))
def f_X4_fewestMoves_71 (K : Int32 → Mm → Prop) (k10 : Int32 → Mm → Prop) (k29 : Int32 → Mm → Prop) (v1 : Int32) (v2 : Int32) (v3 : Int32) (s0 : Int32) (s1 : Int32) (s2 : Nat) (M : Mm) : Prop := (vp_in (s1) 25 ∧ (∀ M7 : Mm, M7 = gU M 63 (s1 : Int32).toNatClampNeg (s0) → k29 (v3 + (-1)) M7))
def l_X4_fewestMoves_29 (K : Int32 → Mm → Prop) (k10 : Int32 → Mm → Prop) (v1 : Int32) (v2 : Int32) : Nat → Int32 → Mm → Prop
  | 0, _, _ => False
  | n + 1, v3, M => ((((v3 : Int32) < 0 : Prop) → ∃ z, l_X4_fewestMoves_80 K k10 (v1) (v2) z (1) M) ∧ (¬ ((v3 : Int32) < 0 : Prop) → ((((v3 : Int32) < v1 : Prop) → f_X4_fewestMoves_71 K k10 (fun a0 a => (l_X4_fewestMoves_29 K k10 v1 v2 n) a0 a) (v1) (v2) (v3) (1000000) (v3) (63) M) ∧ (¬ ((v3 : Int32) < v1 : Prop) → (vp_in (v3 - v1) 25 ∧ (vp_in (v2) 5 ∧ f_X4_fewestMoves_71 K k10 (fun a0 a => (l_X4_fewestMoves_29 K k10 v1 v2 n) a0 a) (v1) (v2) (v3) ((M 63 (v3 - v1 : Int32).toNatClampNeg) + (if 0 ≤ (v3 - (M (26 + 2) (v2 : Int32).toNatClampNeg) : Int32) then v3 - (M (26 + 2) (v2 : Int32).toNatClampNeg) else 0 - (v3 - (M (26 + 2) (v2 : Int32).toNatClampNeg)))) (v3) (63) M))))))
def l_X4_fewestMoves_10 (K : Int32 → Mm → Prop) (v1 : Int32) : Nat → Int32 → Mm → Prop
  | 0, _, _ => False
  | n + 1, v2, M => ((((M 26 9 : Int32) ≤ v2 : Prop) → (((((M 26 8) - v1 : Int32) < 0 : Prop) → K (-1000000) M) ∧ (¬ (((M 26 8) - v1 : Int32) < 0 : Prop) → (vp_in ((M 26 8) - v1) 25 ∧ ((((1000000 : Int32) ≤ M 63 ((M 26 8) - v1 : Int32).toNatClampNeg : Prop) → K (-1000000) M) ∧ (¬ ((1000000 : Int32) ≤ M 63 ((M 26 8) - v1 : Int32).toNatClampNeg : Prop) → K (M 63 ((M 26 8) - v1 : Int32).toNatClampNeg) M)))))) ∧ (¬ ((M 26 9 : Int32) ≤ v2 : Prop) → ∃ z, l_X4_fewestMoves_29 K (fun a0 a => (l_X4_fewestMoves_10 K v1 n) a0 a) (v1) (v2) z (M 26 8) M))
def f_X4_fewestMoves (v1 : Int32) (M : Mm) (K : Int32 → Mm → Prop) : Prop := (f_J7_fill_53178 63 25 (0) M (fun M19 => ∃ z, l_X4_fewestMoves_10 K (v1) z (0) M19))
set_option maxHeartbeats 4000000 in
set_option maxRecDepth 100000 in
theorem m_X4_fewestMoves (hI : gI 91 ad) {v1 : Int32} {M : Mm} {K : Int32 → Mm → Prop} (h : f_X4_fewestMoves v1 M K) : gM l D cy 91 ad (shC ad cy) yX4_fewestMoves cX4_fewestMoves 4 (some .int) 1 64 [.ref (ad 55), .int (v1)] M (gQi D 91 ad (shC ad cy) K) := by
  refine gM.of (own := RX4) (lv := [(0, .ref (ad 55)), (1, .int (v1))]) (by decide) rfl hI (Nat.le_of_ble_eq_true rfl) rfl ?_
  intro p e s m below meth c ls H locs X G hl
  have hx := X.1
  have hb := X.2.1
  have hL10 : ∀ (n : Nat) (v2 : Int32) (M : Mm) (H : Heap) (locs : List Loc) (ls : Array Slot), gS D s 91 ad (shC ad cy) H locs M → lv_has ls 4 [(0, .ref (ad 55)), (1, .int (v1)), (2, .int (v2))] → l_X4_fewestMoves_10 K v1 n v2 M → gWk p l e 1 64 s m ([.ref (ad 55), .int (v1)] : List Value).toArray below meth c H locs (gQi D 91 ad (shC ad cy) K) 91 ad 10 ls [] := by
    intro n10
    induction n10 with
    | zero =>
      intro v2 M H locs ls G hl h
      exact False.elim h
    | succ n10 ih10 =>
      have hL80 : ∀ (v2 : Int32) (n : Nat) (v3 : Int32) (M : Mm) (H : Heap) (locs : List Loc) (ls : Array Slot), gS D s 91 ad (shC ad cy) H locs M → lv_has ls 4 [(0, .ref (ad 55)), (1, .int (v1)), (2, .int (v2)), (3, .int (v3))] → l_X4_fewestMoves_80 K (fun a0 a => (l_X4_fewestMoves_10 K v1 n10) a0 a) v1 v2 n v3 M → gWk p l e 1 64 s m ([.ref (ad 55), .int (v1)] : List Value).toArray below meth c H locs (gQi D 91 ad (shC ad cy) K) 91 ad 80 ls [] := by
        intro v2 n80
        induction n80 with
        | zero =>
          intro v3 M H locs ls G hl h
          exact False.elim h
        | succ n80 ih80 =>
          intro v3 M H locs ls G hl h
          rw [l_X4_fewestMoves_80] at h
          refine lv_iload_n hx hb dX4_fewestMoves_80 rfl (lv_at hl 3 rfl) ?_
          refine lv_aload_n hx hb dX4_fewestMoves_81 rfl (lv_at hl 0 rfl) ?_
          refine gf_Fore_now X G qw_4_19 dX4_fewestMoves_82 ?_
          refine gfN_Paper_cells X G isPap_26 nf_25 dX4_fewestMoves_85 ?_
          refine lv_icmp_gt (tgt := 120) hx hb dX4_fewestMoves_88 (by decide) (fun c1 => ?_) (fun c1 => ?_)
          · have h := h.1 c1
            refine lv_iinc (v := v2 + 1) (lv' := [(2, .int (v2 + 1)), (0, .ref (ad 55)), (1, .int (v1)), (3, .int (v3))]) hx hb dX4_fewestMoves_120 hl (k := 2) rfl rfl (by decide) rfl (fun ls hl => ?_)
            refine lv_goto (tgt := 10) hx hb dX4_fewestMoves_123 (by decide) ?_
            exact ih10 (v2 + 1) M H locs ls G  (lv_sub hl [1, 2, 0] rfl) h
          have h := h.2 c1
          refine lv_aload_n hx hb dX4_fewestMoves_91 rfl (lv_at hl 0 rfl) ?_
          refine gf_Fore_reach X G qw_4_18 dX4_fewestMoves_92 ?_
          refine lv_iload_n hx hb dX4_fewestMoves_95 rfl (lv_at hl 3 rfl) ?_
          refine lv_aload_n hx hb dX4_fewestMoves_96 rfl (lv_at hl 0 rfl) ?_
          refine gf_Fore_reach X G qw_4_18 dX4_fewestMoves_97 ?_
          refine lv_iload_n hx hb dX4_fewestMoves_100 rfl (lv_at hl 3 rfl) ?_
          obtain ⟨q2, h⟩ := h
          refine gq_iald X G ar_63 q2 dX4_fewestMoves_101 ?_
          refine lv_aload_n hx hb dX4_fewestMoves_102 rfl (lv_at hl 0 rfl) ?_
          refine gf_Fore_reach X G qw_4_18 dX4_fewestMoves_103 ?_
          refine lv_iload_n hx hb dX4_fewestMoves_106 rfl (lv_at hl 3 rfl) ?_
          refine lv_iconst (v := (1)) hx hb dX4_fewestMoves_107 (by decide) ?_
          refine lv_isub hx hb dX4_fewestMoves_108 ?_
          obtain ⟨q3, h⟩ := h
          refine gq_iald X G ar_63 q3 dX4_fewestMoves_109 ?_
          refine gq_mmin (rest := [.int (v3), .ref (ad 63)]) X hl.1 qw_31_15 qw_31_16 qw_31_12 qw_31_17 (Nat.le_of_ble_eq_true rfl) (Nat.le_of_ble_eq_true rfl) ⟨Nat.le_refl _, Nat.le_refl _⟩ dX4_fewestMoves_110 ?_
          refine gq_iast X G ar_63 q2 dX4_fewestMoves_113 (fun M4 H locs e5 G => ?_)
          have h := h M4 e5
          refine lv_iinc (v := v3 + 1) (lv' := [(3, .int (v3 + 1)), (0, .ref (ad 55)), (1, .int (v1)), (2, .int (v2))]) hx hb dX4_fewestMoves_114 hl (k := 3) rfl rfl (by decide) rfl (fun ls hl => ?_)
          refine lv_goto (tgt := 80) hx hb dX4_fewestMoves_117 (by decide) ?_
          exact ih80 (v3 + 1) M4 H locs ls G  (lv_sub hl [1, 2, 3, 0] rfl) h
      have hL29 : ∀ (v2 : Int32) (n : Nat) (v3 : Int32) (M : Mm) (H : Heap) (locs : List Loc) (ls : Array Slot), gS D s 91 ad (shC ad cy) H locs M → lv_has ls 4 [(0, .ref (ad 55)), (1, .int (v1)), (2, .int (v2)), (3, .int (v3))] → l_X4_fewestMoves_29 K (fun a0 a => (l_X4_fewestMoves_10 K v1 n10) a0 a) v1 v2 n v3 M → gWk p l e 1 64 s m ([.ref (ad 55), .int (v1)] : List Value).toArray below meth c H locs (gQi D 91 ad (shC ad cy) K) 91 ad 29 ls [] := by
        intro v2 n29
        induction n29 with
        | zero =>
          intro v3 M H locs ls G hl h
          exact False.elim h
        | succ n29 ih29 =>
          have hJ71 : ∀ (v3 : Int32) (s0 : Int32) (s1 : Int32) (s2 : Nat) (M : Mm) (H : Heap) (locs : List Loc) (ls : Array Slot), gS D s 91 ad (shC ad cy) H locs M → lv_has ls 4 [(0, .ref (ad 55)), (1, .int (v1)), (2, .int (v2)), (3, .int (v3))] → f_X4_fewestMoves_71 K (fun a0 a => (l_X4_fewestMoves_10 K v1 n10) a0 a) (fun a0 a => (l_X4_fewestMoves_29 K (fun a0 a => (l_X4_fewestMoves_10 K v1 n10) a0 a) v1 v2 n29) a0 a) v1 v2 v3 s0 s1 s2 M → gWk p l e 1 64 s m ([.ref (ad 55), .int (v1)] : List Value).toArray below meth c H locs (gQi D 91 ad (shC ad cy) K) 91 ad 71 ls [.int (s0), .int (s1), .ref (ad 63)] := by
            intro v3 s0 s1 s2 M H locs ls G hl h
            unfold f_X4_fewestMoves_71 at h
            obtain ⟨q6, h⟩ := h
            refine gq_iast X G ar_63 q6 dX4_fewestMoves_71 (fun M7 H locs e8 G => ?_)
            have h := h M7 e8
            refine lv_iinc (v := v3 + (-1)) (lv' := [(3, .int (v3 + (-1))), (0, .ref (ad 55)), (1, .int (v1)), (2, .int (v2))]) hx hb dX4_fewestMoves_72 hl (k := 3) rfl rfl (by decide) rfl (fun ls hl => ?_)
            refine lv_goto (tgt := 29) hx hb dX4_fewestMoves_75 (by decide) ?_
            exact ih29 (v3 + (-1)) M7 H locs ls G  (lv_sub hl [1, 2, 3, 0] rfl) h
          intro v3 M H locs ls G hl h
          rw [l_X4_fewestMoves_29] at h
          refine lv_iload_n hx hb dX4_fewestMoves_29 rfl (lv_at hl 3 rfl) ?_
          refine lv_if_lt (tgt := 78) hx hb dX4_fewestMoves_30 (by decide) (fun c9 => ?_) (fun c9 => ?_)
          · have h := h.1 c9
            refine lv_iconst (v := (1)) hx hb dX4_fewestMoves_78 (by decide) ?_
            refine lv_istore_n (lv' := [(3, .int (1)), (0, .ref (ad 55)), (1, .int (v1)), (2, .int (v2))]) hx hb dX4_fewestMoves_79 rfl hl (by decide) rfl (fun ls hl => ?_)
            obtain ⟨n10, h⟩ := h
            exact hL80 (v2)  n10 (1) M H locs ls G  (lv_sub hl [1, 2, 3, 0] rfl) h
          have h := h.2 c9
          refine lv_aload_n hx hb dX4_fewestMoves_33 rfl (lv_at hl 0 rfl) ?_
          refine gf_Fore_reach X G qw_4_18 dX4_fewestMoves_34 ?_
          refine lv_iload_n hx hb dX4_fewestMoves_37 rfl (lv_at hl 3 rfl) ?_
          refine lv_iload_n hx hb dX4_fewestMoves_38 rfl (lv_at hl 3 rfl) ?_
          refine lv_iload_n hx hb dX4_fewestMoves_39 rfl (lv_at hl 1 rfl) ?_
          refine lv_icmp_lt (tgt := 69) hx hb dX4_fewestMoves_40 (by decide) (fun c11 => ?_) (fun c11 => ?_)
          · have h := h.1 c11
            refine gq_ldc (v := (1000000)) X qw_31_14 dX4_fewestMoves_69 ?_
            exact hJ71 (v3) (1000000) (v3) (63) M H locs ls G  (lv_sub hl [0, 1, 2, 3] rfl) h
          have h := h.2 c11
          refine lv_aload_n hx hb dX4_fewestMoves_43 rfl (lv_at hl 0 rfl) ?_
          refine gf_Fore_reach X G qw_4_18 dX4_fewestMoves_44 ?_
          refine lv_iload_n hx hb dX4_fewestMoves_47 rfl (lv_at hl 3 rfl) ?_
          refine lv_iload_n hx hb dX4_fewestMoves_48 rfl (lv_at hl 1 rfl) ?_
          refine lv_isub hx hb dX4_fewestMoves_49 ?_
          obtain ⟨q12, h⟩ := h
          refine gq_iald X G ar_63 q12 dX4_fewestMoves_50 ?_
          refine lv_iload_n hx hb dX4_fewestMoves_51 rfl (lv_at hl 3 rfl) ?_
          refine lv_aload_n hx hb dX4_fewestMoves_52 rfl (lv_at hl 0 rfl) ?_
          refine gf_Fore_now X G qw_4_19 dX4_fewestMoves_53 ?_
          refine gfN_Paper_walls X G isPap_26 nf_11 dX4_fewestMoves_56 ?_
          refine lv_iload_n hx hb dX4_fewestMoves_59 rfl (lv_at hl 2 rfl) ?_
          obtain ⟨q13, h⟩ := h
          refine gq_iald X G (ar_Paper_walls isPap_26) q13 dX4_fewestMoves_60 ?_
          refine lv_isub hx hb dX4_fewestMoves_61 ?_
          refine gq_mabs (rest := [.int (M 63 (v3 - v1 : Int32).toNatClampNeg), .int (v3), .ref (ad 63)]) X hl.1 qw_31_10 qw_31_11 qw_31_12 qw_31_13 (Nat.le_of_ble_eq_true rfl) (Nat.le_of_ble_eq_true rfl) ⟨Nat.le_refl _, Nat.le_refl _⟩ dX4_fewestMoves_62 ?_
          refine lv_iadd hx hb dX4_fewestMoves_65 ?_
          refine lv_goto (tgt := 71) hx hb dX4_fewestMoves_66 (by decide) ?_
          exact hJ71 (v3) ((M 63 (v3 - v1 : Int32).toNatClampNeg) + (if 0 ≤ (v3 - (M (26 + 2) (v2 : Int32).toNatClampNeg) : Int32) then v3 - (M (26 + 2) (v2 : Int32).toNatClampNeg) else 0 - (v3 - (M (26 + 2) (v2 : Int32).toNatClampNeg)))) (v3) (63) M H locs ls G  (lv_sub hl [0, 1, 2, 3] rfl) h
      intro v2 M H locs ls G hl h
      rw [l_X4_fewestMoves_10] at h
      refine lv_iload_n hx hb dX4_fewestMoves_10 rfl (lv_at hl 2 rfl) ?_
      refine lv_aload_n hx hb dX4_fewestMoves_11 rfl (lv_at hl 0 rfl) ?_
      refine gf_Fore_now X G qw_4_19 dX4_fewestMoves_12 ?_
      refine gfN_Paper_wallCount X G isPap_26 nf_27 dX4_fewestMoves_15 ?_
      refine lv_icmp_ge (tgt := 126) hx hb dX4_fewestMoves_18 (by decide) (fun c14 => ?_) (fun c14 => ?_)
      · have h := h.1 c14
        refine lv_aload_n hx hb dX4_fewestMoves_126 rfl (lv_at hl 0 rfl) ?_
        refine gf_Fore_now X G qw_4_19 dX4_fewestMoves_127 ?_
        refine gfN_Paper_cells X G isPap_26 nf_25 dX4_fewestMoves_130 ?_
        refine lv_iload_n hx hb dX4_fewestMoves_133 rfl (lv_at hl 1 rfl) ?_
        refine lv_isub hx hb dX4_fewestMoves_134 ?_
        refine lv_istore_n (lv' := [(2, .int ((M 26 8) - v1)), (0, .ref (ad 55)), (1, .int (v1))]) hx hb dX4_fewestMoves_135 rfl hl (by decide) rfl (fun ls hl => ?_)
        refine lv_iload_n hx hb dX4_fewestMoves_136 rfl (lv_at hl 0 rfl) ?_
        refine lv_if_lt (tgt := 160) hx hb dX4_fewestMoves_137 (by decide) (fun c15 => ?_) (fun c15 => ?_)
        · have h := h.1 c15
          refine gq_ldc (v := (-1000000)) X qw_27_7 dX4_fewestMoves_160 ?_
          exact gq_iret X G h dX4_fewestMoves_162
        have h := h.2 c15
        refine lv_aload_n hx hb dX4_fewestMoves_140 rfl (lv_at hl 1 rfl) ?_
        refine gf_Fore_reach X G qw_4_18 dX4_fewestMoves_141 ?_
        refine lv_iload_n hx hb dX4_fewestMoves_144 rfl (lv_at hl 0 rfl) ?_
        obtain ⟨q16, h⟩ := h
        refine gq_iald X G ar_63 q16 dX4_fewestMoves_145 ?_
        refine gq_ldc (v := (1000000)) X qw_31_14 dX4_fewestMoves_146 ?_
        refine lv_icmp_ge (tgt := 160) hx hb dX4_fewestMoves_148 (by decide) (fun c17 => ?_) (fun c17 => ?_)
        · have h := h.1 c17
          refine gq_ldc (v := (-1000000)) X qw_27_7 dX4_fewestMoves_160 ?_
          exact gq_iret X G h dX4_fewestMoves_162
        have h := h.2 c17
        refine lv_aload_n hx hb dX4_fewestMoves_151 rfl (lv_at hl 1 rfl) ?_
        refine gf_Fore_reach X G qw_4_18 dX4_fewestMoves_152 ?_
        refine lv_iload_n hx hb dX4_fewestMoves_155 rfl (lv_at hl 0 rfl) ?_
        refine gq_iald X G ar_63 q16 dX4_fewestMoves_156 ?_
        refine lv_goto (tgt := 162) hx hb dX4_fewestMoves_157 (by decide) ?_
        exact gq_iret X G h dX4_fewestMoves_162
      have h := h.2 c14
      refine lv_aload_n hx hb dX4_fewestMoves_21 rfl (lv_at hl 0 rfl) ?_
      refine gf_Fore_now X G qw_4_19 dX4_fewestMoves_22 ?_
      refine gfN_Paper_cells X G isPap_26 nf_25 dX4_fewestMoves_25 ?_
      refine lv_istore_n (lv' := [(3, .int (M 26 8)), (0, .ref (ad 55)), (1, .int (v1)), (2, .int (v2))]) hx hb dX4_fewestMoves_28 rfl hl (by decide) rfl (fun ls hl => ?_)
      obtain ⟨n18, h⟩ := h
      exact hL29 (v2)  n18 (M 26 8) M H locs ls G  (lv_sub hl [1, 2, 3, 0] rfl) h
  unfold f_X4_fewestMoves at h
  refine lv_aload_n hx hb dX4_fewestMoves_0 rfl (lv_at hl 0 rfl) ?_
  refine gf_Fore_reach X G qw_4_18 dX4_fewestMoves_1 ?_
  refine lv_iconst (v := (0)) hx hb dX4_fewestMoves_4 (by decide) ?_
  refine gq_callv G (gc_S (rest := []) X hl.1 G (m_J7_fill_53178 hI ar_63 h) cw_J7_fill_53178 qw_31_18 qw_6_21 rfl rfl (Nat.le_of_ble_eq_true rfl) ⟨Nat.le_of_ble_eq_true rfl, Nat.le_of_ble_eq_true rfl⟩ ⟨Nat.le_refl _, Nat.le_refl _⟩ dX4_fewestMoves_5) (fun M19 H locs G h => ?_)
  refine lv_iconst (v := (0)) hx hb dX4_fewestMoves_8 (by decide) ?_
  refine lv_istore_n (lv' := [(2, .int (0)), (0, .ref (ad 55)), (1, .int (v1))]) hx hb dX4_fewestMoves_9 rfl hl (by decide) rfl (fun ls hl => ?_)
  obtain ⟨n20, h⟩ := h
  exact hL10   n20 (0) M19 H locs ls G  (lv_sub hl [1, 2, 0] rfl) h
def f_X11_room (v1 : Int32) (M : Mm) (K : Int32 → Mm → Prop) : Prop := (f_X11_noPaper  M (fun r2 M1 => ((((r2 : Int32) = 0 : Prop) → ((((v1 : Int32) < 1 : Prop) → K (-1000001) M1) ∧ (¬ ((v1 : Int32) < 1 : Prop) → ((((v1 : Int32) ≤ 8 : Prop) → (f_X4_fewestMoves (v1) M1 (fun r7 M6 => K (r7) M6))) ∧ (¬ ((v1 : Int32) ≤ 8 : Prop) → K (-1000001) M1))))) ∧ (¬ ((r2 : Int32) = 0 : Prop) → K (-1000002) M1))))
set_option maxHeartbeats 4000000 in
set_option maxRecDepth 100000 in
theorem m_X11_room (hI : gI 91 ad) {v1 : Int32} {M : Mm} {K : Int32 → Mm → Prop} (h : f_X11_room v1 M K) : gM l D cy 91 ad (shC ad cy) yX11_room cX11_room 2 (some .int) 2 87 [.ref (ad 0), .int (v1)] M (gQi D 91 ad (shC ad cy) K) := by
  refine gM.of (own := RX11) (lv := [(0, .ref (ad 0)), (1, .int (v1))]) (by decide) rfl hI (Nat.le_of_ble_eq_true rfl) rfl ?_
  intro p e s m below meth c ls H locs X G hl
  have hx := X.1
  have hb := X.2.1
  unfold f_X11_room at h
  refine lv_aload_n hx hb dX11_room_0 rfl (lv_at hl 0 rfl) ?_
  refine gq_calli G (gc_V (C := RX11) (rest := []) X hl.1 G (m_X11_noPaper hI  h) cw_X11_noPaper qw_16_17 qw_16_18 qw_16_19 ob_PH rfl rfl rfl rfl (Nat.le_of_ble_eq_true rfl) ⟨Nat.le_of_ble_eq_true rfl, Nat.le_of_ble_eq_true rfl⟩ ⟨Nat.le_refl _, Nat.le_refl _⟩ dX11_room_1) (fun r2 M1 H locs G h => ?_)
  refine lv_if_eq (tgt := 10) hx hb dX11_room_4 (by decide) (fun c3 => ?_) (fun c3 => ?_)
  · have h := h.1 c3
    refine lv_iload_n hx hb dX11_room_10 rfl (lv_at hl 1 rfl) ?_
    refine lv_iconst (v := (1)) hx hb dX11_room_11 (by decide) ?_
    refine lv_icmp_lt (tgt := 21) hx hb dX11_room_12 (by decide) (fun c4 => ?_) (fun c4 => ?_)
    · have h := h.1 c4
      refine gq_ldc (v := (-1000001)) X qw_6_5 dX11_room_21 ?_
      exact gq_iret X G h dX11_room_23
    have h := h.2 c4
    refine lv_iload_n hx hb dX11_room_15 rfl (lv_at hl 1 rfl) ?_
    refine lv_bipush (v := (8)) hx hb dX11_room_16 (by decide) ?_
    refine lv_icmp_le (tgt := 24) hx hb dX11_room_18 (by decide) (fun c5 => ?_) (fun c5 => ?_)
    · have h := h.1 c5
      refine lv_aload_n hx hb dX11_room_24 rfl (lv_at hl 0 rfl) ?_
      refine gf_PH_foretold X G qw_2_22 dX11_room_25 ?_
      refine lv_iload_n hx hb dX11_room_28 rfl (lv_at hl 1 rfl) ?_
      refine gq_calli G (gc_VN (C := RX4) (rest := []) X hl.1 G (m_X4_fewestMoves hI  h) cw_X4_fewestMoves nm_56 qw_31_7 qw_31_8 ob_Fore rfl rfl rfl rfl (Nat.le_of_ble_eq_true rfl) ⟨Nat.le_of_ble_eq_true rfl, Nat.le_of_ble_eq_true rfl⟩ ⟨Nat.le_refl _, Nat.le_refl _⟩ dX11_room_29) (fun r7 M6 H locs G h => ?_)
      exact gq_iret X G h dX11_room_32
    have h := h.2 c5
    refine gq_ldc (v := (-1000001)) X qw_6_5 dX11_room_21 ?_
    exact gq_iret X G h dX11_room_23
  have h := h.2 c3
  refine gq_ldc (v := (-1000002)) X qw_16_16 dX11_room_7 ?_
  exact gq_iret X G h dX11_room_9
def f_X6_cutShare (v0 : Nat) (v1 : Int32) (v2 : Int32) (M : Mm) (K : Int32 → Mm → Prop) : Prop := ((((M v0 8 : Int32) ≤ 0 : Prop) → K (0) M) ∧ (¬ ((M v0 8 : Int32) ≤ 0 : Prop) → (f_X6_cellsIn v0 (v1) M (fun r3 M2 => (¬ (M2 v0 8) = 0 ∧ K ((v2 * r3) / (M2 v0 8)) M2)))))
set_option maxHeartbeats 4000000 in
set_option maxRecDepth 100000 in
theorem m_X6_cutShare (hI : gI 91 ad) {v0 : Nat} (hv0 : isPap v0) {v1 : Int32} {v2 : Int32} {M : Mm} {K : Int32 → Mm → Prop} (h : f_X6_cutShare v0 v1 v2 M K) : gM l D cy 91 ad (shC ad cy) yX6_cutShare cX6_cutShare 3 (some .int) 2 42 [.ref (ad v0), .int (v1), .int (v2)] M (gQi D 91 ad (shC ad cy) K) := by
  refine gM.of (own := RX6) (lv := [(0, .ref (ad v0)), (1, .int (v1)), (2, .int (v2))]) (by decide) rfl hI (Nat.le_of_ble_eq_true rfl) rfl ?_
  intro p e s m below meth c ls H locs X G hl
  have hx := X.1
  have hb := X.2.1
  unfold f_X6_cutShare at h
  refine lv_aload_n hx hb dX6_cutShare_0 rfl (lv_at hl 0 rfl) ?_
  refine gf_Paper_cells X G hv0 qw_11_3 dX6_cutShare_1 ?_
  refine lv_if_le (tgt := 22) hx hb dX6_cutShare_4 (by decide) (fun c1 => ?_) (fun c1 => ?_)
  · have h := h.1 c1
    refine lv_iconst (v := (0)) hx hb dX6_cutShare_22 (by decide) ?_
    exact gq_iret X G h dX6_cutShare_23
  have h := h.2 c1
  refine lv_iload_n hx hb dX6_cutShare_7 rfl (lv_at hl 2 rfl) ?_
  refine lv_aload_n hx hb dX6_cutShare_8 rfl (lv_at hl 0 rfl) ?_
  refine lv_iload_n hx hb dX6_cutShare_9 rfl (lv_at hl 1 rfl) ?_
  refine gq_calli G (gc_V (C := RX6) (rest := [.int (v2)]) X hl.1 G (m_X6_cellsIn hI hv0 h) cw_X6_cellsIn qw_32_11 qw_24_20 qw_24_21 (ob_Paper hv0) rfl rfl rfl rfl (Nat.le_of_ble_eq_true rfl) ⟨Nat.le_of_ble_eq_true rfl, Nat.le_of_ble_eq_true rfl⟩ ⟨Nat.le_refl _, Nat.le_refl _⟩ dX6_cutShare_10) (fun r3 M2 H locs G h => ?_)
  refine lv_imul hx hb dX6_cutShare_13 ?_
  refine lv_aload_n hx hb dX6_cutShare_14 rfl (lv_at hl 0 rfl) ?_
  refine gf_Paper_cells X G hv0 qw_11_3 dX6_cutShare_15 ?_
  obtain ⟨q4, h⟩ := h
  refine lv_idiv hx hb dX6_cutShare_18 q4 ?_
  refine lv_goto (tgt := 23) hx hb dX6_cutShare_19 (by decide) ?_
  exact gq_iret X G h dX6_cutShare_23
def l_X6_rentOf_5 (K : Int32 → Mm → Prop) (v0 : Nat) (v1 : Int32) (v2 : Int32) : Nat → Int32 → Int32 → Mm → Prop
  | 0, _, _, _ => False
  | n + 1, v3, v4, M => ((((M v0 9 : Int32) < v4 : Prop) → (f_X6_cutShare v0 (v1) (v2) M (fun r3 M2 => ((((v3 : Int32) ≤ v1 : Prop) → K (r3 + 0) M2) ∧ (¬ ((v3 : Int32) ≤ v1 : Prop) → K (r3 + 1) M2))))) ∧ (¬ ((M v0 9 : Int32) < v4 : Prop) → (f_X6_cutShare v0 (v4) (v2) M (fun r6 M5 => (l_X6_rentOf_5 K v0 v1 v2 n) (v3 - r6) (v4 + 1) M5))))
def f_X6_rentOf (v0 : Nat) (v1 : Int32) (v2 : Int32) (M : Mm) (K : Int32 → Mm → Prop) : Prop := ∃ z, l_X6_rentOf_5 K (v0) (v1) (v2) z (v2) (0) M
set_option maxHeartbeats 4000000 in
set_option maxRecDepth 100000 in
theorem m_X6_rentOf (hI : gI 91 ad) {v0 : Nat} (hv0 : isPap v0) {v1 : Int32} {v2 : Int32} {M : Mm} {K : Int32 → Mm → Prop} (h : f_X6_rentOf v0 v1 v2 M K) : gM l D cy 91 ad (shC ad cy) yX6_rentOf cX6_rentOf 5 (some .int) 3 64 [.ref (ad v0), .int (v1), .int (v2)] M (gQi D 91 ad (shC ad cy) K) := by
  refine gM.of (own := RX6) (lv := [(0, .ref (ad v0)), (1, .int (v1)), (2, .int (v2))]) (by decide) rfl hI (Nat.le_of_ble_eq_true rfl) rfl ?_
  intro p e s m below meth c ls H locs X G hl
  have hx := X.1
  have hb := X.2.1
  have hL5 : ∀ (n : Nat) (v3 : Int32) (v4 : Int32) (M : Mm) (H : Heap) (locs : List Loc) (ls : Array Slot), gS D s 91 ad (shC ad cy) H locs M → lv_has ls 5 [(0, .ref (ad v0)), (1, .int (v1)), (2, .int (v2)), (3, .int (v3)), (4, .int (v4))] → l_X6_rentOf_5 K v0 v1 v2 n v3 v4 M → gWk p l e 3 64 s m ([.ref (ad v0), .int (v1), .int (v2)] : List Value).toArray below meth c H locs (gQi D 91 ad (shC ad cy) K) 91 ad 5 ls [] := by
    intro n5
    induction n5 with
    | zero =>
      intro v3 v4 M H locs ls G hl h
      exact False.elim h
    | succ n5 ih5 =>
      intro v3 v4 M H locs ls G hl h
      rw [l_X6_rentOf_5] at h
      refine lv_iload hx hb dX6_rentOf_5 (lv_at hl 4 rfl) ?_
      refine lv_aload_n hx hb dX6_rentOf_7 rfl (lv_at hl 0 rfl) ?_
      refine gf_Paper_wallCount X G hv0 qw_11_4 dX6_rentOf_8 ?_
      refine lv_icmp_gt (tgt := 30) hx hb dX6_rentOf_11 (by decide) (fun c1 => ?_) (fun c1 => ?_)
      · have h := h.1 c1
        refine lv_aload_n hx hb dX6_rentOf_30 rfl (lv_at hl 0 rfl) ?_
        refine lv_iload_n hx hb dX6_rentOf_31 rfl (lv_at hl 1 rfl) ?_
        refine lv_iload_n hx hb dX6_rentOf_32 rfl (lv_at hl 2 rfl) ?_
        refine gq_calli G (gc_V (C := RX6) (rest := []) X hl.1 G (m_X6_cutShare hI hv0 h) cw_X6_cutShare qw_32_7 qw_32_8 qw_32_9 (ob_Paper hv0) rfl rfl rfl rfl (Nat.le_of_ble_eq_true rfl) ⟨Nat.le_of_ble_eq_true rfl, Nat.le_of_ble_eq_true rfl⟩ ⟨Nat.le_refl _, Nat.le_refl _⟩ dX6_rentOf_33) (fun r3 M2 H locs G h => ?_)
        refine lv_iload_n hx hb dX6_rentOf_36 rfl (lv_at hl 1 rfl) ?_
        refine lv_iload_n hx hb dX6_rentOf_37 rfl (lv_at hl 3 rfl) ?_
        refine lv_icmp_ge (tgt := 45) hx hb dX6_rentOf_38 (by decide) (fun c4 => ?_) (fun c4 => ?_)
        · have h := h.1 c4
          refine lv_iconst (v := (0)) hx hb dX6_rentOf_45 (by decide) ?_
          refine lv_iadd hx hb dX6_rentOf_46 ?_
          exact gq_iret X G h dX6_rentOf_47
        have h := h.2 c4
        refine lv_iconst (v := (1)) hx hb dX6_rentOf_41 (by decide) ?_
        refine lv_goto (tgt := 46) hx hb dX6_rentOf_42 (by decide) ?_
        refine lv_iadd hx hb dX6_rentOf_46 ?_
        exact gq_iret X G h dX6_rentOf_47
      have h := h.2 c1
      refine lv_iload_n hx hb dX6_rentOf_14 rfl (lv_at hl 3 rfl) ?_
      refine lv_aload_n hx hb dX6_rentOf_15 rfl (lv_at hl 0 rfl) ?_
      refine lv_iload hx hb dX6_rentOf_16 (lv_at hl 4 rfl) ?_
      refine lv_iload_n hx hb dX6_rentOf_18 rfl (lv_at hl 2 rfl) ?_
      refine gq_calli G (gc_V (C := RX6) (rest := [.int (v3)]) X hl.1 G (m_X6_cutShare hI hv0 h) cw_X6_cutShare qw_32_7 qw_32_8 qw_32_9 (ob_Paper hv0) rfl rfl rfl rfl (Nat.le_of_ble_eq_true rfl) ⟨Nat.le_of_ble_eq_true rfl, Nat.le_of_ble_eq_true rfl⟩ ⟨Nat.le_refl _, Nat.le_refl _⟩ dX6_rentOf_19) (fun r6 M5 H locs G h => ?_)
      refine lv_isub hx hb dX6_rentOf_22 ?_
      refine lv_istore_n (lv' := [(3, .int (v3 - r6)), (0, .ref (ad v0)), (1, .int (v1)), (2, .int (v2)), (4, .int (v4))]) hx hb dX6_rentOf_23 rfl hl (by decide) rfl (fun ls hl => ?_)
      refine lv_iinc (v := v4 + 1) (lv' := [(4, .int (v4 + 1)), (3, .int (v3 - r6)), (0, .ref (ad v0)), (1, .int (v1)), (2, .int (v2))]) hx hb dX6_rentOf_24 hl (k := 4) rfl rfl (by decide) rfl (fun ls hl => ?_)
      refine lv_goto (tgt := 5) hx hb dX6_rentOf_27 (by decide) ?_
      exact ih5 (v3 - r6) (v4 + 1) M5 H locs ls G  (lv_sub hl [2, 3, 4, 1, 0] rfl) h
  unfold f_X6_rentOf at h
  refine lv_iload_n hx hb dX6_rentOf_0 rfl (lv_at hl 2 rfl) ?_
  refine lv_istore_n (lv' := [(3, .int (v2)), (0, .ref (ad v0)), (1, .int (v1)), (2, .int (v2))]) hx hb dX6_rentOf_1 rfl hl (by decide) rfl (fun ls hl => ?_)
  refine lv_iconst (v := (0)) hx hb dX6_rentOf_2 (by decide) ?_
  refine lv_istore (lv' := [(4, .int (0)), (3, .int (v2)), (0, .ref (ad v0)), (1, .int (v1)), (2, .int (v2))]) hx hb dX6_rentOf_3 hl (by decide) rfl (fun ls hl => ?_)
  obtain ⟨n7, h⟩ := h
  exact hL5   n7 (v2) (0) M H locs ls G  (lv_sub hl [2, 3, 4, 1, 0] rfl) h
def f_X11_rent (v1 : Int32) (v2 : Int32) (M : Mm) (K : Int32 → Mm → Prop) : Prop := (f_X6_hasHouse 26 (v1) M (fun r2 M1 => ((((r2 : Int32) = 0 : Prop) → K (-1000001) M1) ∧ (¬ ((r2 : Int32) = 0 : Prop) → ((((v2 : Int32) < 0 : Prop) → K (-1000001) M1) ∧ (¬ ((v2 : Int32) < 0 : Prop) → ((((v2 : Int32) ≤ 999 : Prop) → (f_X6_rentOf 26 (v1) (v2) M1 (fun r7 M6 => K (r7) M6))) ∧ (¬ ((v2 : Int32) ≤ 999 : Prop) → K (-1000001) M1))))))))
set_option maxHeartbeats 4000000 in
set_option maxRecDepth 100000 in
theorem m_X11_rent (hI : gI 91 ad) {v1 : Int32} {v2 : Int32} {M : Mm} {K : Int32 → Mm → Prop} (h : f_X11_rent v1 v2 M K) : gM l D cy 91 ad (shC ad cy) yX11_rent cX11_rent 3 (some .int) 4 88 [.ref (ad 0), .int (v1), .int (v2)] M (gQi D 91 ad (shC ad cy) K) := by
  refine gM.of (own := RX11) (lv := [(0, .ref (ad 0)), (1, .int (v1)), (2, .int (v2))]) (by decide) rfl hI (Nat.le_of_ble_eq_true rfl) rfl ?_
  intro p e s m below meth c ls H locs X G hl
  have hx := X.1
  have hb := X.2.1
  unfold f_X11_rent at h
  refine lv_aload_n hx hb dX11_rent_0 rfl (lv_at hl 0 rfl) ?_
  refine gf_PH_now X G qw_2_16 dX11_rent_1 ?_
  refine lv_iload_n hx hb dX11_rent_4 rfl (lv_at hl 1 rfl) ?_
  refine gq_calli G (gc_VN (C := RX6) (rest := []) X hl.1 G (m_X6_hasHouse hI isPap_26 h) cw_X6_hasHouse nm_35 qw_22_20 qw_22_21 (ob_Paper isPap_26) rfl rfl rfl rfl (Nat.le_of_ble_eq_true rfl) ⟨Nat.le_of_ble_eq_true rfl, Nat.le_of_ble_eq_true rfl⟩ ⟨Nat.le_refl _, Nat.le_refl _⟩ dX11_rent_5) (fun r2 M1 H locs G h => ?_)
  refine lv_if_eq (tgt := 22) hx hb dX11_rent_8 (by decide) (fun c3 => ?_) (fun c3 => ?_)
  · have h := h.1 c3
    refine gq_ldc (v := (-1000001)) X qw_6_5 dX11_rent_22 ?_
    exact gq_iret X G h dX11_rent_24
  have h := h.2 c3
  refine lv_iload_n hx hb dX11_rent_11 rfl (lv_at hl 2 rfl) ?_
  refine lv_if_lt (tgt := 22) hx hb dX11_rent_12 (by decide) (fun c4 => ?_) (fun c4 => ?_)
  · have h := h.1 c4
    refine gq_ldc (v := (-1000001)) X qw_6_5 dX11_rent_22 ?_
    exact gq_iret X G h dX11_rent_24
  have h := h.2 c4
  refine lv_iload_n hx hb dX11_rent_15 rfl (lv_at hl 2 rfl) ?_
  refine lv_sipush (v := (999)) hx hb dX11_rent_16 (by decide) ?_
  refine lv_icmp_le (tgt := 25) hx hb dX11_rent_19 (by decide) (fun c5 => ?_) (fun c5 => ?_)
  · have h := h.1 c5
    refine lv_aload_n hx hb dX11_rent_25 rfl (lv_at hl 0 rfl) ?_
    refine gf_PH_now X G qw_2_16 dX11_rent_26 ?_
    refine lv_iload_n hx hb dX11_rent_29 rfl (lv_at hl 1 rfl) ?_
    refine lv_iload_n hx hb dX11_rent_30 rfl (lv_at hl 2 rfl) ?_
    refine gq_calli G (gc_VN (C := RX6) (rest := []) X hl.1 G (m_X6_rentOf hI isPap_26 h) cw_X6_rentOf nm_57 qw_32_4 qw_32_5 (ob_Paper isPap_26) rfl rfl rfl rfl (Nat.le_of_ble_eq_true rfl) ⟨Nat.le_of_ble_eq_true rfl, Nat.le_of_ble_eq_true rfl⟩ ⟨Nat.le_refl _, Nat.le_refl _⟩ dX11_rent_31) (fun r7 M6 H locs G h => ?_)
    exact gq_iret X G h dX11_rent_34
  have h := h.2 c5
  refine gq_ldc (v := (-1000001)) X qw_6_5 dX11_rent_22 ?_
  exact gq_iret X G h dX11_rent_24
def f_X4_leastGuess (v0 : Int32) (M : Mm) (K : Int32 → Mm → Prop) : Prop := ((((v0 : Int32) = 0 : Prop) → K (1) M) ∧ (¬ ((v0 : Int32) = 0 : Prop) → K (0) M))
set_option maxHeartbeats 4000000 in
set_option maxRecDepth 100000 in
theorem m_X4_leastGuess (hI : gI 91 ad) {v0 : Int32} {M : Mm} {K : Int32 → Mm → Prop} (h : f_X4_leastGuess v0 M K) : gM l D cy 91 ad (shC ad cy) yX4_leastGuess cX4_leastGuess 1 (some .int) 0 0 [.int (v0)] M (gQi D 91 ad (shC ad cy) K) := by
  refine gM.of (own := RX4) (lv := [(0, .int (v0))]) (by decide) rfl hI (Nat.le_of_ble_eq_true rfl) rfl ?_
  intro p e s m below meth c ls H locs X G hl
  have hx := X.1
  have hb := X.2.1
  unfold f_X4_leastGuess at h
  refine lv_iload_n hx hb dX4_leastGuess_0 rfl (lv_at hl 0 rfl) ?_
  refine lv_if_ne (tgt := 8) hx hb dX4_leastGuess_1 (by decide) (fun c1 => ?_) (fun c1 => ?_)
  · have h := h.2 c1
    refine lv_iconst (v := (0)) hx hb dX4_leastGuess_8 (by decide) ?_
    exact gq_iret X G h dX4_leastGuess_9
  have h := h.1 c1
  refine lv_iconst (v := (1)) hx hb dX4_leastGuess_4 (by decide) ?_
  refine lv_goto (tgt := 9) hx hb dX4_leastGuess_5 (by decide) ?_
  exact gq_iret X G h dX4_leastGuess_9
def f_X4_greatestGuess (v1 : Int32) (M : Mm) (K : Int32 → Mm → Prop) : Prop := (((v1 : Int32) = 0 → K (5) M) ∧ (¬ (v1 : Int32) = 0 → (((v1 : Int32) = 1 → K (M 26 9) M) ∧ (¬ (v1 : Int32) = 1 → (((v1 : Int32) = 2 → K (1) M) ∧ (¬ (v1 : Int32) = 2 → K (24) M))))))
set_option maxHeartbeats 4000000 in
set_option maxRecDepth 100000 in
theorem m_X4_greatestGuess (hI : gI 91 ad) {v1 : Int32} {M : Mm} {K : Int32 → Mm → Prop} (h : f_X4_greatestGuess v1 M K) : gM l D cy 91 ad (shC ad cy) yX4_greatestGuess cX4_greatestGuess 2 (some .int) 0 0 [.ref (ad 55), .int (v1)] M (gQi D 91 ad (shC ad cy) K) := by
  refine gM.of (own := RX4) (lv := [(0, .ref (ad 55)), (1, .int (v1))]) (by decide) rfl hI (Nat.le_of_ble_eq_true rfl) rfl ?_
  intro p e s m below meth c ls H locs X G hl
  have hx := X.1
  have hb := X.2.1
  unfold f_X4_greatestGuess at h
  refine lv_iload_n hx hb dX4_greatestGuess_0 rfl (lv_at hl 1 rfl) ?_
  by_cases c1 : (v1 : Int32) = 0
  · refine gq_tabIn (v := 0) (tgt := 28) hx hb dX4_greatestGuess_1 c1 (by decide) (by decide) rfl (by decide) ?_
    have h := h.1 c1
    refine lv_iconst (v := (5)) hx hb dX4_greatestGuess_28 (by decide) ?_
    exact gq_iret X G h dX4_greatestGuess_29
  have h := h.2 c1
  by_cases c2 : (v1 : Int32) = 1
  · refine gq_tabIn (v := 1) (tgt := 30) hx hb dX4_greatestGuess_1 c2 (by decide) (by decide) rfl (by decide) ?_
    have h := h.1 c2
    refine lv_aload_n hx hb dX4_greatestGuess_30 rfl (lv_at hl 0 rfl) ?_
    refine gf_Fore_now X G qw_4_19 dX4_greatestGuess_31 ?_
    refine gfN_Paper_wallCount X G isPap_26 nf_27 dX4_greatestGuess_34 ?_
    exact gq_iret X G h dX4_greatestGuess_37
  have h := h.2 c2
  by_cases c3 : (v1 : Int32) = 2
  · refine gq_tabIn (v := 2) (tgt := 38) hx hb dX4_greatestGuess_1 c3 (by decide) (by decide) rfl (by decide) ?_
    have h := h.1 c3
    refine lv_iconst (v := (1)) hx hb dX4_greatestGuess_38 (by decide) ?_
    exact gq_iret X G h dX4_greatestGuess_39
  have h := h.2 c3
  refine lv_tableOut (tgt := 40) hx hb dX4_greatestGuess_1 (by have := gq_ne (v := 0) (z := 0) c1 rfl; have := gq_ne (v := 1) (z := 1) c2 rfl; have := gq_ne (v := 2) (z := 2) c3 rfl; omega) (by decide) ?_
  refine lv_bipush (v := (24)) hx hb dX4_greatestGuess_40 (by decide) ?_
  exact gq_iret X G h dX4_greatestGuess_42
def f_X4_suppose (v1 : Int32) (v2 : Int32) (v3 : Int32) (M : Mm) (K : Mm → Prop) : Prop := (((v2 : Int32) = 0 → (vp_in (v1) 5 ∧ (∀ M3 : Mm, M3 = gU M (56 + 3) (v1 : Int32).toNatClampNeg (v3) → K M3))) ∧ (¬ (v2 : Int32) = 0 → (((v2 : Int32) = 1 → (vp_in (v1) 5 ∧ (∀ M7 : Mm, M7 = gU M (56 + 4) (v1 : Int32).toNatClampNeg (v3) → K M7))) ∧ (¬ (v2 : Int32) = 1 → (((v2 : Int32) = 2 → (vp_in (v1) 5 ∧ (∀ M11 : Mm, M11 = gU M (56 + 5) (v1 : Int32).toNatClampNeg (v3) → K M11))) ∧ (¬ (v2 : Int32) = 2 → (∀ M13 : Mm, M13 = gU M 56 7 (v3) → K M13)))))))
set_option maxHeartbeats 4000000 in
set_option maxRecDepth 100000 in
theorem m_X4_suppose (hI : gI 91 ad) {v1 : Int32} {v2 : Int32} {v3 : Int32} {M : Mm} {K : Mm → Prop} (h : f_X4_suppose v1 v2 v3 M K) : gM l D cy 91 ad (shC ad cy) yX4_suppose cX4_suppose 4 none 0 0 [.ref (ad 55), .int (v1), .int (v2), .int (v3)] M (gQv D 91 ad (shC ad cy) K) := by
  refine gM.of (own := RX4) (lv := [(0, .ref (ad 55)), (1, .int (v1)), (2, .int (v2)), (3, .int (v3))]) (by decide) rfl hI (Nat.le_of_ble_eq_true rfl) rfl ?_
  intro p e s m below meth c ls H locs X G hl
  have hx := X.1
  have hb := X.2.1
  unfold f_X4_suppose at h
  refine lv_iload_n hx hb dX4_suppose_0 rfl (lv_at hl 2 rfl) ?_
  by_cases c1 : (v2 : Int32) = 0
  · refine gq_tabIn (v := 0) (tgt := 28) hx hb dX4_suppose_1 c1 (by decide) (by decide) rfl (by decide) ?_
    have h := h.1 c1
    refine lv_aload_n hx hb dX4_suppose_28 rfl (lv_at hl 0 rfl) ?_
    refine gf_Fore_later X G qw_4_21 dX4_suppose_29 ?_
    refine gfN_Paper_kinds X G isPap_56 nf_13 dX4_suppose_32 ?_
    refine lv_iload_n hx hb dX4_suppose_35 rfl (lv_at hl 1 rfl) ?_
    refine lv_iload_n hx hb dX4_suppose_36 rfl (lv_at hl 3 rfl) ?_
    obtain ⟨q2, h⟩ := h
    refine gq_iast X G (ar_Paper_kinds isPap_56) q2 dX4_suppose_37 (fun M3 H locs e4 G => ?_)
    have h := h M3 e4
    refine lv_goto (tgt := 75) hx hb dX4_suppose_38 (by decide) ?_
    exact gq_vret X G h dX4_suppose_75
  have h := h.2 c1
  by_cases c5 : (v2 : Int32) = 1
  · refine gq_tabIn (v := 1) (tgt := 41) hx hb dX4_suppose_1 c5 (by decide) (by decide) rfl (by decide) ?_
    have h := h.1 c5
    refine lv_aload_n hx hb dX4_suppose_41 rfl (lv_at hl 0 rfl) ?_
    refine gf_Fore_later X G qw_4_21 dX4_suppose_42 ?_
    refine gfN_Paper_houses X G isPap_56 nf_15 dX4_suppose_45 ?_
    refine lv_iload_n hx hb dX4_suppose_48 rfl (lv_at hl 1 rfl) ?_
    refine lv_iload_n hx hb dX4_suppose_49 rfl (lv_at hl 3 rfl) ?_
    obtain ⟨q6, h⟩ := h
    refine gq_iast X G (ar_Paper_houses isPap_56) q6 dX4_suppose_50 (fun M7 H locs e8 G => ?_)
    have h := h M7 e8
    refine lv_goto (tgt := 75) hx hb dX4_suppose_51 (by decide) ?_
    exact gq_vret X G h dX4_suppose_75
  have h := h.2 c5
  by_cases c9 : (v2 : Int32) = 2
  · refine gq_tabIn (v := 2) (tgt := 54) hx hb dX4_suppose_1 c9 (by decide) (by decide) rfl (by decide) ?_
    have h := h.1 c9
    refine lv_aload_n hx hb dX4_suppose_54 rfl (lv_at hl 0 rfl) ?_
    refine gf_Fore_later X G qw_4_21 dX4_suppose_55 ?_
    refine gfN_Paper_ways X G isPap_56 nf_17 dX4_suppose_58 ?_
    refine lv_iload_n hx hb dX4_suppose_61 rfl (lv_at hl 1 rfl) ?_
    refine lv_iload_n hx hb dX4_suppose_62 rfl (lv_at hl 3 rfl) ?_
    obtain ⟨q10, h⟩ := h
    refine gq_iast X G (ar_Paper_ways isPap_56) q10 dX4_suppose_63 (fun M11 H locs e12 G => ?_)
    have h := h M11 e12
    refine lv_goto (tgt := 75) hx hb dX4_suppose_64 (by decide) ?_
    exact gq_vret X G h dX4_suppose_75
  have h := h.2 c9
  refine lv_tableOut (tgt := 67) hx hb dX4_suppose_1 (by have := gq_ne (v := 0) (z := 0) c1 rfl; have := gq_ne (v := 1) (z := 1) c5 rfl; have := gq_ne (v := 2) (z := 2) c9 rfl; omega) (by decide) ?_
  refine lv_aload_n hx hb dX4_suppose_67 rfl (lv_at hl 0 rfl) ?_
  refine gf_Fore_later X G qw_4_21 dX4_suppose_68 ?_
  refine lv_iload_n hx hb dX4_suppose_71 rfl (lv_at hl 3 rfl) ?_
  refine gpN_Paper_law X G isPap_56 nf_22 dX4_suppose_72 (fun M13 H locs e14 G => ?_)
  have h := h M13 e14
  exact gq_vret X G h dX4_suppose_75
def l_X4_cameToKnow_3 (K : Int32 → Mm → Prop) (v1 : Int32) (v2 : Nat) (v3 : Int32) (v4 : Int32) : Nat → Int32 → Mm → Prop
  | 0, _, _ => False
  | n + 1, v5, M => ((((v4 : Int32) ≤ v5 : Prop) → K 1 M) ∧ (¬ ((v4 : Int32) ≤ v5 : Prop) → (f_X6_walk 56 (v1) M (fun M2 => (f_X6_endDay 56 M2 (fun M3 => (vp_in (v1) 5 ∧ (f_J6_bitCount_0f7a4 (M3 (56 + 6) (v1 : Int32).toNatClampNeg) M3 (fun r6 M5 => (vp_in (v3 + v5) 40 ∧ ((((r6 : Int32) = M5 (v2 + 1) (v3 + v5 : Int32).toNatClampNeg : Prop) → (l_X4_cameToKnow_3 K v1 v2 v3 v4 n) (v5 + 1) M5) ∧ (¬ ((r6 : Int32) = M5 (v2 + 1) (v3 + v5 : Int32).toNatClampNeg : Prop) → K 0 M5))))))))))))
def f_X4_cameToKnow (v1 : Int32) (v2 : Nat) (v3 : Int32) (v4 : Int32) (M : Mm) (K : Int32 → Mm → Prop) : Prop := ∃ z, l_X4_cameToKnow_3 K (v1) (v2) (v3) (v4) z (0) M
set_option maxHeartbeats 4000000 in
set_option maxRecDepth 100000 in
theorem m_X4_cameToKnow (hI : gI 91 ad) {v1 : Int32} {v2 : Nat} (hv2 : isRow v2) {v3 : Int32} {v4 : Int32} {M : Mm} {K : Int32 → Mm → Prop} (h : f_X4_cameToKnow v1 v2 v3 v4 M K) : gM l D cy 91 ad (shC ad cy) yX4_cameToKnow cX4_cameToKnow 6 (some .boolean) 4 89 [.ref (ad 55), .int (v1), .ref (ad v2), .int (v3), .int (v4)] M (gQi D 91 ad (shC ad cy) K) := by
  refine gM.of (own := RX4) (lv := [(0, .ref (ad 55)), (1, .int (v1)), (2, .ref (ad v2)), (3, .int (v3)), (4, .int (v4))]) (by decide) rfl hI (Nat.le_of_ble_eq_true rfl) rfl ?_
  intro p e s m below meth c ls H locs X G hl
  have hx := X.1
  have hb := X.2.1
  have hL3 : ∀ (n : Nat) (v5 : Int32) (M : Mm) (H : Heap) (locs : List Loc) (ls : Array Slot), gS D s 91 ad (shC ad cy) H locs M → lv_has ls 6 [(0, .ref (ad 55)), (1, .int (v1)), (2, .ref (ad v2)), (3, .int (v3)), (4, .int (v4)), (5, .int (v5))] → l_X4_cameToKnow_3 K v1 v2 v3 v4 n v5 M → gWk p l e 4 89 s m ([.ref (ad 55), .int (v1), .ref (ad v2), .int (v3), .int (v4)] : List Value).toArray below meth c H locs (gQi D 91 ad (shC ad cy) K) 91 ad 3 ls [] := by
    intro n3
    induction n3 with
    | zero =>
      intro v5 M H locs ls G hl h
      exact False.elim h
    | succ n3 ih3 =>
      intro v5 M H locs ls G hl h
      rw [l_X4_cameToKnow_3] at h
      refine lv_iload hx hb dX4_cameToKnow_3 (lv_at hl 5 rfl) ?_
      refine lv_iload hx hb dX4_cameToKnow_5 (lv_at hl 4 rfl) ?_
      refine lv_icmp_ge (tgt := 57) hx hb dX4_cameToKnow_7 (by decide) (fun c1 => ?_) (fun c1 => ?_)
      · have h := h.1 c1
        refine lv_iconst (v := (1)) hx hb dX4_cameToKnow_57 (by decide) ?_
        exact gq_zret X G (Or.inr rfl) h dX4_cameToKnow_58
      have h := h.2 c1
      refine lv_aload_n hx hb dX4_cameToKnow_10 rfl (lv_at hl 0 rfl) ?_
      refine gf_Fore_later X G qw_4_21 dX4_cameToKnow_11 ?_
      refine lv_iload_n hx hb dX4_cameToKnow_14 rfl (lv_at hl 1 rfl) ?_
      refine gq_callv G (gc_VN (C := RX6) (rest := []) X hl.1 G (m_X6_walk hI isPap_56 h) cw_X6_walk nm_47 qw_17_8 qw_17_9 (ob_Paper isPap_56) rfl rfl rfl rfl (Nat.le_of_ble_eq_true rfl) ⟨Nat.le_of_ble_eq_true rfl, Nat.le_of_ble_eq_true rfl⟩ ⟨Nat.le_refl _, Nat.le_refl _⟩ dX4_cameToKnow_15) (fun M2 H locs G h => ?_)
      refine lv_aload_n hx hb dX4_cameToKnow_18 rfl (lv_at hl 0 rfl) ?_
      refine gf_Fore_later X G qw_4_21 dX4_cameToKnow_19 ?_
      refine gq_callv G (gc_VN (C := RX6) (rest := []) X hl.1 G (m_X6_endDay hI isPap_56 h) cw_X6_endDay nm_48 qw_19_4 qw_19_5 (ob_Paper isPap_56) rfl rfl rfl rfl (Nat.le_of_ble_eq_true rfl) ⟨Nat.le_of_ble_eq_true rfl, Nat.le_of_ble_eq_true rfl⟩ ⟨Nat.le_refl _, Nat.le_refl _⟩ dX4_cameToKnow_22) (fun M3 H locs G h => ?_)
      refine lv_aload_n hx hb dX4_cameToKnow_25 rfl (lv_at hl 0 rfl) ?_
      refine gf_Fore_later X G qw_4_21 dX4_cameToKnow_26 ?_
      refine gfN_Paper_knows X G isPap_56 nf_19 dX4_cameToKnow_29 ?_
      refine lv_iload_n hx hb dX4_cameToKnow_32 rfl (lv_at hl 1 rfl) ?_
      obtain ⟨q4, h⟩ := h
      refine gq_iald X G (ar_Paper_knows isPap_56) q4 dX4_cameToKnow_33 ?_
      refine gq_calli G (gc_S (rest := []) X hl.1 G (m_J6_bitCount_0f7a4 hI  h) cw_J6_bitCount_0f7a4 qw_33_14 qw_28_13 rfl rfl (Nat.le_of_ble_eq_true rfl) ⟨Nat.le_of_ble_eq_true rfl, Nat.le_of_ble_eq_true rfl⟩ ⟨Nat.le_refl _, Nat.le_refl _⟩ dX4_cameToKnow_34) (fun r6 M5 H locs G h => ?_)
      refine lv_aload_n hx hb dX4_cameToKnow_37 rfl (lv_at hl 2 rfl) ?_
      refine gfN_Row_items X G hv2 nf_1 dX4_cameToKnow_38 ?_
      refine lv_iload_n hx hb dX4_cameToKnow_41 rfl (lv_at hl 3 rfl) ?_
      refine lv_iload hx hb dX4_cameToKnow_42 (lv_at hl 5 rfl) ?_
      refine lv_iadd hx hb dX4_cameToKnow_44 ?_
      obtain ⟨q7, h⟩ := h
      refine gq_iald X G (ar_Row_items hv2) q7 dX4_cameToKnow_45 ?_
      refine lv_icmp_eq (tgt := 51) hx hb dX4_cameToKnow_46 (by decide) (fun c8 => ?_) (fun c8 => ?_)
      · have h := h.1 c8
        refine lv_iinc (v := v5 + 1) (lv' := [(5, .int (v5 + 1)), (0, .ref (ad 55)), (1, .int (v1)), (2, .ref (ad v2)), (3, .int (v3)), (4, .int (v4))]) hx hb dX4_cameToKnow_51 hl (k := 5) rfl rfl (by decide) rfl (fun ls hl => ?_)
        refine lv_goto (tgt := 3) hx hb dX4_cameToKnow_54 (by decide) ?_
        exact ih3 (v5 + 1) M5 H locs ls G  (lv_sub hl [1, 2, 3, 4, 5, 0] rfl) h
      have h := h.2 c8
      refine lv_iconst (v := (0)) hx hb dX4_cameToKnow_49 (by decide) ?_
      exact gq_zret X G (Or.inl rfl) h dX4_cameToKnow_50
  unfold f_X4_cameToKnow at h
  refine lv_iconst (v := (0)) hx hb dX4_cameToKnow_0 (by decide) ?_
  refine lv_istore (lv' := [(5, .int (0)), (0, .ref (ad 55)), (1, .int (v1)), (2, .ref (ad v2)), (3, .int (v3)), (4, .int (v4))]) hx hb dX4_cameToKnow_1 hl (by decide) rfl (fun ls hl => ?_)
  obtain ⟨n9, h⟩ := h
  exact hL3   n9 (0) M H locs ls G  (lv_sub hl [1, 2, 3, 4, 5, 0] rfl) h
def l_X4_whichFit_10 (K : Int32 → Mm → Prop) (v1 : Int32) (v2 : Nat) (v3 : Int32) (v4 : Int32) (v5 : Int32) : Nat → Int32 → Int32 → Mm → Prop
  | 0, _, _, _ => False
  | n + 1, v6, v7, M => (f_X4_greatestGuess (v5) M (fun r2 M1 => ((((r2 : Int32) < v7 : Prop) → K (v6) M1) ∧ (¬ ((r2 : Int32) < v7 : Prop) → (f_X6_become 56 26 M1 (fun M4 => (f_X4_suppose (v1) (v5) (v7) M4 (fun M5 => (f_X4_cameToKnow (v1) v2 (v3) (v4) M5 (fun r7 M6 => ((((r7 : Int32) = 0 : Prop) → (l_X4_whichFit_10 K v1 v2 v3 v4 v5 n) (v6) (v7 + 1) M6) ∧ (¬ ((r7 : Int32) = 0 : Prop) → (l_X4_whichFit_10 K v1 v2 v3 v4 v5 n) (v6 ||| (1 <<< (v7 &&& 31))) (v7 + 1) M6))))))))))))
def f_X4_whichFit (v1 : Int32) (v2 : Nat) (v3 : Int32) (v4 : Int32) (v5 : Int32) (M : Mm) (K : Int32 → Mm → Prop) : Prop := (f_X4_leastGuess (v5) M (fun r10 M9 => ∃ z, l_X4_whichFit_10 K (v1) (v2) (v3) (v4) (v5) z (0) (r10) M9))
set_option maxHeartbeats 4000000 in
set_option maxRecDepth 100000 in
theorem m_X4_whichFit (hI : gI 91 ad) {v1 : Int32} {v2 : Nat} (hv2 : isRow v2) {v3 : Int32} {v4 : Int32} {v5 : Int32} {M : Mm} {K : Int32 → Mm → Prop} (h : f_X4_whichFit v1 v2 v3 v4 v5 M K) : gM l D cy 91 ad (shC ad cy) yX4_whichFit cX4_whichFit 8 (some .int) 5 114 [.ref (ad 55), .int (v1), .ref (ad v2), .int (v3), .int (v4), .int (v5)] M (gQi D 91 ad (shC ad cy) K) := by
  refine gM.of (own := RX4) (lv := [(0, .ref (ad 55)), (1, .int (v1)), (2, .ref (ad v2)), (3, .int (v3)), (4, .int (v4)), (5, .int (v5))]) (by decide) rfl hI (Nat.le_of_ble_eq_true rfl) rfl ?_
  intro p e s m below meth c ls H locs X G hl
  have hx := X.1
  have hb := X.2.1
  have hL10 : ∀ (n : Nat) (v6 : Int32) (v7 : Int32) (M : Mm) (H : Heap) (locs : List Loc) (ls : Array Slot), gS D s 91 ad (shC ad cy) H locs M → lv_has ls 8 [(0, .ref (ad 55)), (1, .int (v1)), (2, .ref (ad v2)), (3, .int (v3)), (4, .int (v4)), (5, .int (v5)), (6, .int (v6)), (7, .int (v7))] → l_X4_whichFit_10 K v1 v2 v3 v4 v5 n v6 v7 M → gWk p l e 5 114 s m ([.ref (ad 55), .int (v1), .ref (ad v2), .int (v3), .int (v4), .int (v5)] : List Value).toArray below meth c H locs (gQi D 91 ad (shC ad cy) K) 91 ad 10 ls [] := by
    intro n10
    induction n10 with
    | zero =>
      intro v6 v7 M H locs ls G hl h
      exact False.elim h
    | succ n10 ih10 =>
      intro v6 v7 M H locs ls G hl h
      rw [l_X4_whichFit_10] at h
      refine lv_iload hx hb dX4_whichFit_10 (lv_at hl 7 rfl) ?_
      refine lv_aload_n hx hb dX4_whichFit_12 rfl (lv_at hl 0 rfl) ?_
      refine lv_iload hx hb dX4_whichFit_13 (lv_at hl 5 rfl) ?_
      refine gq_calli G (gc_V (C := RX4) (rest := [.int (v7)]) X hl.1 G (m_X4_greatestGuess hI  h) cw_X4_greatestGuess qw_33_2 qw_33_3 qw_33_4 ob_Fore rfl rfl rfl rfl (Nat.le_of_ble_eq_true rfl) ⟨Nat.le_of_ble_eq_true rfl, Nat.le_of_ble_eq_true rfl⟩ ⟨Nat.le_refl _, Nat.le_refl _⟩ dX4_whichFit_15) (fun r2 M1 H locs G h => ?_)
      refine lv_icmp_gt (tgt := 68) hx hb dX4_whichFit_18 (by decide) (fun c3 => ?_) (fun c3 => ?_)
      · have h := h.1 c3
        refine lv_iload hx hb dX4_whichFit_68 (lv_at hl 6 rfl) ?_
        exact gq_iret X G h dX4_whichFit_70
      have h := h.2 c3
      refine lv_aload_n hx hb dX4_whichFit_21 rfl (lv_at hl 0 rfl) ?_
      refine gf_Fore_later X G qw_4_21 dX4_whichFit_22 ?_
      refine lv_aload_n hx hb dX4_whichFit_25 rfl (lv_at hl 0 rfl) ?_
      refine gf_Fore_now X G qw_4_19 dX4_whichFit_26 ?_
      refine gq_callv G (gc_VN (C := RX6) (rest := []) X hl.1 G (m_X6_become hI isPap_56 isPap_26 h) cw_X6_become nm_46 qw_13_14 qw_13_15 (ob_Paper isPap_56) rfl rfl rfl rfl (Nat.le_of_ble_eq_true rfl) ⟨Nat.le_of_ble_eq_true rfl, Nat.le_of_ble_eq_true rfl⟩ ⟨Nat.le_refl _, Nat.le_refl _⟩ dX4_whichFit_29) (fun M4 H locs G h => ?_)
      refine lv_aload_n hx hb dX4_whichFit_32 rfl (lv_at hl 0 rfl) ?_
      refine lv_iload_n hx hb dX4_whichFit_33 rfl (lv_at hl 1 rfl) ?_
      refine lv_iload hx hb dX4_whichFit_34 (lv_at hl 5 rfl) ?_
      refine lv_iload hx hb dX4_whichFit_36 (lv_at hl 7 rfl) ?_
      refine gq_callv G (gc_V (C := RX4) (rest := []) X hl.1 G (m_X4_suppose hI  h) cw_X4_suppose qw_33_6 qw_33_7 qw_33_8 ob_Fore rfl rfl rfl rfl (Nat.le_of_ble_eq_true rfl) ⟨Nat.le_of_ble_eq_true rfl, Nat.le_of_ble_eq_true rfl⟩ ⟨Nat.le_refl _, Nat.le_refl _⟩ dX4_whichFit_38) (fun M5 H locs G h => ?_)
      refine lv_aload_n hx hb dX4_whichFit_41 rfl (lv_at hl 0 rfl) ?_
      refine lv_iload_n hx hb dX4_whichFit_42 rfl (lv_at hl 1 rfl) ?_
      refine lv_aload_n hx hb dX4_whichFit_43 rfl (lv_at hl 2 rfl) ?_
      refine lv_iload_n hx hb dX4_whichFit_44 rfl (lv_at hl 3 rfl) ?_
      refine lv_iload hx hb dX4_whichFit_45 (lv_at hl 4 rfl) ?_
      refine gq_calli G (gc_V (C := RX4) (rest := []) X hl.1 G (m_X4_cameToKnow hI hv2 h) cw_X4_cameToKnow qw_33_10 qw_33_11 qw_33_12 ob_Fore rfl rfl rfl rfl (Nat.le_of_ble_eq_true rfl) ⟨Nat.le_of_ble_eq_true rfl, Nat.le_of_ble_eq_true rfl⟩ ⟨Nat.le_refl _, Nat.le_refl _⟩ dX4_whichFit_47) (fun r7 M6 H locs G h => ?_)
      refine lv_if_eq (tgt := 62) hx hb dX4_whichFit_50 (by decide) (fun c8 => ?_) (fun c8 => ?_)
      · have h := h.1 c8
        refine lv_iinc (v := v7 + 1) (lv' := [(7, .int (v7 + 1)), (0, .ref (ad 55)), (1, .int (v1)), (2, .ref (ad v2)), (3, .int (v3)), (4, .int (v4)), (5, .int (v5)), (6, .int (v6))]) hx hb dX4_whichFit_62 hl (k := 7) rfl rfl (by decide) rfl (fun ls hl => ?_)
        refine lv_goto (tgt := 10) hx hb dX4_whichFit_65 (by decide) ?_
        exact ih10 (v6) (v7 + 1) M6 H locs ls G  (lv_sub hl [1, 2, 3, 4, 5, 6, 7, 0] rfl) h
      have h := h.2 c8
      refine lv_iload hx hb dX4_whichFit_53 (lv_at hl 6 rfl) ?_
      refine lv_iconst (v := (1)) hx hb dX4_whichFit_55 (by decide) ?_
      refine lv_iload hx hb dX4_whichFit_56 (lv_at hl 7 rfl) ?_
      refine lv_ishl hx hb dX4_whichFit_58 ?_
      refine lv_ior hx hb dX4_whichFit_59 ?_
      refine lv_istore (lv' := [(6, .int (v6 ||| (1 <<< (v7 &&& 31)))), (0, .ref (ad 55)), (1, .int (v1)), (2, .ref (ad v2)), (3, .int (v3)), (4, .int (v4)), (5, .int (v5)), (7, .int (v7))]) hx hb dX4_whichFit_60 hl (by decide) rfl (fun ls hl => ?_)
      refine lv_iinc (v := v7 + 1) (lv' := [(7, .int (v7 + 1)), (6, .int (v6 ||| (1 <<< (v7 &&& 31)))), (0, .ref (ad 55)), (1, .int (v1)), (2, .ref (ad v2)), (3, .int (v3)), (4, .int (v4)), (5, .int (v5))]) hx hb dX4_whichFit_62 hl (k := 7) rfl rfl (by decide) rfl (fun ls hl => ?_)
      refine lv_goto (tgt := 10) hx hb dX4_whichFit_65 (by decide) ?_
      exact ih10 (v6 ||| (1 <<< (v7 &&& 31))) (v7 + 1) M6 H locs ls G  (lv_sub hl [2, 3, 4, 5, 6, 7, 1, 0] rfl) h
  unfold f_X4_whichFit at h
  refine lv_iconst (v := (0)) hx hb dX4_whichFit_0 (by decide) ?_
  refine lv_istore (lv' := [(6, .int (0)), (0, .ref (ad 55)), (1, .int (v1)), (2, .ref (ad v2)), (3, .int (v3)), (4, .int (v4)), (5, .int (v5))]) hx hb dX4_whichFit_1 hl (by decide) rfl (fun ls hl => ?_)
  refine lv_iload hx hb dX4_whichFit_3 (lv_at hl 6 rfl) ?_
  refine gq_calli G (gc_S (rest := []) X hl.1 G (m_X4_leastGuess hI  h) cw_X4_leastGuess qw_32_23 qw_33_0 rfl rfl (Nat.le_of_ble_eq_true rfl) ⟨Nat.le_of_ble_eq_true rfl, Nat.le_of_ble_eq_true rfl⟩ ⟨Nat.le_refl _, Nat.le_refl _⟩ dX4_whichFit_5) (fun r10 M9 H locs G h => ?_)
  refine lv_istore (lv' := [(7, .int (r10)), (6, .int (0)), (0, .ref (ad 55)), (1, .int (v1)), (2, .ref (ad v2)), (3, .int (v3)), (4, .int (v4)), (5, .int (v5))]) hx hb dX4_whichFit_8 hl (by decide) rfl (fun ls hl => ?_)
  obtain ⟨n11, h⟩ := h
  exact hL10   n11 (0) (r10) M9 H locs ls G  (lv_sub hl [2, 3, 4, 5, 6, 7, 1, 0] rfl) h
def f_X11_fits (v1 : Int32) (v2 : Int32) (v3 : Int32) (v4 : Int32) (v5 : Int32) (M : Mm) (K : Int32 → Mm → Prop) : Prop := (f_X11_rowAt (v2) M (fun o28 M1 => (o28 = none → (f_X6_hasFolk 26 (v1) M1 (fun r4 M3 => ((((r4 : Int32) = 0 : Prop) → K (-1000001) M3) ∧ (¬ ((r4 : Int32) = 0 : Prop) → K (-1000001) M3))))) ∧ (∀ p2 : Nat, o28 = some p2 → (f_X6_hasFolk 26 (v1) M1 (fun r7 M6 => ((((r7 : Int32) = 0 : Prop) → K (-1000001) M6) ∧ (¬ ((r7 : Int32) = 0 : Prop) → ((((v4 : Int32) < 1 : Prop) → K (-1000001) M6) ∧ (¬ ((v4 : Int32) < 1 : Prop) → ((((12 : Int32) < v4 : Prop) → K (-1000001) M6) ∧ (¬ ((12 : Int32) < v4 : Prop) → ((((v5 : Int32) < 0 : Prop) → K (-1000001) M6) ∧ (¬ ((v5 : Int32) < 0 : Prop) → ((((v5 : Int32) ≤ 3 : Prop) → (isRow p2 ∧ (f_X7_missing p2 M6 (fun r15 M14 => ((((r15 : Int32) = 0 : Prop) → (f_X7_has p2 (v3) (v4) M14 (fun r18 M17 => ((((r18 : Int32) = 0 : Prop) → (f_X11_found (2) M17 (fun r25 M24 => K (r25) M24))) ∧ (¬ ((r18 : Int32) = 0 : Prop) → (f_X4_whichFit (v1) p2 (v3) (v4) (v5) M17 (fun r21 M20 => (f_X11_sound (r21) M20 (fun r23 M22 => K (r23) M22))))))))) ∧ (¬ ((r15 : Int32) = 0 : Prop) → (f_X11_found (1) M14 (fun r27 M26 => K (r27) M26)))))))) ∧ (¬ ((v5 : Int32) ≤ 3 : Prop) → K (-1000001) M6)))))))))))))))
set_option maxHeartbeats 4000000 in
set_option maxRecDepth 100000 in
theorem m_X11_fits (hI : gI 91 ad) {v1 : Int32} {v2 : Int32} {v3 : Int32} {v4 : Int32} {v5 : Int32} {M : Mm} {K : Int32 → Mm → Prop} (h : f_X11_fits v1 v2 v3 v4 v5 M K) : gM l D cy 91 ad (shC ad cy) yX11_fits cX11_fits 7 (some .int) 6 141 [.ref (ad 0), .int (v1), .int (v2), .int (v3), .int (v4), .int (v5)] M (gQi D 91 ad (shC ad cy) K) := by
  refine gM.of (own := RX11) (lv := [(0, .ref (ad 0)), (1, .int (v1)), (2, .int (v2)), (3, .int (v3)), (4, .int (v4)), (5, .int (v5))]) (by decide) rfl hI (Nat.le_of_ble_eq_true rfl) rfl ?_
  intro p e s m below meth c ls H locs X G hl
  have hx := X.1
  have hb := X.2.1
  unfold f_X11_fits at h
  refine lv_aload_n hx hb dX11_fits_0 rfl (lv_at hl 0 rfl) ?_
  refine lv_iload_n hx hb dX11_fits_1 rfl (lv_at hl 2 rfl) ?_
  refine gq_calle G (gc_V (C := RX11) (rest := []) X hl.1 G (m_X11_rowAt hI  h) cw_X11_rowAt qw_6_6 qw_6_7 qw_6_8 ob_PH rfl rfl rfl rfl (Nat.le_of_ble_eq_true rfl) ⟨Nat.le_of_ble_eq_true rfl, Nat.le_of_ble_eq_true rfl⟩ ⟨Nat.le_refl _, Nat.le_refl _⟩ dX11_fits_2) (fun M1 H locs G h => ?_) (fun p2 M1 H locs G h => ?_)
  · have h := h.1 rfl
    refine lv_astoreN (lv' := [(6, .null), (0, .ref (ad 0)), (1, .int (v1)), (2, .int (v2)), (3, .int (v3)), (4, .int (v4)), (5, .int (v5))]) hx hb dX11_fits_5 hl (by decide) rfl (fun ls hl => ?_)
    refine lv_aload_n hx hb dX11_fits_7 rfl (lv_at hl 1 rfl) ?_
    refine gf_PH_now X G qw_2_16 dX11_fits_8 ?_
    refine lv_iload_n hx hb dX11_fits_11 rfl (lv_at hl 2 rfl) ?_
    refine gq_calli G (gc_VN (C := RX6) (rest := []) X hl.1 G (m_X6_hasFolk hI isPap_26 h) cw_X6_hasFolk nm_34 qw_22_17 qw_22_18 (ob_Paper isPap_26) rfl rfl rfl rfl (Nat.le_of_ble_eq_true rfl) ⟨Nat.le_of_ble_eq_true rfl, Nat.le_of_ble_eq_true rfl⟩ ⟨Nat.le_refl _, Nat.le_refl _⟩ dX11_fits_12) (fun r4 M3 H locs G h => ?_)
    refine lv_if_eq (tgt := 47) hx hb dX11_fits_15 (by decide) (fun c5 => ?_) (fun c5 => ?_)
    · have h := h.1 c5
      refine gq_ldc (v := (-1000001)) X qw_6_5 dX11_fits_47 ?_
      exact gq_iret X G h dX11_fits_49
    have h := h.2 c5
    refine lv_aloadN hx hb dX11_fits_18 (lv_at hl 0 rfl) ?_
    refine lv_ifnullN (tgt := 47) hx hb dX11_fits_20 (by decide) ?_
    refine gq_ldc (v := (-1000001)) X qw_6_5 dX11_fits_47 ?_
    exact gq_iret X G h dX11_fits_49
  have h := h.2 p2 rfl
  refine lv_astore (lv' := [(6, .ref (ad p2)), (0, .ref (ad 0)), (1, .int (v1)), (2, .int (v2)), (3, .int (v3)), (4, .int (v4)), (5, .int (v5))]) hx hb dX11_fits_5 hl (by decide) rfl (fun ls hl => ?_)
  refine lv_aload_n hx hb dX11_fits_7 rfl (lv_at hl 1 rfl) ?_
  refine gf_PH_now X G qw_2_16 dX11_fits_8 ?_
  refine lv_iload_n hx hb dX11_fits_11 rfl (lv_at hl 2 rfl) ?_
  refine gq_calli G (gc_VN (C := RX6) (rest := []) X hl.1 G (m_X6_hasFolk hI isPap_26 h) cw_X6_hasFolk nm_34 qw_22_17 qw_22_18 (ob_Paper isPap_26) rfl rfl rfl rfl (Nat.le_of_ble_eq_true rfl) ⟨Nat.le_of_ble_eq_true rfl, Nat.le_of_ble_eq_true rfl⟩ ⟨Nat.le_refl _, Nat.le_refl _⟩ dX11_fits_12) (fun r7 M6 H locs G h => ?_)
  refine lv_if_eq (tgt := 47) hx hb dX11_fits_15 (by decide) (fun c8 => ?_) (fun c8 => ?_)
  · have h := h.1 c8
    refine gq_ldc (v := (-1000001)) X qw_6_5 dX11_fits_47 ?_
    exact gq_iret X G h dX11_fits_49
  have h := h.2 c8
  refine lv_aload hx hb dX11_fits_18 (lv_at hl 0 rfl) ?_
  refine lv_ifnull hx hb dX11_fits_20 ?_
  refine lv_iload hx hb dX11_fits_23 (lv_at hl 5 rfl) ?_
  refine lv_iconst (v := (1)) hx hb dX11_fits_25 (by decide) ?_
  refine lv_icmp_lt (tgt := 47) hx hb dX11_fits_26 (by decide) (fun c9 => ?_) (fun c9 => ?_)
  · have h := h.1 c9
    refine gq_ldc (v := (-1000001)) X qw_6_5 dX11_fits_47 ?_
    exact gq_iret X G h dX11_fits_49
  have h := h.2 c9
  refine lv_iload hx hb dX11_fits_29 (lv_at hl 5 rfl) ?_
  refine lv_bipush (v := (12)) hx hb dX11_fits_31 (by decide) ?_
  refine lv_icmp_gt (tgt := 47) hx hb dX11_fits_33 (by decide) (fun c10 => ?_) (fun c10 => ?_)
  · have h := h.1 c10
    refine gq_ldc (v := (-1000001)) X qw_6_5 dX11_fits_47 ?_
    exact gq_iret X G h dX11_fits_49
  have h := h.2 c10
  refine lv_iload hx hb dX11_fits_36 (lv_at hl 6 rfl) ?_
  refine lv_if_lt (tgt := 47) hx hb dX11_fits_38 (by decide) (fun c11 => ?_) (fun c11 => ?_)
  · have h := h.1 c11
    refine gq_ldc (v := (-1000001)) X qw_6_5 dX11_fits_47 ?_
    exact gq_iret X G h dX11_fits_49
  have h := h.2 c11
  refine lv_iload hx hb dX11_fits_41 (lv_at hl 6 rfl) ?_
  refine lv_iconst (v := (3)) hx hb dX11_fits_43 (by decide) ?_
  refine lv_icmp_le (tgt := 50) hx hb dX11_fits_44 (by decide) (fun c12 => ?_) (fun c12 => ?_)
  · have h := h.1 c12
    refine lv_aload hx hb dX11_fits_50 (lv_at hl 0 rfl) ?_
    obtain ⟨q13, h⟩ := h
    refine gq_calli G (gc_VN (C := RX7) (rest := []) X hl.1 G (m_X7_missing hI q13 h) cw_X7_missing nm_17 qw_8_5 qw_8_6 (ob_Row q13) rfl rfl rfl rfl (Nat.le_of_ble_eq_true rfl) ⟨Nat.le_of_ble_eq_true rfl, Nat.le_of_ble_eq_true rfl⟩ ⟨Nat.le_refl _, Nat.le_refl _⟩ dX11_fits_52) (fun r15 M14 H locs G h => ?_)
    refine lv_if_eq (tgt := 64) hx hb dX11_fits_55 (by decide) (fun c16 => ?_) (fun c16 => ?_)
    · have h := h.1 c16
      refine lv_aload hx hb dX11_fits_64 (lv_at hl 0 rfl) ?_
      refine lv_iload_n hx hb dX11_fits_66 rfl (lv_at hl 4 rfl) ?_
      refine lv_iload hx hb dX11_fits_67 (lv_at hl 5 rfl) ?_
      refine gq_calli G (gc_VN (C := RX7) (rest := []) X hl.1 G (m_X7_has hI q13 h) cw_X7_has nm_18 qw_8_8 qw_8_9 (ob_Row q13) rfl rfl rfl rfl (Nat.le_of_ble_eq_true rfl) ⟨Nat.le_of_ble_eq_true rfl, Nat.le_of_ble_eq_true rfl⟩ ⟨Nat.le_refl _, Nat.le_refl _⟩ dX11_fits_69) (fun r18 M17 H locs G h => ?_)
      refine lv_if_ne (tgt := 81) hx hb dX11_fits_72 (by decide) (fun c19 => ?_) (fun c19 => ?_)
      · have h := h.2 c19
        refine lv_aload_n hx hb dX11_fits_81 rfl (lv_at hl 1 rfl) ?_
        refine lv_aload_n hx hb dX11_fits_82 rfl (lv_at hl 1 rfl) ?_
        refine gf_PH_foretold X G qw_2_22 dX11_fits_83 ?_
        refine lv_iload_n hx hb dX11_fits_86 rfl (lv_at hl 2 rfl) ?_
        refine lv_aload hx hb dX11_fits_87 (lv_at hl 0 rfl) ?_
        refine lv_iload_n hx hb dX11_fits_89 rfl (lv_at hl 4 rfl) ?_
        refine lv_iload hx hb dX11_fits_90 (lv_at hl 5 rfl) ?_
        refine lv_iload hx hb dX11_fits_92 (lv_at hl 6 rfl) ?_
        refine gq_calli G (gc_VN (C := RX4) (rest := [.ref (ad 0)]) X hl.1 G (m_X4_whichFit hI q13 h) cw_X4_whichFit nm_58 qw_32_20 qw_32_21 ob_Fore rfl rfl rfl rfl (Nat.le_of_ble_eq_true rfl) ⟨Nat.le_of_ble_eq_true rfl, Nat.le_of_ble_eq_true rfl⟩ ⟨Nat.le_refl _, Nat.le_refl _⟩ dX11_fits_94) (fun r21 M20 H locs G h => ?_)
        refine gq_calli G (gc_V (C := RX11) (rest := []) X hl.1 G (m_X11_sound hI  h) cw_X11_sound qw_7_0 qw_7_1 qw_7_2 ob_PH rfl rfl rfl rfl (Nat.le_of_ble_eq_true rfl) ⟨Nat.le_of_ble_eq_true rfl, Nat.le_of_ble_eq_true rfl⟩ ⟨Nat.le_refl _, Nat.le_refl _⟩ dX11_fits_97) (fun r23 M22 H locs G h => ?_)
        exact gq_iret X G h dX11_fits_100
      have h := h.1 c19
      refine lv_aload_n hx hb dX11_fits_75 rfl (lv_at hl 1 rfl) ?_
      refine lv_iconst (v := (2)) hx hb dX11_fits_76 (by decide) ?_
      refine gq_calli G (gc_V (C := RX11) (rest := []) X hl.1 G (m_X11_found hI  h) cw_X11_found qw_6_10 qw_6_11 qw_6_12 ob_PH rfl rfl rfl rfl (Nat.le_of_ble_eq_true rfl) ⟨Nat.le_of_ble_eq_true rfl, Nat.le_of_ble_eq_true rfl⟩ ⟨Nat.le_refl _, Nat.le_refl _⟩ dX11_fits_77) (fun r25 M24 H locs G h => ?_)
      exact gq_iret X G h dX11_fits_80
    have h := h.2 c16
    refine lv_aload_n hx hb dX11_fits_58 rfl (lv_at hl 1 rfl) ?_
    refine lv_iconst (v := (1)) hx hb dX11_fits_59 (by decide) ?_
    refine gq_calli G (gc_V (C := RX11) (rest := []) X hl.1 G (m_X11_found hI  h) cw_X11_found qw_6_10 qw_6_11 qw_6_12 ob_PH rfl rfl rfl rfl (Nat.le_of_ble_eq_true rfl) ⟨Nat.le_of_ble_eq_true rfl, Nat.le_of_ble_eq_true rfl⟩ ⟨Nat.le_refl _, Nat.le_refl _⟩ dX11_fits_60) (fun r27 M26 H locs G h => ?_)
    exact gq_iret X G h dX11_fits_63
  have h := h.2 c12
  refine gq_ldc (v := (-1000001)) X qw_6_5 dX11_fits_47 ?_
  exact gq_iret X G h dX11_fits_49
end GEN03
