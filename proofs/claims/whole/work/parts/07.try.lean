section TRY
variable {l : Launch} {D : va_G} {cy : Nat → ClassId} {ad : Nat → Nat}
def l_X6_houseOf_4 (K : Int32 → Mm → Prop) (v0 : Nat) (v1 : Int32) : Nat → Int32 → Int32 → Mm → Prop
  | 0, _, _, _ => False
  | n + 1, v2, v3, M => ((((M v0 9 : Int32) ≤ v3 : Prop) → K (v2) M) ∧ (¬ ((M v0 9 : Int32) ≤ v3 : Prop) → (vp_in (v3) 5 ∧ ((((v1 : Int32) < M (v0 + 2) (v3 : Int32).toNatClampNeg : Prop) → (l_X6_houseOf_4 K v0 v1 n) (v2) (v3 + 1) M) ∧ (¬ ((v1 : Int32) < M (v0 + 2) (v3 : Int32).toNatClampNeg : Prop) → (l_X6_houseOf_4 K v0 v1 n) (v2 + 1) (v3 + 1) M)))))
def f_X6_houseOf (v0 : Nat) (v1 : Int32) (M : Mm) (K : Int32 → Mm → Prop) : Prop := ∃ n, l_X6_houseOf_4 K (v0) (v1) n (0) (0) M
set_option maxHeartbeats 4000000 in
set_option maxRecDepth 100000 in
theorem m_X6_houseOf (hI : gI 91 ad) {v0 : Nat} (hv0 : isPap v0) {v1 : Int32} {M : Mm} {K : Int32 → Mm → Prop} (h : f_X6_houseOf v0 v1 M K) : gM l D cy 91 ad (shC ad cy) yX6_houseOf cX6_houseOf 4 (some .int) 0 0 [.ref (ad v0), .int (v1)] M (gQi D 91 ad (shC ad cy) K) := by
  refine gM.of (own := RX6) (lv := [(0, .ref (ad v0)), (1, .int (v1))]) (by decide) rfl hI (Nat.le_of_ble_eq_true rfl) rfl ?_
  intro p e s m below meth c ls H locs X G hl
  have hx := X.1
  have hb := X.2.1
  have hL4 : ∀ (n : Nat) (v2 : Int32) (v3 : Int32) (M : Mm) (H : Heap) (locs : List Loc) (ls : Array Slot), gS D s 91 ad (shC ad cy) H locs M → lv_has ls 4 [(0, .ref (ad v0)), (1, .int (v1)), (2, .int (v2)), (3, .int (v3))] → l_X6_houseOf_4 K v0 v1 n v2 v3 M → gWk p l e 0 0 s m ([.ref (ad v0), .int (v1)] : List Value).toArray below meth c H locs (gQi D 91 ad (shC ad cy) K) 91 ad 4 ls [] := by
    intro n4
    induction n4 with
    | zero =>
      intro v2 v3 M H locs ls G hl h
      exact False.elim h
    | succ n4 ih4 =>
      intro v2 v3 M H locs ls G hl h
      rw [l_X6_houseOf_4] at h
      refine lv_iload_n hx hb dX6_houseOf_4 rfl (lv_at hl 3 rfl) ?_
      refine lv_aload_n hx hb dX6_houseOf_5 rfl (lv_at hl 0 rfl) ?_
      refine gf_Paper_wallCount X G hv0 qw_11_4 dX6_houseOf_6 ?_
      refine lv_icmp_ge (tgt := 31) hx hb dX6_houseOf_9 (by decide) (fun c1 => ?_) (fun c1 => ?_)
      · have h := h.1 c1
        refine lv_iload_n hx hb dX6_houseOf_31 rfl (lv_at hl 2 rfl) ?_
        exact gq_iret X G h dX6_houseOf_32
      have h := h.2 c1
      refine lv_aload_n hx hb dX6_houseOf_12 rfl (lv_at hl 0 rfl) ?_
      refine gf_Paper_walls X G hv0 qw_4_9 dX6_houseOf_13 ?_
      refine lv_iload_n hx hb dX6_houseOf_16 rfl (lv_at hl 3 rfl) ?_
      obtain ⟨q2, h⟩ := h
      refine gq_iald X G (ar_Paper_walls hv0) q2 dX6_houseOf_17 ?_
      refine lv_iload_n hx hb dX6_houseOf_18 rfl (lv_at hl 1 rfl) ?_
      refine lv_icmp_gt (tgt := 25) hx hb dX6_houseOf_19 (by decide) (fun c3 => ?_) (fun c3 => ?_)
      · have h := h.1 c3
        refine lv_iinc (v := v3 + 1) (lv' := [(3, .int (v3 + 1)), (0, .ref (ad v0)), (1, .int (v1)), (2, .int (v2))]) hx hb dX6_houseOf_25 hl (k := 3) rfl rfl (by decide) rfl (fun ls hl => ?_)
        refine lv_goto (tgt := 4) hx hb dX6_houseOf_28 (by decide) ?_
        exact ih4 (v2) (v3 + 1) M H locs ls G  (lv_sub hl [1, 2, 3, 0] rfl) h
      have h := h.2 c3
      refine lv_iinc (v := v2 + 1) (lv' := [(2, .int (v2 + 1)), (0, .ref (ad v0)), (1, .int (v1)), (3, .int (v3))]) hx hb dX6_houseOf_22 hl (k := 2) rfl rfl (by decide) rfl (fun ls hl => ?_)
      refine lv_iinc (v := v3 + 1) (lv' := [(3, .int (v3 + 1)), (2, .int (v2 + 1)), (0, .ref (ad v0)), (1, .int (v1))]) hx hb dX6_houseOf_25 hl (k := 3) rfl rfl (by decide) rfl (fun ls hl => ?_)
      refine lv_goto (tgt := 4) hx hb dX6_houseOf_28 (by decide) ?_
      exact ih4 (v2 + 1) (v3 + 1) M H locs ls G  (lv_sub hl [2, 3, 1, 0] rfl) h
  unfold f_X6_houseOf at h
  refine lv_iconst (v := (0)) hx hb dX6_houseOf_0 (by decide) ?_
  refine lv_istore_n (lv' := [(2, .int (0)), (0, .ref (ad v0)), (1, .int (v1))]) hx hb dX6_houseOf_1 rfl hl (by decide) rfl (fun ls hl => ?_)
  refine lv_iconst (v := (0)) hx hb dX6_houseOf_2 (by decide) ?_
  refine lv_istore_n (lv' := [(3, .int (0)), (2, .int (0)), (0, .ref (ad v0)), (1, .int (v1))]) hx hb dX6_houseOf_3 rfl hl (by decide) rfl (fun ls hl => ?_)
  obtain ⟨n4, h⟩ := h
  exact hL4   n4 (0) (0) M H locs ls G  (lv_sub hl [2, 3, 1, 0] rfl) h
end TRY
