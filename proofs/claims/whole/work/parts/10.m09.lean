section GEN09
variable {l : Launch} {D : va_G} {cy : Nat → ClassId} {ad : Nat → Nat}
def f_X12_fits_213 (K : Int32 → Mm → Prop) (k130 : Int32 → Int32 → Mm → Prop) (v1 : Int32) (v2 : Int32) (v3 : Int32) (v4 : Int32) (v5 : Int32) (v7 : Int32) (v8 : Int32) (v9 : Int32) (v10 : Int32) (s0 : Int32) (M : Mm) : Prop := (f_X12_isSo (v1) (v10) (s0) ((40 * v2) + v3) (v4) M (fun r2 M1 => ((((r2 : Int32) = 0 : Prop) → k130 (v8 ||| 0) (v9 + 1) M1) ∧ (¬ ((r2 : Int32) = 0 : Prop) → k130 (v8 ||| (1 <<< (v9 &&& 31))) (v9 + 1) M1))))
def f_X12_fits_194 (K : Int32 → Mm → Prop) (k130 : Int32 → Int32 → Mm → Prop) (v1 : Int32) (v2 : Int32) (v3 : Int32) (v4 : Int32) (v5 : Int32) (v7 : Int32) (v8 : Int32) (v9 : Int32) (s0 : Int32) (M : Mm) : Prop := ((((v5 : Int32) = 3 : Prop) → f_X12_fits_213 K k130 (v1) (v2) (v3) (v4) (v5) (v7) (v8) (v9) (s0) (v9) M) ∧ (¬ ((v5 : Int32) = 3 : Prop) → f_X12_fits_213 K k130 (v1) (v2) (v3) (v4) (v5) (v7) (v8) (v9) (s0) (M 7 (1 : Int32).toNatClampNeg) M))
def f_X12_fits_175 (K : Int32 → Mm → Prop) (k130 : Int32 → Int32 → Mm → Prop) (v1 : Int32) (v2 : Int32) (v3 : Int32) (v4 : Int32) (v5 : Int32) (v7 : Int32) (v8 : Int32) (v9 : Int32) (M : Mm) : Prop := ((((v5 : Int32) = 0 : Prop) → f_X12_fits_194 K k130 (v1) (v2) (v3) (v4) (v5) (v7) (v8) (v9) (v9) M) ∧ (¬ ((v5 : Int32) = 0 : Prop) → (vp_in (28 + v1) 33 ∧ f_X12_fits_194 K k130 (v1) (v2) (v3) (v4) (v5) (v7) (v8) (v9) (M 7 (28 + v1 : Int32).toNatClampNeg) M)))
def f_X12_fits_158 (K : Int32 → Mm → Prop) (k130 : Int32 → Int32 → Mm → Prop) (v1 : Int32) (v2 : Int32) (v3 : Int32) (v4 : Int32) (v5 : Int32) (v7 : Int32) (v8 : Int32) (v9 : Int32) (M : Mm) : Prop := ((((v5 : Int32) = 2 : Prop) → (vp_in (12 + v1) 22 ∧ (∀ M9 : Mm, M9 = gU M 10 (12 + v1 : Int32).toNatClampNeg (v9) → f_X12_fits_175 K k130 (v1) (v2) (v3) (v4) (v5) (v7) (v8) (v9) M9))) ∧ (¬ ((v5 : Int32) = 2 : Prop) → f_X12_fits_175 K k130 (v1) (v2) (v3) (v4) (v5) (v7) (v8) (v9) M))
def l_X12_fits_130 (K : Int32 → Mm → Prop) (v1 : Int32) (v2 : Int32) (v3 : Int32) (v4 : Int32) (v5 : Int32) (v7 : Int32) : Nat → Int32 → Int32 → Mm → Prop
  | 0, _, _, _ => False
  | n + 1, v8, v9, M => ((((v7 : Int32) < v9 : Prop) → (f_X12_well (v8) M (fun r13 M12 => K (r13) M12))) ∧ (¬ ((v7 : Int32) < v9 : Prop) → (f_X12_take  M (fun M14 => ((((v5 : Int32) = 1 : Prop) → (vp_in (7 + v1) 22 ∧ (∀ M17 : Mm, M17 = gU M14 10 (7 + v1 : Int32).toNatClampNeg (v9) → f_X12_fits_158 K (fun a0 a1 a => (l_X12_fits_130 K v1 v2 v3 v4 v5 v7 n) a0 a1 a) (v1) (v2) (v3) (v4) (v5) (v7) (v8) (v9) M17))) ∧ (¬ ((v5 : Int32) = 1 : Prop) → f_X12_fits_158 K (fun a0 a1 a => (l_X12_fits_130 K v1 v2 v3 v4 v5 v7 n) a0 a1 a) (v1) (v2) (v3) (v4) (v5) (v7) (v8) (v9) M14))))))
def f_X12_fits_121 (K : Int32 → Mm → Prop) (v1 : Int32) (v2 : Int32) (v3 : Int32) (v4 : Int32) (v5 : Int32) (v6 : Int32) (s0 : Int32) (M : Mm) : Prop := ∃ z, l_X12_fits_130 K (v1) (v2) (v3) (v4) (v5) (s0) z (0) (v6) M
def f_X12_fits_83 (K : Int32 → Mm → Prop) (v1 : Int32) (v2 : Int32) (v3 : Int32) (v4 : Int32) (v5 : Int32) (s0 : Int32) (M : Mm) : Prop := ((((v5 : Int32) = 0 : Prop) → f_X12_fits_121 K (v1) (v2) (v3) (v4) (v5) (s0) (5) M) ∧ (¬ ((v5 : Int32) = 0 : Prop) → ((((v5 : Int32) = 1 : Prop) → f_X12_fits_121 K (v1) (v2) (v3) (v4) (v5) (s0) (M 7 (2 : Int32).toNatClampNeg) M) ∧ (¬ ((v5 : Int32) = 1 : Prop) → ((((v5 : Int32) = 2 : Prop) → f_X12_fits_121 K (v1) (v2) (v3) (v4) (v5) (s0) (1) M) ∧ (¬ ((v5 : Int32) = 2 : Prop) → f_X12_fits_121 K (v1) (v2) (v3) (v4) (v5) (s0) (24) M))))))
def f_X12_fits (v1 : Int32) (v2 : Int32) (v3 : Int32) (v4 : Int32) (v5 : Int32) (M : Mm) (K : Int32 → Mm → Prop) : Prop := (f_X12_isOne (v1) M (fun r24 M23 => ((((r24 : Int32) = 0 : Prop) → K (-1000001) M23) ∧ (¬ ((r24 : Int32) = 0 : Prop) → (f_X12_isRow (v2) M23 (fun r27 M26 => ((((r27 : Int32) = 0 : Prop) → K (-1000001) M26) ∧ (¬ ((r27 : Int32) = 0 : Prop) → (f_X12_in (v4) (1) (12) M26 (fun r30 M29 => ((((r30 : Int32) = 0 : Prop) → K (-1000001) M29) ∧ (¬ ((r30 : Int32) = 0 : Prop) → (f_X12_in (v5) (0) (3) M29 (fun r33 M32 => ((((r33 : Int32) = 0 : Prop) → K (-1000001) M32) ∧ (¬ ((r33 : Int32) = 0 : Prop) → (vp_in (v2) 8 ∧ ((((M32 1 (v2 : Int32).toNatClampNeg : Int32) = -1000000 : Prop) → (f_X12_found (1) M32 (fun r44 M43 => K (r44) M43))) ∧ (¬ ((M32 1 (v2 : Int32).toNatClampNeg : Int32) = -1000000 : Prop) → (f_X12_isIn (v2) (v3) (v4) M32 (fun r38 M37 => ((((r38 : Int32) = 0 : Prop) → (f_X12_found (2) M37 (fun r42 M41 => K (r42) M41))) ∧ (¬ ((r38 : Int32) = 0 : Prop) → ((((v5 : Int32) = 0 : Prop) → f_X12_fits_83 K (v1) (v2) (v3) (v4) (v5) (1) M37) ∧ (¬ ((v5 : Int32) = 0 : Prop) → f_X12_fits_83 K (v1) (v2) (v3) (v4) (v5) (0) M37)))))))))))))))))))))))))
set_option maxHeartbeats 4000000 in
set_option maxRecDepth 100000 in
theorem m_X12_fits (hI : gI 17 ad) {v1 : Int32} {v2 : Int32} {v3 : Int32} {v4 : Int32} {v5 : Int32} {M : Mm} {K : Int32 → Mm → Prop} (h : f_X12_fits v1 v2 v3 v4 v5 M K) : gM l D cy 17 ad (shR ad cy) yX12_fits cX12_fits 12 (some .int) 4 102 [.ref (ad 0), .int (v1), .int (v2), .int (v3), .int (v4), .int (v5)] M (gQi D 17 ad (shR ad cy) K) := by
  refine gM.of (own := RX12) (lv := [(0, .ref (ad 0)), (1, .int (v1)), (2, .int (v2)), (3, .int (v3)), (4, .int (v4)), (5, .int (v5))]) (by decide) rfl hI (Nat.le_of_ble_eq_true rfl) rfl ?_
  intro p e s m below meth c ls H locs X G hl
  have hx := X.1
  have hb := X.2.1
  have hL130 : ∀ (v7 : Int32) (n : Nat) (v8 : Int32) (v9 : Int32) (M : Mm) (H : Heap) (locs : List Loc) (ls : Array Slot), gS D s 17 ad (shR ad cy) H locs M → lv_has ls 12 [(0, .ref (ad 0)), (1, .int (v1)), (2, .int (v2)), (3, .int (v3)), (4, .int (v4)), (5, .int (v5)), (7, .int (v7)), (8, .int (v8)), (9, .int (v9))] → l_X12_fits_130 K v1 v2 v3 v4 v5 v7 n v8 v9 M → gWk p l e 4 102 s m ([.ref (ad 0), .int (v1), .int (v2), .int (v3), .int (v4), .int (v5)] : List Value).toArray below meth c H locs (gQi D 17 ad (shR ad cy) K) 17 ad 130 ls [] := by
    intro v7 n130
    induction n130 with
    | zero =>
      intro v8 v9 M H locs ls G hl h
      exact False.elim h
    | succ n130 ih130 =>
      have hJ213 : ∀ (v8 : Int32) (v9 : Int32) (v10 : Int32) (s0 : Int32) (M : Mm) (H : Heap) (locs : List Loc) (ls : Array Slot), gS D s 17 ad (shR ad cy) H locs M → lv_has ls 12 [(0, .ref (ad 0)), (1, .int (v1)), (2, .int (v2)), (3, .int (v3)), (4, .int (v4)), (5, .int (v5)), (7, .int (v7)), (8, .int (v8)), (9, .int (v9)), (10, .int (v10))] → f_X12_fits_213 K (fun a0 a1 a => (l_X12_fits_130 K v1 v2 v3 v4 v5 v7 n130) a0 a1 a) v1 v2 v3 v4 v5 v7 v8 v9 v10 s0 M → gWk p l e 4 102 s m ([.ref (ad 0), .int (v1), .int (v2), .int (v3), .int (v4), .int (v5)] : List Value).toArray below meth c H locs (gQi D 17 ad (shR ad cy) K) 17 ad 213 ls [.int (s0)] := by
        intro v8 v9 v10 s0 M H locs ls G hl h
        unfold f_X12_fits_213 at h
        refine lv_istore (lv' := [(11, .int (s0)), (0, .ref (ad 0)), (1, .int (v1)), (2, .int (v2)), (3, .int (v3)), (4, .int (v4)), (5, .int (v5)), (7, .int (v7)), (8, .int (v8)), (9, .int (v9)), (10, .int (v10))]) hx hb dX12_fits_213 hl (by decide) rfl (fun ls hl => ?_)
        refine lv_iload hx hb dX12_fits_215 (lv_at hl 8 rfl) ?_
        refine lv_aload_n hx hb dX12_fits_217 rfl (lv_at hl 1 rfl) ?_
        refine lv_iload_n hx hb dX12_fits_218 rfl (lv_at hl 2 rfl) ?_
        refine lv_iload hx hb dX12_fits_219 (lv_at hl 10 rfl) ?_
        refine lv_iload hx hb dX12_fits_221 (lv_at hl 0 rfl) ?_
        refine lv_bipush (v := (40)) hx hb dX12_fits_223 (by decide) ?_
        refine lv_iload_n hx hb dX12_fits_225 rfl (lv_at hl 3 rfl) ?_
        refine lv_imul hx hb dX12_fits_226 ?_
        refine lv_iload_n hx hb dX12_fits_227 rfl (lv_at hl 4 rfl) ?_
        refine lv_iadd hx hb dX12_fits_228 ?_
        refine lv_iload hx hb dX12_fits_229 (lv_at hl 5 rfl) ?_
        refine gq_calli G (gc_V (C := RX12) (rest := [.int (v8)]) X hl.1 G (m_X12_isSo hI  h) cw_X12_isSo qw_33_19 qw_33_20 qw_33_21 ob_Model rfl rfl rfl rfl (Nat.le_of_ble_eq_true rfl) ⟨Nat.le_of_ble_eq_true rfl, Nat.le_of_ble_eq_true rfl⟩ ⟨Nat.le_refl _, Nat.le_refl _⟩ dX12_fits_231) (fun r2 M1 H locs G h => ?_)
        refine lv_if_eq (tgt := 244) hx hb dX12_fits_234 (by decide) (fun c3 => ?_) (fun c3 => ?_)
        · have h := h.1 c3
          refine lv_iconst (v := (0)) hx hb dX12_fits_244 (by decide) ?_
          refine lv_ior hx hb dX12_fits_245 ?_
          refine lv_istore (lv' := [(8, .int (v8 ||| 0)), (11, .int (s0)), (0, .ref (ad 0)), (1, .int (v1)), (2, .int (v2)), (3, .int (v3)), (4, .int (v4)), (5, .int (v5)), (7, .int (v7)), (9, .int (v9)), (10, .int (v10))]) hx hb dX12_fits_246 hl (by decide) rfl (fun ls hl => ?_)
          refine lv_iinc (v := v9 + 1) (lv' := [(9, .int (v9 + 1)), (8, .int (v8 ||| 0)), (11, .int (s0)), (0, .ref (ad 0)), (1, .int (v1)), (2, .int (v2)), (3, .int (v3)), (4, .int (v4)), (5, .int (v5)), (7, .int (v7)), (10, .int (v10))]) hx hb dX12_fits_248 hl (k := 9) rfl rfl (by decide) rfl (fun ls hl => ?_)
          refine lv_goto (tgt := 130) hx hb dX12_fits_251 (by decide) ?_
          exact ih130 (v8 ||| 0) (v9 + 1) M1 H locs ls G  (lv_sub hl [3, 4, 5, 6, 7, 8, 9, 1, 0] rfl) h
        have h := h.2 c3
        refine lv_iconst (v := (1)) hx hb dX12_fits_237 (by decide) ?_
        refine lv_iload hx hb dX12_fits_238 (lv_at hl 9 rfl) ?_
        refine lv_ishl hx hb dX12_fits_240 ?_
        refine lv_goto (tgt := 245) hx hb dX12_fits_241 (by decide) ?_
        refine lv_ior hx hb dX12_fits_245 ?_
        refine lv_istore (lv' := [(8, .int (v8 ||| (1 <<< (v9 &&& 31)))), (11, .int (s0)), (0, .ref (ad 0)), (1, .int (v1)), (2, .int (v2)), (3, .int (v3)), (4, .int (v4)), (5, .int (v5)), (7, .int (v7)), (9, .int (v9)), (10, .int (v10))]) hx hb dX12_fits_246 hl (by decide) rfl (fun ls hl => ?_)
        refine lv_iinc (v := v9 + 1) (lv' := [(9, .int (v9 + 1)), (8, .int (v8 ||| (1 <<< (v9 &&& 31)))), (11, .int (s0)), (0, .ref (ad 0)), (1, .int (v1)), (2, .int (v2)), (3, .int (v3)), (4, .int (v4)), (5, .int (v5)), (7, .int (v7)), (10, .int (v10))]) hx hb dX12_fits_248 hl (k := 9) rfl rfl (by decide) rfl (fun ls hl => ?_)
        refine lv_goto (tgt := 130) hx hb dX12_fits_251 (by decide) ?_
        exact ih130 (v8 ||| (1 <<< (v9 &&& 31))) (v9 + 1) M1 H locs ls G  (lv_sub hl [3, 4, 5, 6, 7, 8, 9, 1, 0] rfl) h
      have hJ194 : ∀ (v8 : Int32) (v9 : Int32) (s0 : Int32) (M : Mm) (H : Heap) (locs : List Loc) (ls : Array Slot), gS D s 17 ad (shR ad cy) H locs M → lv_has ls 12 [(0, .ref (ad 0)), (1, .int (v1)), (2, .int (v2)), (3, .int (v3)), (4, .int (v4)), (5, .int (v5)), (7, .int (v7)), (8, .int (v8)), (9, .int (v9))] → f_X12_fits_194 K (fun a0 a1 a => (l_X12_fits_130 K v1 v2 v3 v4 v5 v7 n130) a0 a1 a) v1 v2 v3 v4 v5 v7 v8 v9 s0 M → gWk p l e 4 102 s m ([.ref (ad 0), .int (v1), .int (v2), .int (v3), .int (v4), .int (v5)] : List Value).toArray below meth c H locs (gQi D 17 ad (shR ad cy) K) 17 ad 194 ls [.int (s0)] := by
        intro v8 v9 s0 M H locs ls G hl h
        unfold f_X12_fits_194 at h
        refine lv_istore (lv' := [(10, .int (s0)), (0, .ref (ad 0)), (1, .int (v1)), (2, .int (v2)), (3, .int (v3)), (4, .int (v4)), (5, .int (v5)), (7, .int (v7)), (8, .int (v8)), (9, .int (v9))]) hx hb dX12_fits_194 hl (by decide) rfl (fun ls hl => ?_)
        refine lv_iload hx hb dX12_fits_196 (lv_at hl 6 rfl) ?_
        refine lv_iconst (v := (3)) hx hb dX12_fits_198 (by decide) ?_
        refine lv_icmp_ne (tgt := 207) hx hb dX12_fits_199 (by decide) (fun c4 => ?_) (fun c4 => ?_)
        · have h := h.2 c4
          refine lv_aload_n hx hb dX12_fits_207 rfl (lv_at hl 1 rfl) ?_
          refine gf_Model_told X G qw_5_13 dX12_fits_208 ?_
          refine lv_iconst (v := (1)) hx hb dX12_fits_211 (by decide) ?_
          refine gq_iald X G rr_7 (by unfold vp_in; decide) dX12_fits_212 ?_
          exact hJ213 (v8) (v9) (s0) (M 7 (1 : Int32).toNatClampNeg) M H locs ls G  (lv_sub hl [1, 2, 3, 4, 5, 6, 7, 8, 9, 0] rfl) h
        have h := h.1 c4
        refine lv_iload hx hb dX12_fits_202 (lv_at hl 9 rfl) ?_
        refine lv_goto (tgt := 213) hx hb dX12_fits_204 (by decide) ?_
        exact hJ213 (v8) (v9) (s0) (v9) M H locs ls G  (lv_sub hl [1, 2, 3, 4, 5, 6, 7, 8, 9, 0] rfl) h
      have hJ175 : ∀ (v8 : Int32) (v9 : Int32) (M : Mm) (H : Heap) (locs : List Loc) (ls : Array Slot), gS D s 17 ad (shR ad cy) H locs M → lv_has ls 12 [(0, .ref (ad 0)), (1, .int (v1)), (2, .int (v2)), (3, .int (v3)), (4, .int (v4)), (5, .int (v5)), (7, .int (v7)), (8, .int (v8)), (9, .int (v9))] → f_X12_fits_175 K (fun a0 a1 a => (l_X12_fits_130 K v1 v2 v3 v4 v5 v7 n130) a0 a1 a) v1 v2 v3 v4 v5 v7 v8 v9 M → gWk p l e 4 102 s m ([.ref (ad 0), .int (v1), .int (v2), .int (v3), .int (v4), .int (v5)] : List Value).toArray below meth c H locs (gQi D 17 ad (shR ad cy) K) 17 ad 175 ls [] := by
        intro v8 v9 M H locs ls G hl h
        unfold f_X12_fits_175 at h
        refine lv_iload hx hb dX12_fits_175 (lv_at hl 5 rfl) ?_
        refine lv_if_ne (tgt := 185) hx hb dX12_fits_177 (by decide) (fun c5 => ?_) (fun c5 => ?_)
        · have h := h.2 c5
          refine lv_aload_n hx hb dX12_fits_185 rfl (lv_at hl 0 rfl) ?_
          refine gf_Model_told X G qw_5_13 dX12_fits_186 ?_
          refine lv_bipush (v := (28)) hx hb dX12_fits_189 (by decide) ?_
          refine lv_iload_n hx hb dX12_fits_191 rfl (lv_at hl 1 rfl) ?_
          refine lv_iadd hx hb dX12_fits_192 ?_
          obtain ⟨q6, h⟩ := h
          refine gq_iald X G rr_7 q6 dX12_fits_193 ?_
          exact hJ194 (v8) (v9) (M 7 (28 + v1 : Int32).toNatClampNeg) M H locs ls G  (lv_sub hl [0, 1, 2, 3, 4, 5, 6, 7, 8] rfl) h
        have h := h.1 c5
        refine lv_iload hx hb dX12_fits_180 (lv_at hl 8 rfl) ?_
        refine lv_goto (tgt := 194) hx hb dX12_fits_182 (by decide) ?_
        exact hJ194 (v8) (v9) (v9) M H locs ls G  (lv_sub hl [0, 1, 2, 3, 4, 5, 6, 7, 8] rfl) h
      have hJ158 : ∀ (v8 : Int32) (v9 : Int32) (M : Mm) (H : Heap) (locs : List Loc) (ls : Array Slot), gS D s 17 ad (shR ad cy) H locs M → lv_has ls 12 [(0, .ref (ad 0)), (1, .int (v1)), (2, .int (v2)), (3, .int (v3)), (4, .int (v4)), (5, .int (v5)), (7, .int (v7)), (8, .int (v8)), (9, .int (v9))] → f_X12_fits_158 K (fun a0 a1 a => (l_X12_fits_130 K v1 v2 v3 v4 v5 v7 n130) a0 a1 a) v1 v2 v3 v4 v5 v7 v8 v9 M → gWk p l e 4 102 s m ([.ref (ad 0), .int (v1), .int (v2), .int (v3), .int (v4), .int (v5)] : List Value).toArray below meth c H locs (gQi D 17 ad (shR ad cy) K) 17 ad 158 ls [] := by
        intro v8 v9 M H locs ls G hl h
        unfold f_X12_fits_158 at h
        refine lv_iload hx hb dX12_fits_158 (lv_at hl 5 rfl) ?_
        refine lv_iconst (v := (2)) hx hb dX12_fits_160 (by decide) ?_
        refine lv_icmp_ne (tgt := 175) hx hb dX12_fits_161 (by decide) (fun c7 => ?_) (fun c7 => ?_)
        · have h := h.2 c7
          exact hJ175 (v8) (v9)  M H locs ls G  (lv_sub hl [0, 1, 2, 3, 4, 5, 6, 7, 8] rfl) h
        have h := h.1 c7
        refine lv_aload_n hx hb dX12_fits_164 rfl (lv_at hl 0 rfl) ?_
        refine gf_Model_tried X G qw_5_16 dX12_fits_165 ?_
        refine lv_bipush (v := (12)) hx hb dX12_fits_168 (by decide) ?_
        refine lv_iload_n hx hb dX12_fits_170 rfl (lv_at hl 1 rfl) ?_
        refine lv_iadd hx hb dX12_fits_171 ?_
        refine lv_iload hx hb dX12_fits_172 (lv_at hl 8 rfl) ?_
        obtain ⟨q8, h⟩ := h
        refine gq_iast X G rr_10 q8 dX12_fits_174 (fun M9 H locs e10 G => ?_)
        have h := h M9 e10
        exact hJ175 (v8) (v9)  M9 H locs ls G  (lv_sub hl [0, 1, 2, 3, 4, 5, 6, 7, 8] rfl) h
      intro v8 v9 M H locs ls G hl h
      rw [l_X12_fits_130] at h
      refine lv_iload hx hb dX12_fits_130 (lv_at hl 8 rfl) ?_
      refine lv_iload hx hb dX12_fits_132 (lv_at hl 6 rfl) ?_
      refine lv_icmp_gt (tgt := 254) hx hb dX12_fits_134 (by decide) (fun c11 => ?_) (fun c11 => ?_)
      · have h := h.1 c11
        refine lv_aload_n hx hb dX12_fits_254 rfl (lv_at hl 0 rfl) ?_
        refine lv_iload hx hb dX12_fits_255 (lv_at hl 7 rfl) ?_
        refine gq_calli G (gc_V (C := RX12) (rest := []) X hl.1 G (m_X12_well hI  h) cw_X12_well qw_7_21 qw_7_22 qw_7_23 ob_Model rfl rfl rfl rfl (Nat.le_of_ble_eq_true rfl) ⟨Nat.le_of_ble_eq_true rfl, Nat.le_of_ble_eq_true rfl⟩ ⟨Nat.le_refl _, Nat.le_refl _⟩ dX12_fits_257) (fun r13 M12 H locs G h => ?_)
        exact gq_iret X G h dX12_fits_260
      have h := h.2 c11
      refine lv_aload_n hx hb dX12_fits_137 rfl (lv_at hl 0 rfl) ?_
      refine gq_callv G (gc_V (C := RX12) (rest := []) X hl.1 G (m_X12_take hI  h) cw_X12_take qw_26_20 qw_26_21 qw_26_22 ob_Model rfl rfl rfl rfl (Nat.le_of_ble_eq_true rfl) ⟨Nat.le_of_ble_eq_true rfl, Nat.le_of_ble_eq_true rfl⟩ ⟨Nat.le_refl _, Nat.le_refl _⟩ dX12_fits_138) (fun M14 H locs G h => ?_)
      refine lv_iload hx hb dX12_fits_141 (lv_at hl 5 rfl) ?_
      refine lv_iconst (v := (1)) hx hb dX12_fits_143 (by decide) ?_
      refine lv_icmp_ne (tgt := 158) hx hb dX12_fits_144 (by decide) (fun c15 => ?_) (fun c15 => ?_)
      · have h := h.2 c15
        exact hJ158 (v8) (v9)  M14 H locs ls G  (lv_sub hl [0, 1, 2, 3, 4, 5, 6, 7, 8] rfl) h
      have h := h.1 c15
      refine lv_aload_n hx hb dX12_fits_147 rfl (lv_at hl 0 rfl) ?_
      refine gf_Model_tried X G qw_5_16 dX12_fits_148 ?_
      refine lv_bipush (v := (7)) hx hb dX12_fits_151 (by decide) ?_
      refine lv_iload_n hx hb dX12_fits_153 rfl (lv_at hl 1 rfl) ?_
      refine lv_iadd hx hb dX12_fits_154 ?_
      refine lv_iload hx hb dX12_fits_155 (lv_at hl 8 rfl) ?_
      obtain ⟨q16, h⟩ := h
      refine gq_iast X G rr_10 q16 dX12_fits_157 (fun M17 H locs e18 G => ?_)
      have h := h M17 e18
      exact hJ158 (v8) (v9)  M17 H locs ls G  (lv_sub hl [0, 1, 2, 3, 4, 5, 6, 7, 8] rfl) h
  have hJ121 : ∀ (v6 : Int32) (s0 : Int32) (M : Mm) (H : Heap) (locs : List Loc) (ls : Array Slot), gS D s 17 ad (shR ad cy) H locs M → lv_has ls 12 [(0, .ref (ad 0)), (1, .int (v1)), (2, .int (v2)), (3, .int (v3)), (4, .int (v4)), (5, .int (v5)), (6, .int (v6))] → f_X12_fits_121 K v1 v2 v3 v4 v5 v6 s0 M → gWk p l e 4 102 s m ([.ref (ad 0), .int (v1), .int (v2), .int (v3), .int (v4), .int (v5)] : List Value).toArray below meth c H locs (gQi D 17 ad (shR ad cy) K) 17 ad 121 ls [.int (s0)] := by
    intro v6 s0 M H locs ls G hl h
    unfold f_X12_fits_121 at h
    refine lv_istore (lv' := [(7, .int (s0)), (0, .ref (ad 0)), (1, .int (v1)), (2, .int (v2)), (3, .int (v3)), (4, .int (v4)), (5, .int (v5)), (6, .int (v6))]) hx hb dX12_fits_121 hl (by decide) rfl (fun ls hl => ?_)
    refine lv_iconst (v := (0)) hx hb dX12_fits_123 (by decide) ?_
    refine lv_istore (lv' := [(8, .int (0)), (7, .int (s0)), (0, .ref (ad 0)), (1, .int (v1)), (2, .int (v2)), (3, .int (v3)), (4, .int (v4)), (5, .int (v5)), (6, .int (v6))]) hx hb dX12_fits_124 hl (by decide) rfl (fun ls hl => ?_)
    refine lv_iload hx hb dX12_fits_126 (lv_at hl 8 rfl) ?_
    refine lv_istore (lv' := [(9, .int (v6)), (8, .int (0)), (7, .int (s0)), (0, .ref (ad 0)), (1, .int (v1)), (2, .int (v2)), (3, .int (v3)), (4, .int (v4)), (5, .int (v5)), (6, .int (v6))]) hx hb dX12_fits_128 hl (by decide) rfl (fun ls hl => ?_)
    obtain ⟨n19, h⟩ := h
    exact hL130 (s0)  n19 (0) (v6) M H locs ls G  (lv_sub hl [3, 4, 5, 6, 7, 8, 2, 1, 0] rfl) h
  have hJ83 : ∀ (s0 : Int32) (M : Mm) (H : Heap) (locs : List Loc) (ls : Array Slot), gS D s 17 ad (shR ad cy) H locs M → lv_has ls 12 [(0, .ref (ad 0)), (1, .int (v1)), (2, .int (v2)), (3, .int (v3)), (4, .int (v4)), (5, .int (v5))] → f_X12_fits_83 K v1 v2 v3 v4 v5 s0 M → gWk p l e 4 102 s m ([.ref (ad 0), .int (v1), .int (v2), .int (v3), .int (v4), .int (v5)] : List Value).toArray below meth c H locs (gQi D 17 ad (shR ad cy) K) 17 ad 83 ls [.int (s0)] := by
    intro s0 M H locs ls G hl h
    unfold f_X12_fits_83 at h
    refine lv_istore (lv' := [(6, .int (s0)), (0, .ref (ad 0)), (1, .int (v1)), (2, .int (v2)), (3, .int (v3)), (4, .int (v4)), (5, .int (v5))]) hx hb dX12_fits_83 hl (by decide) rfl (fun ls hl => ?_)
    refine lv_iload hx hb dX12_fits_85 (lv_at hl 6 rfl) ?_
    refine lv_if_ne (tgt := 94) hx hb dX12_fits_87 (by decide) (fun c20 => ?_) (fun c20 => ?_)
    · have h := h.2 c20
      refine lv_iload hx hb dX12_fits_94 (lv_at hl 6 rfl) ?_
      refine lv_iconst (v := (1)) hx hb dX12_fits_96 (by decide) ?_
      refine lv_icmp_ne (tgt := 109) hx hb dX12_fits_97 (by decide) (fun c21 => ?_) (fun c21 => ?_)
      · have h := h.2 c21
        refine lv_iload hx hb dX12_fits_109 (lv_at hl 6 rfl) ?_
        refine lv_iconst (v := (2)) hx hb dX12_fits_111 (by decide) ?_
        refine lv_icmp_ne (tgt := 119) hx hb dX12_fits_112 (by decide) (fun c22 => ?_) (fun c22 => ?_)
        · have h := h.2 c22
          refine lv_bipush (v := (24)) hx hb dX12_fits_119 (by decide) ?_
          exact hJ121 (s0) (24) M H locs ls G  (lv_sub hl [1, 2, 3, 4, 5, 6, 0] rfl) h
        have h := h.1 c22
        refine lv_iconst (v := (1)) hx hb dX12_fits_115 (by decide) ?_
        refine lv_goto (tgt := 121) hx hb dX12_fits_116 (by decide) ?_
        exact hJ121 (s0) (1) M H locs ls G  (lv_sub hl [1, 2, 3, 4, 5, 6, 0] rfl) h
      have h := h.1 c21
      refine lv_aload_n hx hb dX12_fits_100 rfl (lv_at hl 1 rfl) ?_
      refine gf_Model_told X G qw_5_13 dX12_fits_101 ?_
      refine lv_iconst (v := (2)) hx hb dX12_fits_104 (by decide) ?_
      refine gq_iald X G rr_7 (by unfold vp_in; decide) dX12_fits_105 ?_
      refine lv_goto (tgt := 121) hx hb dX12_fits_106 (by decide) ?_
      exact hJ121 (s0) (M 7 (2 : Int32).toNatClampNeg) M H locs ls G  (lv_sub hl [1, 2, 3, 4, 5, 6, 0] rfl) h
    have h := h.1 c20
    refine lv_iconst (v := (5)) hx hb dX12_fits_90 (by decide) ?_
    refine lv_goto (tgt := 121) hx hb dX12_fits_91 (by decide) ?_
    exact hJ121 (s0) (5) M H locs ls G  (lv_sub hl [1, 2, 3, 4, 5, 6, 0] rfl) h
  unfold f_X12_fits at h
  refine lv_aload_n hx hb dX12_fits_0 rfl (lv_at hl 0 rfl) ?_
  refine lv_iload_n hx hb dX12_fits_1 rfl (lv_at hl 1 rfl) ?_
  refine gq_calli G (gc_V (C := RX12) (rest := []) X hl.1 G (m_X12_isOne hI  h) cw_X12_isOne qw_23_3 qw_23_4 qw_23_5 ob_Model rfl rfl rfl rfl (Nat.le_of_ble_eq_true rfl) ⟨Nat.le_of_ble_eq_true rfl, Nat.le_of_ble_eq_true rfl⟩ ⟨Nat.le_refl _, Nat.le_refl _⟩ dX12_fits_2) (fun r24 M23 H locs G h => ?_)
  refine lv_if_eq (tgt := 36) hx hb dX12_fits_5 (by decide) (fun c25 => ?_) (fun c25 => ?_)
  · have h := h.1 c25
    refine gq_ldc (v := (-1000001)) X qw_7_8 dX12_fits_36 ?_
    exact gq_iret X G h dX12_fits_38
  have h := h.2 c25
  refine lv_iload_n hx hb dX12_fits_8 rfl (lv_at hl 2 rfl) ?_
  refine gq_calli G (gc_S (rest := []) X hl.1 G (m_X12_isRow hI  h) cw_X12_isRow qw_7_9 qw_7_10 rfl rfl (Nat.le_of_ble_eq_true rfl) ⟨Nat.le_of_ble_eq_true rfl, Nat.le_of_ble_eq_true rfl⟩ ⟨Nat.le_refl _, Nat.le_refl _⟩ dX12_fits_9) (fun r27 M26 H locs G h => ?_)
  refine lv_if_eq (tgt := 36) hx hb dX12_fits_12 (by decide) (fun c28 => ?_) (fun c28 => ?_)
  · have h := h.1 c28
    refine gq_ldc (v := (-1000001)) X qw_7_8 dX12_fits_36 ?_
    exact gq_iret X G h dX12_fits_38
  have h := h.2 c28
  refine lv_iload hx hb dX12_fits_15 (lv_at hl 4 rfl) ?_
  refine lv_iconst (v := (1)) hx hb dX12_fits_17 (by decide) ?_
  refine lv_bipush (v := (12)) hx hb dX12_fits_18 (by decide) ?_
  refine gq_calli G (gc_S (rest := []) X hl.1 G (m_X12_in hI  h) cw_X12_in qw_7_12 qw_7_13 rfl rfl (Nat.le_of_ble_eq_true rfl) ⟨Nat.le_of_ble_eq_true rfl, Nat.le_of_ble_eq_true rfl⟩ ⟨Nat.le_refl _, Nat.le_refl _⟩ dX12_fits_20) (fun r30 M29 H locs G h => ?_)
  refine lv_if_eq (tgt := 36) hx hb dX12_fits_23 (by decide) (fun c31 => ?_) (fun c31 => ?_)
  · have h := h.1 c31
    refine gq_ldc (v := (-1000001)) X qw_7_8 dX12_fits_36 ?_
    exact gq_iret X G h dX12_fits_38
  have h := h.2 c31
  refine lv_iload hx hb dX12_fits_26 (lv_at hl 5 rfl) ?_
  refine lv_iconst (v := (0)) hx hb dX12_fits_28 (by decide) ?_
  refine lv_iconst (v := (3)) hx hb dX12_fits_29 (by decide) ?_
  refine gq_calli G (gc_S (rest := []) X hl.1 G (m_X12_in hI  h) cw_X12_in qw_7_12 qw_7_13 rfl rfl (Nat.le_of_ble_eq_true rfl) ⟨Nat.le_of_ble_eq_true rfl, Nat.le_of_ble_eq_true rfl⟩ ⟨Nat.le_refl _, Nat.le_refl _⟩ dX12_fits_30) (fun r33 M32 H locs G h => ?_)
  refine lv_if_ne (tgt := 39) hx hb dX12_fits_33 (by decide) (fun c34 => ?_) (fun c34 => ?_)
  · have h := h.2 c34
    refine lv_aload_n hx hb dX12_fits_39 rfl (lv_at hl 0 rfl) ?_
    refine gf_Model_lanes X G qw_5_6 dX12_fits_40 ?_
    refine lv_iload_n hx hb dX12_fits_43 rfl (lv_at hl 2 rfl) ?_
    obtain ⟨q35, h⟩ := h
    refine gq_iald X G rr_1 q35 dX12_fits_44 ?_
    refine gq_ldc (v := (-1000000)) X qw_6_0 dX12_fits_45 ?_
    refine lv_icmp_ne (tgt := 56) hx hb dX12_fits_47 (by decide) (fun c36 => ?_) (fun c36 => ?_)
    · have h := h.2 c36
      refine lv_aload_n hx hb dX12_fits_56 rfl (lv_at hl 0 rfl) ?_
      refine lv_iload_n hx hb dX12_fits_57 rfl (lv_at hl 2 rfl) ?_
      refine lv_iload_n hx hb dX12_fits_58 rfl (lv_at hl 3 rfl) ?_
      refine lv_iload hx hb dX12_fits_59 (lv_at hl 4 rfl) ?_
      refine gq_calli G (gc_V (C := RX12) (rest := []) X hl.1 G (m_X12_isIn hI  h) cw_X12_isIn qw_9_6 qw_9_7 qw_9_8 ob_Model rfl rfl rfl rfl (Nat.le_of_ble_eq_true rfl) ⟨Nat.le_of_ble_eq_true rfl, Nat.le_of_ble_eq_true rfl⟩ ⟨Nat.le_refl _, Nat.le_refl _⟩ dX12_fits_61) (fun r38 M37 H locs G h => ?_)
      refine lv_if_ne (tgt := 73) hx hb dX12_fits_64 (by decide) (fun c39 => ?_) (fun c39 => ?_)
      · have h := h.2 c39
        refine lv_iload hx hb dX12_fits_73 (lv_at hl 5 rfl) ?_
        refine lv_if_ne (tgt := 82) hx hb dX12_fits_75 (by decide) (fun c40 => ?_) (fun c40 => ?_)
        · have h := h.2 c40
          refine lv_iconst (v := (0)) hx hb dX12_fits_82 (by decide) ?_
          exact hJ83  (0) M37 H locs ls G  (lv_sub hl [0, 1, 2, 3, 4, 5] rfl) h
        have h := h.1 c40
        refine lv_iconst (v := (1)) hx hb dX12_fits_78 (by decide) ?_
        refine lv_goto (tgt := 83) hx hb dX12_fits_79 (by decide) ?_
        exact hJ83  (1) M37 H locs ls G  (lv_sub hl [0, 1, 2, 3, 4, 5] rfl) h
      have h := h.1 c39
      refine lv_aload_n hx hb dX12_fits_67 rfl (lv_at hl 0 rfl) ?_
      refine lv_iconst (v := (2)) hx hb dX12_fits_68 (by decide) ?_
      refine gq_calli G (gc_V (C := RX12) (rest := []) X hl.1 G (m_X12_found hI  h) cw_X12_found qw_7_15 qw_7_16 qw_7_17 ob_Model rfl rfl rfl rfl (Nat.le_of_ble_eq_true rfl) ⟨Nat.le_of_ble_eq_true rfl, Nat.le_of_ble_eq_true rfl⟩ ⟨Nat.le_refl _, Nat.le_refl _⟩ dX12_fits_69) (fun r42 M41 H locs G h => ?_)
      exact gq_iret X G h dX12_fits_72
    have h := h.1 c36
    refine lv_aload_n hx hb dX12_fits_50 rfl (lv_at hl 0 rfl) ?_
    refine lv_iconst (v := (1)) hx hb dX12_fits_51 (by decide) ?_
    refine gq_calli G (gc_V (C := RX12) (rest := []) X hl.1 G (m_X12_found hI  h) cw_X12_found qw_7_15 qw_7_16 qw_7_17 ob_Model rfl rfl rfl rfl (Nat.le_of_ble_eq_true rfl) ⟨Nat.le_of_ble_eq_true rfl, Nat.le_of_ble_eq_true rfl⟩ ⟨Nat.le_refl _, Nat.le_refl _⟩ dX12_fits_52) (fun r44 M43 H locs G h => ?_)
    exact gq_iret X G h dX12_fits_55
  have h := h.1 c34
  refine gq_ldc (v := (-1000001)) X qw_7_8 dX12_fits_36 ?_
  exact gq_iret X G h dX12_fits_38
def l_X12_settled_257 (K : Int32 → Mm → Prop) (v5 : Int32) (v6 : Int32) (v7 : Int32) : Nat → Int32 → Int32 → Mm → Prop
  | 0, _, _, _ => False
  | n + 1, v8, v9, M => ((((v9 : Int32) = 0 : Prop) → ((((v5 : Int32) = 0 : Prop) → (¬ v8 = 0 ∧ K (v6 / v8) M)) ∧ (¬ ((v5 : Int32) = 0 : Prop) → (¬ v8 = 0 ∧ K (v7 / v8) M)))) ∧ (¬ ((v9 : Int32) = 0 : Prop) → (¬ v9 = 0 ∧ (l_X12_settled_257 K v5 v6 v7 n) (v9) (v8 - v8 / v9 * v9) M)))
def l_X12_settled_225 (K : Int32 → Mm → Prop) (v5 : Int32) (v6 : Int32) : Nat → Int32 → Int32 → Mm → Prop
  | 0, _, _, _ => False
  | n + 1, v7, v8, M => ((((M 7 (2 : Int32).toNatClampNeg : Int32) ≤ v8 : Prop) → ∃ z, l_X12_settled_257 K (v5) (v6) (v7) z (v6) (v7) M) ∧ (¬ ((M 7 (2 : Int32).toNatClampNeg : Int32) ≤ v8 : Prop) → (l_X12_settled_225 K v5 v6 n) (v7 * 10) (v8 + 1) M))
def l_X12_settled_169 (K : Int32 → Mm → Prop) (k59 : Int32 → Int32 → Mm → Prop) (v1 : Int32) (v2 : Int32) (v3 : Int32) (v4 : Int32) (v5 : Int32) (v6 : Int32) (v7 : Int32) (v8 : Int32) (v9 : Int32) : Nat → Int32 → Mm → Prop
  | 0, _, _ => False
  | n + 1, v10, M => ((((v3 : Int32) ≤ v10 : Prop) → (vp_in (17 + v1) 22 ∧ (f_X12_has (M 10 (17 + v1 : Int32).toNatClampNeg) (v2) M (fun r11 M10 => ((((r11 : Int32) = 0 : Prop) → k59 (v6 + 0) (v8 + 1) M10) ∧ (¬ ((r11 : Int32) = 0 : Prop) → k59 (v6 + v9) (v8 + 1) M10)))))) ∧ (¬ ((v3 : Int32) ≤ v10 : Prop) → (f_X12_pass 10 M (fun M13 => (l_X12_settled_169 K k59 v1 v2 v3 v4 v5 v6 v7 v8 v9 n) (v10 + 1) M13))))
def f_X12_settled_158 (K : Int32 → Mm → Prop) (k59 : Int32 → Int32 → Mm → Prop) (k89 : Int32 → Int32 → Mm → Prop) (v1 : Int32) (v2 : Int32) (v3 : Int32) (v4 : Int32) (v5 : Int32) (v6 : Int32) (v7 : Int32) (v8 : Int32) (v9 : Int32) (v10 : Int32) (s0 : Int32) (s1 : Int32) (s2 : Int32) (s3 : Nat) (M : Mm) : Prop := (vp_in (s2) 22 ∧ (∀ M15 : Mm, M15 = gU M 10 (s2 : Int32).toNatClampNeg (s1 + s0) → k89 (v9) (v10 + (-1)) M15))
def f_X12_settled_157 (K : Int32 → Mm → Prop) (k59 : Int32 → Int32 → Mm → Prop) (k89 : Int32 → Int32 → Mm → Prop) (v1 : Int32) (v2 : Int32) (v3 : Int32) (v4 : Int32) (v5 : Int32) (v6 : Int32) (v7 : Int32) (v8 : Int32) (v9 : Int32) (v10 : Int32) (s0 : Int32) (s1 : Int32) (s2 : Nat) (M : Mm) : Prop := f_X12_settled_158 K k59 k89 (v1) (v2) (v3) (v4) (v5) (v6) (v7) (v8) (v9) (v10) (0) (s0) (s1) (10) M
def f_X12_settled_116 (K : Int32 → Mm → Prop) (k59 : Int32 → Int32 → Mm → Prop) (k89 : Int32 → Int32 → Mm → Prop) (v1 : Int32) (v2 : Int32) (v3 : Int32) (v4 : Int32) (v5 : Int32) (v6 : Int32) (v7 : Int32) (v8 : Int32) (v10 : Int32) (s0 : Int32) (s1 : Int32) (M : Mm) : Prop := (vp_in (1 + v10) 22 ∧ (f_X12_has (v8) (v10) M (fun r19 M18 => ((((r19 : Int32) = 0 : Prop) → f_X12_settled_157 K k59 k89 (v1) (v2) (v3) (v4) (v5) (v6) (v7) (v8) (s1 * s0) (v10) (M 10 (1 + v10 : Int32).toNatClampNeg) (1 + v10) (10) M18) ∧ (¬ ((r19 : Int32) = 0 : Prop) → (f_X12_mayMove 10 (v10) (1) M18 (fun r22 M21 => ((((r22 : Int32) = 0 : Prop) → f_X12_settled_157 K k59 k89 (v1) (v2) (v3) (v4) (v5) (v6) (v7) (v8) (s1 * s0) (v10) (M 10 (1 + v10 : Int32).toNatClampNeg) (1 + v10) (10) M21) ∧ (¬ ((r22 : Int32) = 0 : Prop) → f_X12_settled_158 K k59 k89 (v1) (v2) (v3) (v4) (v5) (v6) (v7) (v8) (s1 * s0) (v10) (1) (M 10 (1 + v10 : Int32).toNatClampNeg) (1 + v10) (10) M21)))))))))
def l_X12_settled_89 (K : Int32 → Mm → Prop) (k59 : Int32 → Int32 → Mm → Prop) (v1 : Int32) (v2 : Int32) (v3 : Int32) (v4 : Int32) (v5 : Int32) (v6 : Int32) (v7 : Int32) (v8 : Int32) : Nat → Int32 → Int32 → Mm → Prop
  | 0, _, _, _ => False
  | n + 1, v9, v10, M => ((((v10 : Int32) < 0 : Prop) → ∃ z, l_X12_settled_169 K k59 (v1) (v2) (v3) (v4) (v5) (v6) (v7) (v8) (v9) z (0) M) ∧ (¬ ((v10 : Int32) < 0 : Prop) → (f_X12_has (v8) (v10) M (fun r27 M26 => ((((r27 : Int32) = 0 : Prop) → f_X12_settled_116 K k59 (fun a0 a1 a => (l_X12_settled_89 K k59 v1 v2 v3 v4 v5 v6 v7 v8 n) a0 a1 a) (v1) (v2) (v3) (v4) (v5) (v6) (v7) (v8) (v10) (10 - v4) (v9) M26) ∧ (¬ ((r27 : Int32) = 0 : Prop) → f_X12_settled_116 K k59 (fun a0 a1 a => (l_X12_settled_89 K k59 v1 v2 v3 v4 v5 v6 v7 v8 n) a0 a1 a) (v1) (v2) (v3) (v4) (v5) (v6) (v7) (v8) (v10) (v4) (v9) M26))))))
def l_X12_settled_59 (K : Int32 → Mm → Prop) (v1 : Int32) (v2 : Int32) (v3 : Int32) (v4 : Int32) (v5 : Int32) (v7 : Int32) : Nat → Int32 → Int32 → Mm → Prop
  | 0, _, _, _ => False
  | n + 1, v6, v8, M => ((((1 <<< ((M 7 (2 : Int32).toNatClampNeg) &&& 31) : Int32) ≤ v8 : Prop) → ∃ z, l_X12_settled_225 K (v5) (v6) z (v7) (0) M) ∧ (¬ ((1 <<< ((M 7 (2 : Int32).toNatClampNeg) &&& 31) : Int32) ≤ v8 : Prop) → (f_X12_take  M (fun M31 => ∃ z, l_X12_settled_89 K (fun a0 a1 a => (l_X12_settled_59 K v1 v2 v3 v4 v5 v7 n) a0 a1 a) (v1) (v2) (v3) (v4) (v5) (v6) (v7) (v8) z (1) ((M31 7 (2 : Int32).toNatClampNeg) - 1) M31))))
def f_X12_settled (v1 : Int32) (v2 : Int32) (v3 : Int32) (v4 : Int32) (v5 : Int32) (M : Mm) (K : Int32 → Mm → Prop) : Prop := (f_X12_isOne (v1) M (fun r34 M33 => ((((r34 : Int32) = 0 : Prop) → K (-1000001) M33) ∧ (¬ ((r34 : Int32) = 0 : Prop) → (f_X12_isCell (v2) M33 (fun r37 M36 => ((((r37 : Int32) = 0 : Prop) → K (-1000001) M36) ∧ (¬ ((r37 : Int32) = 0 : Prop) → (f_X12_in (v3) (0) (20) M36 (fun r40 M39 => ((((r40 : Int32) = 0 : Prop) → K (-1000001) M39) ∧ (¬ ((r40 : Int32) = 0 : Prop) → (f_X12_in (v4) (0) (10) M39 (fun r43 M42 => ((((r43 : Int32) = 0 : Prop) → K (-1000001) M42) ∧ (¬ ((r43 : Int32) = 0 : Prop) → (f_X12_in (v5) (0) (1) M42 (fun r46 M45 => ((((r46 : Int32) = 0 : Prop) → K (-1000001) M45) ∧ (¬ ((r46 : Int32) = 0 : Prop) → ∃ z, l_X12_settled_59 K (v1) (v2) (v3) (v4) (v5) (1) z (0) (0) M45))))))))))))))))))))
set_option maxHeartbeats 4000000 in
set_option maxRecDepth 100000 in
theorem m_X12_settled (hI : gI 17 ad) {v1 : Int32} {v2 : Int32} {v3 : Int32} {v4 : Int32} {v5 : Int32} {M : Mm} {K : Int32 → Mm → Prop} (h : f_X12_settled v1 v2 v3 v4 v5 M K) : gM l D cy 17 ad (shR ad cy) yX12_settled cX12_settled 11 (some .int) 4 96 [.ref (ad 0), .int (v1), .int (v2), .int (v3), .int (v4), .int (v5)] M (gQi D 17 ad (shR ad cy) K) := by
  refine gM.of (own := RX12) (lv := [(0, .ref (ad 0)), (1, .int (v1)), (2, .int (v2)), (3, .int (v3)), (4, .int (v4)), (5, .int (v5))]) (by decide) rfl hI (Nat.le_of_ble_eq_true rfl) rfl ?_
  intro p e s m below meth c ls H locs X G hl
  have hx := X.1
  have hb := X.2.1
  have hL257 : ∀ (v6 : Int32) (v7 : Int32) (n : Nat) (v8 : Int32) (v9 : Int32) (M : Mm) (H : Heap) (locs : List Loc) (ls : Array Slot), gS D s 17 ad (shR ad cy) H locs M → lv_has ls 11 [(5, .int (v5)), (6, .int (v6)), (7, .int (v7)), (8, .int (v8)), (9, .int (v9))] → l_X12_settled_257 K v5 v6 v7 n v8 v9 M → gWk p l e 4 96 s m ([.ref (ad 0), .int (v1), .int (v2), .int (v3), .int (v4), .int (v5)] : List Value).toArray below meth c H locs (gQi D 17 ad (shR ad cy) K) 17 ad 257 ls [] := by
    intro v6 v7 n257
    induction n257 with
    | zero =>
      intro v8 v9 M H locs ls G hl h
      exact False.elim h
    | succ n257 ih257 =>
      intro v8 v9 M H locs ls G hl h
      rw [l_X12_settled_257] at h
      refine lv_iload hx hb dX12_settled_257 (lv_at hl 4 rfl) ?_
      refine lv_if_eq (tgt := 280) hx hb dX12_settled_259 (by decide) (fun c1 => ?_) (fun c1 => ?_)
      · have h := h.1 c1
        refine lv_iload hx hb dX12_settled_280 (lv_at hl 0 rfl) ?_
        refine lv_if_ne (tgt := 293) hx hb dX12_settled_282 (by decide) (fun c2 => ?_) (fun c2 => ?_)
        · have h := h.2 c2
          refine lv_iload hx hb dX12_settled_293 (lv_at hl 2 rfl) ?_
          refine lv_iload hx hb dX12_settled_295 (lv_at hl 3 rfl) ?_
          obtain ⟨q3, h⟩ := h
          refine lv_idiv hx hb dX12_settled_297 q3 ?_
          exact gq_iret X G h dX12_settled_298
        have h := h.1 c2
        refine lv_iload hx hb dX12_settled_285 (lv_at hl 1 rfl) ?_
        refine lv_iload hx hb dX12_settled_287 (lv_at hl 3 rfl) ?_
        obtain ⟨q4, h⟩ := h
        refine lv_idiv hx hb dX12_settled_289 q4 ?_
        refine lv_goto (tgt := 298) hx hb dX12_settled_290 (by decide) ?_
        exact gq_iret X G h dX12_settled_298
      have h := h.2 c1
      refine lv_iload hx hb dX12_settled_262 (lv_at hl 3 rfl) ?_
      refine lv_iload hx hb dX12_settled_264 (lv_at hl 4 rfl) ?_
      obtain ⟨q5, h⟩ := h
      refine lv_irem hx hb dX12_settled_266 q5 ?_
      refine lv_istore (lv' := [(10, .int (v8 - v8 / v9 * v9)), (5, .int (v5)), (6, .int (v6)), (7, .int (v7)), (8, .int (v8)), (9, .int (v9))]) hx hb dX12_settled_267 hl (by decide) rfl (fun ls hl => ?_)
      refine lv_iload hx hb dX12_settled_269 (lv_at hl 5 rfl) ?_
      refine lv_istore (lv' := [(8, .int (v9)), (10, .int (v8 - v8 / v9 * v9)), (5, .int (v5)), (6, .int (v6)), (7, .int (v7)), (9, .int (v9))]) hx hb dX12_settled_271 hl (by decide) rfl (fun ls hl => ?_)
      refine lv_iload hx hb dX12_settled_273 (lv_at hl 1 rfl) ?_
      refine lv_istore (lv' := [(9, .int (v8 - v8 / v9 * v9)), (8, .int (v9)), (10, .int (v8 - v8 / v9 * v9)), (5, .int (v5)), (6, .int (v6)), (7, .int (v7))]) hx hb dX12_settled_275 hl (by decide) rfl (fun ls hl => ?_)
      refine lv_goto (tgt := 257) hx hb dX12_settled_277 (by decide) ?_
      exact ih257 (v9) (v8 - v8 / v9 * v9) M H locs ls G  (lv_sub hl [3, 4, 5, 1, 0] rfl) h
  have hL225 : ∀ (v6 : Int32) (n : Nat) (v7 : Int32) (v8 : Int32) (M : Mm) (H : Heap) (locs : List Loc) (ls : Array Slot), gS D s 17 ad (shR ad cy) H locs M → lv_has ls 11 [(0, .ref (ad 0)), (5, .int (v5)), (6, .int (v6)), (7, .int (v7)), (8, .int (v8))] → l_X12_settled_225 K v5 v6 n v7 v8 M → gWk p l e 4 96 s m ([.ref (ad 0), .int (v1), .int (v2), .int (v3), .int (v4), .int (v5)] : List Value).toArray below meth c H locs (gQi D 17 ad (shR ad cy) K) 17 ad 225 ls [] := by
    intro v6 n225
    induction n225 with
    | zero =>
      intro v7 v8 M H locs ls G hl h
      exact False.elim h
    | succ n225 ih225 =>
      intro v7 v8 M H locs ls G hl h
      rw [l_X12_settled_225] at h
      refine lv_iload hx hb dX12_settled_225 (lv_at hl 4 rfl) ?_
      refine lv_aload_n hx hb dX12_settled_227 rfl (lv_at hl 0 rfl) ?_
      refine gf_Model_told X G qw_5_13 dX12_settled_228 ?_
      refine lv_iconst (v := (2)) hx hb dX12_settled_231 (by decide) ?_
      refine gq_iald X G rr_7 (by unfold vp_in; decide) dX12_settled_232 ?_
      refine lv_icmp_ge (tgt := 249) hx hb dX12_settled_233 (by decide) (fun c6 => ?_) (fun c6 => ?_)
      · have h := h.1 c6
        refine lv_iload hx hb dX12_settled_249 (lv_at hl 2 rfl) ?_
        refine lv_istore (lv' := [(8, .int (v6)), (0, .ref (ad 0)), (5, .int (v5)), (6, .int (v6)), (7, .int (v7))]) hx hb dX12_settled_251 hl (by decide) rfl (fun ls hl => ?_)
        refine lv_iload hx hb dX12_settled_253 (lv_at hl 4 rfl) ?_
        refine lv_istore (lv' := [(9, .int (v7)), (8, .int (v6)), (0, .ref (ad 0)), (5, .int (v5)), (6, .int (v6)), (7, .int (v7))]) hx hb dX12_settled_255 hl (by decide) rfl (fun ls hl => ?_)
        obtain ⟨n7, h⟩ := h
        exact hL257 (v6) (v7)  n7 (v6) (v7) M H locs ls G  (lv_sub hl [3, 4, 5, 1, 0] rfl) h
      have h := h.2 c6
      refine lv_iload hx hb dX12_settled_236 (lv_at hl 3 rfl) ?_
      refine lv_bipush (v := (10)) hx hb dX12_settled_238 (by decide) ?_
      refine lv_imul hx hb dX12_settled_240 ?_
      refine lv_istore (lv' := [(7, .int (v7 * 10)), (0, .ref (ad 0)), (5, .int (v5)), (6, .int (v6)), (8, .int (v8))]) hx hb dX12_settled_241 hl (by decide) rfl (fun ls hl => ?_)
      refine lv_iinc (v := v8 + 1) (lv' := [(8, .int (v8 + 1)), (7, .int (v7 * 10)), (0, .ref (ad 0)), (5, .int (v5)), (6, .int (v6))]) hx hb dX12_settled_243 hl (k := 4) rfl rfl (by decide) rfl (fun ls hl => ?_)
      refine lv_goto (tgt := 225) hx hb dX12_settled_246 (by decide) ?_
      exact ih225 (v7 * 10) (v8 + 1) M H locs ls G  (lv_sub hl [2, 3, 4, 1, 0] rfl) h
  have hL59 : ∀ (v7 : Int32) (n : Nat) (v6 : Int32) (v8 : Int32) (M : Mm) (H : Heap) (locs : List Loc) (ls : Array Slot), gS D s 17 ad (shR ad cy) H locs M → lv_has ls 11 [(0, .ref (ad 0)), (1, .int (v1)), (2, .int (v2)), (3, .int (v3)), (4, .int (v4)), (5, .int (v5)), (6, .int (v6)), (7, .int (v7)), (8, .int (v8))] → l_X12_settled_59 K v1 v2 v3 v4 v5 v7 n v6 v8 M → gWk p l e 4 96 s m ([.ref (ad 0), .int (v1), .int (v2), .int (v3), .int (v4), .int (v5)] : List Value).toArray below meth c H locs (gQi D 17 ad (shR ad cy) K) 17 ad 59 ls [] := by
    intro v7 n59
    induction n59 with
    | zero =>
      intro v6 v8 M H locs ls G hl h
      exact False.elim h
    | succ n59 ih59 =>
      have hL169 : ∀ (v6 : Int32) (v8 : Int32) (v9 : Int32) (n : Nat) (v10 : Int32) (M : Mm) (H : Heap) (locs : List Loc) (ls : Array Slot), gS D s 17 ad (shR ad cy) H locs M → lv_has ls 11 [(0, .ref (ad 0)), (1, .int (v1)), (2, .int (v2)), (3, .int (v3)), (4, .int (v4)), (5, .int (v5)), (6, .int (v6)), (7, .int (v7)), (8, .int (v8)), (9, .int (v9)), (10, .int (v10))] → l_X12_settled_169 K (fun a0 a1 a => (l_X12_settled_59 K v1 v2 v3 v4 v5 v7 n59) a0 a1 a) v1 v2 v3 v4 v5 v6 v7 v8 v9 n v10 M → gWk p l e 4 96 s m ([.ref (ad 0), .int (v1), .int (v2), .int (v3), .int (v4), .int (v5)] : List Value).toArray below meth c H locs (gQi D 17 ad (shR ad cy) K) 17 ad 169 ls [] := by
        intro v6 v8 v9 n169
        induction n169 with
        | zero =>
          intro v10 M H locs ls G hl h
          exact False.elim h
        | succ n169 ih169 =>
          intro v10 M H locs ls G hl h
          rw [l_X12_settled_169] at h
          refine lv_iload hx hb dX12_settled_169 (lv_at hl 10 rfl) ?_
          refine lv_iload_n hx hb dX12_settled_171 rfl (lv_at hl 3 rfl) ?_
          refine lv_icmp_ge (tgt := 189) hx hb dX12_settled_172 (by decide) (fun c8 => ?_) (fun c8 => ?_)
          · have h := h.1 c8
            refine lv_iload hx hb dX12_settled_189 (lv_at hl 6 rfl) ?_
            refine lv_aload_n hx hb dX12_settled_191 rfl (lv_at hl 0 rfl) ?_
            refine gf_Model_tried X G qw_5_16 dX12_settled_192 ?_
            refine lv_bipush (v := (17)) hx hb dX12_settled_195 (by decide) ?_
            refine lv_iload_n hx hb dX12_settled_197 rfl (lv_at hl 1 rfl) ?_
            refine lv_iadd hx hb dX12_settled_198 ?_
            obtain ⟨q9, h⟩ := h
            refine gq_iald X G rr_10 q9 dX12_settled_199 ?_
            refine lv_iload_n hx hb dX12_settled_200 rfl (lv_at hl 2 rfl) ?_
            refine gq_calli G (gc_S (rest := [.int (v6)]) X hl.1 G (m_X12_has hI  h) cw_X12_has qw_22_10 qw_22_11 rfl rfl (Nat.le_of_ble_eq_true rfl) ⟨Nat.le_of_ble_eq_true rfl, Nat.le_of_ble_eq_true rfl⟩ ⟨Nat.le_refl _, Nat.le_refl _⟩ dX12_settled_201) (fun r11 M10 H locs G h => ?_)
            refine lv_if_eq (tgt := 212) hx hb dX12_settled_204 (by decide) (fun c12 => ?_) (fun c12 => ?_)
            · have h := h.1 c12
              refine lv_iconst (v := (0)) hx hb dX12_settled_212 (by decide) ?_
              refine lv_iadd hx hb dX12_settled_213 ?_
              refine lv_istore (lv' := [(6, .int (v6 + 0)), (0, .ref (ad 0)), (1, .int (v1)), (2, .int (v2)), (3, .int (v3)), (4, .int (v4)), (5, .int (v5)), (7, .int (v7)), (8, .int (v8)), (9, .int (v9)), (10, .int (v10))]) hx hb dX12_settled_214 hl (by decide) rfl (fun ls hl => ?_)
              refine lv_iinc (v := v8 + 1) (lv' := [(8, .int (v8 + 1)), (6, .int (v6 + 0)), (0, .ref (ad 0)), (1, .int (v1)), (2, .int (v2)), (3, .int (v3)), (4, .int (v4)), (5, .int (v5)), (7, .int (v7)), (9, .int (v9)), (10, .int (v10))]) hx hb dX12_settled_216 hl (k := 8) rfl rfl (by decide) rfl (fun ls hl => ?_)
              refine lv_goto (tgt := 59) hx hb dX12_settled_219 (by decide) ?_
              exact ih59 (v6 + 0) (v8 + 1) M10 H locs ls G  (lv_sub hl [2, 3, 4, 5, 6, 7, 1, 8, 0] rfl) h
            have h := h.2 c12
            refine lv_iload hx hb dX12_settled_207 (lv_at hl 9 rfl) ?_
            refine lv_goto (tgt := 213) hx hb dX12_settled_209 (by decide) ?_
            refine lv_iadd hx hb dX12_settled_213 ?_
            refine lv_istore (lv' := [(6, .int (v6 + v9)), (0, .ref (ad 0)), (1, .int (v1)), (2, .int (v2)), (3, .int (v3)), (4, .int (v4)), (5, .int (v5)), (7, .int (v7)), (8, .int (v8)), (9, .int (v9)), (10, .int (v10))]) hx hb dX12_settled_214 hl (by decide) rfl (fun ls hl => ?_)
            refine lv_iinc (v := v8 + 1) (lv' := [(8, .int (v8 + 1)), (6, .int (v6 + v9)), (0, .ref (ad 0)), (1, .int (v1)), (2, .int (v2)), (3, .int (v3)), (4, .int (v4)), (5, .int (v5)), (7, .int (v7)), (9, .int (v9)), (10, .int (v10))]) hx hb dX12_settled_216 hl (k := 8) rfl rfl (by decide) rfl (fun ls hl => ?_)
            refine lv_goto (tgt := 59) hx hb dX12_settled_219 (by decide) ?_
            exact ih59 (v6 + v9) (v8 + 1) M10 H locs ls G  (lv_sub hl [2, 3, 4, 5, 6, 7, 1, 8, 0] rfl) h
          have h := h.2 c8
          refine lv_aload_n hx hb dX12_settled_175 rfl (lv_at hl 0 rfl) ?_
          refine lv_aload_n hx hb dX12_settled_176 rfl (lv_at hl 0 rfl) ?_
          refine gf_Model_tried X G qw_5_16 dX12_settled_177 ?_
          refine gq_callv G (gc_V (C := RX12) (rest := []) X hl.1 G (m_X12_pass hI isC_10 h) cw_X12_pass qw_19_19 qw_19_20 qw_19_21 ob_Model rfl rfl rfl rfl (Nat.le_of_ble_eq_true rfl) ⟨Nat.le_of_ble_eq_true rfl, Nat.le_of_ble_eq_true rfl⟩ ⟨Nat.le_refl _, Nat.le_refl _⟩ dX12_settled_180) (fun M13 H locs G h => ?_)
          refine lv_iinc (v := v10 + 1) (lv' := [(10, .int (v10 + 1)), (0, .ref (ad 0)), (1, .int (v1)), (2, .int (v2)), (3, .int (v3)), (4, .int (v4)), (5, .int (v5)), (6, .int (v6)), (7, .int (v7)), (8, .int (v8)), (9, .int (v9))]) hx hb dX12_settled_183 hl (k := 10) rfl rfl (by decide) rfl (fun ls hl => ?_)
          refine lv_goto (tgt := 169) hx hb dX12_settled_186 (by decide) ?_
          exact ih169 (v10 + 1) M13 H locs ls G  (lv_sub hl [1, 2, 3, 4, 5, 6, 7, 8, 9, 10, 0] rfl) h
      have hL89 : ∀ (v6 : Int32) (v8 : Int32) (n : Nat) (v9 : Int32) (v10 : Int32) (M : Mm) (H : Heap) (locs : List Loc) (ls : Array Slot), gS D s 17 ad (shR ad cy) H locs M → lv_has ls 11 [(0, .ref (ad 0)), (1, .int (v1)), (2, .int (v2)), (3, .int (v3)), (4, .int (v4)), (5, .int (v5)), (6, .int (v6)), (7, .int (v7)), (8, .int (v8)), (9, .int (v9)), (10, .int (v10))] → l_X12_settled_89 K (fun a0 a1 a => (l_X12_settled_59 K v1 v2 v3 v4 v5 v7 n59) a0 a1 a) v1 v2 v3 v4 v5 v6 v7 v8 n v9 v10 M → gWk p l e 4 96 s m ([.ref (ad 0), .int (v1), .int (v2), .int (v3), .int (v4), .int (v5)] : List Value).toArray below meth c H locs (gQi D 17 ad (shR ad cy) K) 17 ad 89 ls [] := by
        intro v6 v8 n89
        induction n89 with
        | zero =>
          intro v9 v10 M H locs ls G hl h
          exact False.elim h
        | succ n89 ih89 =>
          have hJ158 : ∀ (v9 : Int32) (v10 : Int32) (s0 : Int32) (s1 : Int32) (s2 : Int32) (s3 : Nat) (M : Mm) (H : Heap) (locs : List Loc) (ls : Array Slot), gS D s 17 ad (shR ad cy) H locs M → lv_has ls 11 [(0, .ref (ad 0)), (1, .int (v1)), (2, .int (v2)), (3, .int (v3)), (4, .int (v4)), (5, .int (v5)), (6, .int (v6)), (7, .int (v7)), (8, .int (v8)), (9, .int (v9)), (10, .int (v10))] → f_X12_settled_158 K (fun a0 a1 a => (l_X12_settled_59 K v1 v2 v3 v4 v5 v7 n59) a0 a1 a) (fun a0 a1 a => (l_X12_settled_89 K (fun a0 a1 a => (l_X12_settled_59 K v1 v2 v3 v4 v5 v7 n59) a0 a1 a) v1 v2 v3 v4 v5 v6 v7 v8 n89) a0 a1 a) v1 v2 v3 v4 v5 v6 v7 v8 v9 v10 s0 s1 s2 s3 M → gWk p l e 4 96 s m ([.ref (ad 0), .int (v1), .int (v2), .int (v3), .int (v4), .int (v5)] : List Value).toArray below meth c H locs (gQi D 17 ad (shR ad cy) K) 17 ad 158 ls [.int (s0), .int (s1), .int (s2), .ref (ad 10)] := by
            intro v9 v10 s0 s1 s2 s3 M H locs ls G hl h
            unfold f_X12_settled_158 at h
            refine lv_iadd hx hb dX12_settled_158 ?_
            obtain ⟨q14, h⟩ := h
            refine gq_iast X G rr_10 q14 dX12_settled_159 (fun M15 H locs e16 G => ?_)
            have h := h M15 e16
            refine lv_iinc (v := v10 + (-1)) (lv' := [(10, .int (v10 + (-1))), (0, .ref (ad 0)), (1, .int (v1)), (2, .int (v2)), (3, .int (v3)), (4, .int (v4)), (5, .int (v5)), (6, .int (v6)), (7, .int (v7)), (8, .int (v8)), (9, .int (v9))]) hx hb dX12_settled_160 hl (k := 10) rfl rfl (by decide) rfl (fun ls hl => ?_)
            refine lv_goto (tgt := 89) hx hb dX12_settled_163 (by decide) ?_
            exact ih89 (v9) (v10 + (-1)) M15 H locs ls G  (lv_sub hl [1, 2, 3, 4, 5, 6, 7, 8, 9, 10, 0] rfl) h
          have hJ157 : ∀ (v9 : Int32) (v10 : Int32) (s0 : Int32) (s1 : Int32) (s2 : Nat) (M : Mm) (H : Heap) (locs : List Loc) (ls : Array Slot), gS D s 17 ad (shR ad cy) H locs M → lv_has ls 11 [(0, .ref (ad 0)), (1, .int (v1)), (2, .int (v2)), (3, .int (v3)), (4, .int (v4)), (5, .int (v5)), (6, .int (v6)), (7, .int (v7)), (8, .int (v8)), (9, .int (v9)), (10, .int (v10))] → f_X12_settled_157 K (fun a0 a1 a => (l_X12_settled_59 K v1 v2 v3 v4 v5 v7 n59) a0 a1 a) (fun a0 a1 a => (l_X12_settled_89 K (fun a0 a1 a => (l_X12_settled_59 K v1 v2 v3 v4 v5 v7 n59) a0 a1 a) v1 v2 v3 v4 v5 v6 v7 v8 n89) a0 a1 a) v1 v2 v3 v4 v5 v6 v7 v8 v9 v10 s0 s1 s2 M → gWk p l e 4 96 s m ([.ref (ad 0), .int (v1), .int (v2), .int (v3), .int (v4), .int (v5)] : List Value).toArray below meth c H locs (gQi D 17 ad (shR ad cy) K) 17 ad 157 ls [.int (s0), .int (s1), .ref (ad 10)] := by
            intro v9 v10 s0 s1 s2 M H locs ls G hl h
            unfold f_X12_settled_157 at h
            refine lv_iconst (v := (0)) hx hb dX12_settled_157 (by decide) ?_
            exact hJ158 (v9) (v10) (0) (s0) (s1) (10) M H locs ls G  (lv_sub hl [0, 1, 2, 3, 4, 5, 6, 7, 8, 9, 10] rfl) h
          have hJ116 : ∀ (v10 : Int32) (s0 : Int32) (s1 : Int32) (M : Mm) (H : Heap) (locs : List Loc) (ls : Array Slot), gS D s 17 ad (shR ad cy) H locs M → lv_has ls 11 [(0, .ref (ad 0)), (1, .int (v1)), (2, .int (v2)), (3, .int (v3)), (4, .int (v4)), (5, .int (v5)), (6, .int (v6)), (7, .int (v7)), (8, .int (v8)), (10, .int (v10))] → f_X12_settled_116 K (fun a0 a1 a => (l_X12_settled_59 K v1 v2 v3 v4 v5 v7 n59) a0 a1 a) (fun a0 a1 a => (l_X12_settled_89 K (fun a0 a1 a => (l_X12_settled_59 K v1 v2 v3 v4 v5 v7 n59) a0 a1 a) v1 v2 v3 v4 v5 v6 v7 v8 n89) a0 a1 a) v1 v2 v3 v4 v5 v6 v7 v8 v10 s0 s1 M → gWk p l e 4 96 s m ([.ref (ad 0), .int (v1), .int (v2), .int (v3), .int (v4), .int (v5)] : List Value).toArray below meth c H locs (gQi D 17 ad (shR ad cy) K) 17 ad 116 ls [.int (s0), .int (s1)] := by
            intro v10 s0 s1 M H locs ls G hl h
            unfold f_X12_settled_116 at h
            refine lv_imul hx hb dX12_settled_116 ?_
            refine lv_istore (lv' := [(9, .int (s1 * s0)), (0, .ref (ad 0)), (1, .int (v1)), (2, .int (v2)), (3, .int (v3)), (4, .int (v4)), (5, .int (v5)), (6, .int (v6)), (7, .int (v7)), (8, .int (v8)), (10, .int (v10))]) hx hb dX12_settled_117 hl (by decide) rfl (fun ls hl => ?_)
            refine lv_aload_n hx hb dX12_settled_119 rfl (lv_at hl 1 rfl) ?_
            refine gf_Model_tried X G qw_5_16 dX12_settled_120 ?_
            refine lv_iconst (v := (1)) hx hb dX12_settled_123 (by decide) ?_
            refine lv_iload hx hb dX12_settled_124 (lv_at hl 10 rfl) ?_
            refine lv_iadd hx hb dX12_settled_126 ?_
            refine lv_dup2_11 hx hb dX12_settled_127 rfl rfl ?_
            obtain ⟨q17, h⟩ := h
            refine gq_iald X G rr_10 q17 dX12_settled_128 ?_
            refine lv_iload hx hb dX12_settled_129 (lv_at hl 9 rfl) ?_
            refine lv_iload hx hb dX12_settled_131 (lv_at hl 10 rfl) ?_
            refine gq_calli G (gc_S (rest := [.int (M 10 (1 + v10 : Int32).toNatClampNeg), .int (1 + v10), .ref (ad 10)]) X hl.1 G (m_X12_has hI  h) cw_X12_has qw_22_10 qw_22_11 rfl rfl (Nat.le_of_ble_eq_true rfl) ⟨Nat.le_of_ble_eq_true rfl, Nat.le_of_ble_eq_true rfl⟩ ⟨Nat.le_refl _, Nat.le_refl _⟩ dX12_settled_133) (fun r19 M18 H locs G h => ?_)
            refine lv_if_eq (tgt := 157) hx hb dX12_settled_136 (by decide) (fun c20 => ?_) (fun c20 => ?_)
            · have h := h.1 c20
              exact hJ157 (s1 * s0) (v10) (M 10 (1 + v10 : Int32).toNatClampNeg) (1 + v10) (10) M18 H locs ls G  (lv_sub hl [1, 2, 3, 4, 5, 6, 7, 8, 9, 0, 10] rfl) h
            have h := h.2 c20
            refine lv_aload_n hx hb dX12_settled_139 rfl (lv_at hl 1 rfl) ?_
            refine lv_aload_n hx hb dX12_settled_140 rfl (lv_at hl 1 rfl) ?_
            refine gf_Model_tried X G qw_5_16 dX12_settled_141 ?_
            refine lv_iload hx hb dX12_settled_144 (lv_at hl 10 rfl) ?_
            refine lv_iconst (v := (1)) hx hb dX12_settled_146 (by decide) ?_
            refine gq_calli G (gc_V (C := RX12) (rest := [.int (M 10 (1 + v10 : Int32).toNatClampNeg), .int (1 + v10), .ref (ad 10)]) X hl.1 G (m_X12_mayMove hI isC_10 h) cw_X12_mayMove qw_21_12 qw_21_13 qw_21_14 ob_Model rfl rfl rfl rfl (Nat.le_of_ble_eq_true rfl) ⟨Nat.le_of_ble_eq_true rfl, Nat.le_of_ble_eq_true rfl⟩ ⟨Nat.le_refl _, Nat.le_refl _⟩ dX12_settled_147) (fun r22 M21 H locs G h => ?_)
            refine lv_if_eq (tgt := 157) hx hb dX12_settled_150 (by decide) (fun c23 => ?_) (fun c23 => ?_)
            · have h := h.1 c23
              exact hJ157 (s1 * s0) (v10) (M 10 (1 + v10 : Int32).toNatClampNeg) (1 + v10) (10) M21 H locs ls G  (lv_sub hl [1, 2, 3, 4, 5, 6, 7, 8, 9, 0, 10] rfl) h
            have h := h.2 c23
            refine lv_iconst (v := (1)) hx hb dX12_settled_153 (by decide) ?_
            refine lv_goto (tgt := 158) hx hb dX12_settled_154 (by decide) ?_
            exact hJ158 (s1 * s0) (v10) (1) (M 10 (1 + v10 : Int32).toNatClampNeg) (1 + v10) (10) M21 H locs ls G  (lv_sub hl [1, 2, 3, 4, 5, 6, 7, 8, 9, 0, 10] rfl) h
          intro v9 v10 M H locs ls G hl h
          rw [l_X12_settled_89] at h
          refine lv_iload hx hb dX12_settled_89 (lv_at hl 10 rfl) ?_
          refine lv_if_lt (tgt := 166) hx hb dX12_settled_91 (by decide) (fun c24 => ?_) (fun c24 => ?_)
          · have h := h.1 c24
            refine lv_iconst (v := (0)) hx hb dX12_settled_166 (by decide) ?_
            refine lv_istore (lv' := [(10, .int (0)), (0, .ref (ad 0)), (1, .int (v1)), (2, .int (v2)), (3, .int (v3)), (4, .int (v4)), (5, .int (v5)), (6, .int (v6)), (7, .int (v7)), (8, .int (v8)), (9, .int (v9))]) hx hb dX12_settled_167 hl (by decide) rfl (fun ls hl => ?_)
            obtain ⟨n25, h⟩ := h
            exact hL169 (v6) (v8) (v9)  n25 (0) M H locs ls G  (lv_sub hl [1, 2, 3, 4, 5, 6, 7, 8, 9, 10, 0] rfl) h
          have h := h.2 c24
          refine lv_iload hx hb dX12_settled_94 (lv_at hl 9 rfl) ?_
          refine lv_iload hx hb dX12_settled_96 (lv_at hl 8 rfl) ?_
          refine lv_iload hx hb dX12_settled_98 (lv_at hl 10 rfl) ?_
          refine gq_calli G (gc_S (rest := [.int (v9)]) X hl.1 G (m_X12_has hI  h) cw_X12_has qw_22_10 qw_22_11 rfl rfl (Nat.le_of_ble_eq_true rfl) ⟨Nat.le_of_ble_eq_true rfl, Nat.le_of_ble_eq_true rfl⟩ ⟨Nat.le_refl _, Nat.le_refl _⟩ dX12_settled_100) (fun r27 M26 H locs G h => ?_)
          refine lv_if_eq (tgt := 111) hx hb dX12_settled_103 (by decide) (fun c28 => ?_) (fun c28 => ?_)
          · have h := h.1 c28
            refine lv_bipush (v := (10)) hx hb dX12_settled_111 (by decide) ?_
            refine lv_iload hx hb dX12_settled_113 (lv_at hl 4 rfl) ?_
            refine lv_isub hx hb dX12_settled_115 ?_
            exact hJ116 (v10) (10 - v4) (v9) M26 H locs ls G  (lv_sub hl [0, 1, 2, 3, 4, 5, 6, 7, 8, 10] rfl) h
          have h := h.2 c28
          refine lv_iload hx hb dX12_settled_106 (lv_at hl 4 rfl) ?_
          refine lv_goto (tgt := 116) hx hb dX12_settled_108 (by decide) ?_
          exact hJ116 (v10) (v4) (v9) M26 H locs ls G  (lv_sub hl [0, 1, 2, 3, 4, 5, 6, 7, 8, 10] rfl) h
      intro v6 v8 M H locs ls G hl h
      rw [l_X12_settled_59] at h
      refine lv_iload hx hb dX12_settled_59 (lv_at hl 8 rfl) ?_
      refine lv_iconst (v := (1)) hx hb dX12_settled_61 (by decide) ?_
      refine lv_aload_n hx hb dX12_settled_62 rfl (lv_at hl 0 rfl) ?_
      refine gf_Model_told X G qw_5_13 dX12_settled_63 ?_
      refine lv_iconst (v := (2)) hx hb dX12_settled_66 (by decide) ?_
      refine gq_iald X G rr_7 (by unfold vp_in; decide) dX12_settled_67 ?_
      refine lv_ishl hx hb dX12_settled_68 ?_
      refine lv_icmp_ge (tgt := 222) hx hb dX12_settled_69 (by decide) (fun c29 => ?_) (fun c29 => ?_)
      · have h := h.1 c29
        refine lv_iconst (v := (0)) hx hb dX12_settled_222 (by decide) ?_
        refine lv_istore (lv' := [(8, .int (0)), (0, .ref (ad 0)), (1, .int (v1)), (2, .int (v2)), (3, .int (v3)), (4, .int (v4)), (5, .int (v5)), (6, .int (v6)), (7, .int (v7))]) hx hb dX12_settled_223 hl (by decide) rfl (fun ls hl => ?_)
        obtain ⟨n30, h⟩ := h
        exact hL225 (v6)  n30 (v7) (0) M H locs ls G  (lv_sub hl [1, 6, 7, 8, 0] rfl) h
      have h := h.2 c29
      refine lv_iconst (v := (1)) hx hb dX12_settled_72 (by decide) ?_
      refine lv_istore (lv' := [(9, .int (1)), (0, .ref (ad 0)), (1, .int (v1)), (2, .int (v2)), (3, .int (v3)), (4, .int (v4)), (5, .int (v5)), (6, .int (v6)), (7, .int (v7)), (8, .int (v8))]) hx hb dX12_settled_73 hl (by decide) rfl (fun ls hl => ?_)
      refine lv_aload_n hx hb dX12_settled_75 rfl (lv_at hl 1 rfl) ?_
      refine gq_callv G (gc_V (C := RX12) (rest := []) X hl.1 G (m_X12_take hI  h) cw_X12_take qw_26_20 qw_26_21 qw_26_22 ob_Model rfl rfl rfl rfl (Nat.le_of_ble_eq_true rfl) ⟨Nat.le_of_ble_eq_true rfl, Nat.le_of_ble_eq_true rfl⟩ ⟨Nat.le_refl _, Nat.le_refl _⟩ dX12_settled_76) (fun M31 H locs G h => ?_)
      refine lv_aload_n hx hb dX12_settled_79 rfl (lv_at hl 1 rfl) ?_
      refine gf_Model_told X G qw_5_13 dX12_settled_80 ?_
      refine lv_iconst (v := (2)) hx hb dX12_settled_83 (by decide) ?_
      refine gq_iald X G rr_7 (by unfold vp_in; decide) dX12_settled_84 ?_
      refine lv_iconst (v := (1)) hx hb dX12_settled_85 (by decide) ?_
      refine lv_isub hx hb dX12_settled_86 ?_
      refine lv_istore (lv' := [(10, .int ((M31 7 (2 : Int32).toNatClampNeg) - 1)), (9, .int (1)), (0, .ref (ad 0)), (1, .int (v1)), (2, .int (v2)), (3, .int (v3)), (4, .int (v4)), (5, .int (v5)), (6, .int (v6)), (7, .int (v7)), (8, .int (v8))]) hx hb dX12_settled_87 hl (by decide) rfl (fun ls hl => ?_)
      obtain ⟨n32, h⟩ := h
      exact hL89 (v6) (v8)  n32 (1) ((M31 7 (2 : Int32).toNatClampNeg) - 1) M31 H locs ls G  (lv_sub hl [2, 3, 4, 5, 6, 7, 8, 9, 10, 1, 0] rfl) h
  unfold f_X12_settled at h
  refine lv_aload_n hx hb dX12_settled_0 rfl (lv_at hl 0 rfl) ?_
  refine lv_iload_n hx hb dX12_settled_1 rfl (lv_at hl 1 rfl) ?_
  refine gq_calli G (gc_V (C := RX12) (rest := []) X hl.1 G (m_X12_isOne hI  h) cw_X12_isOne qw_23_3 qw_23_4 qw_23_5 ob_Model rfl rfl rfl rfl (Nat.le_of_ble_eq_true rfl) ⟨Nat.le_of_ble_eq_true rfl, Nat.le_of_ble_eq_true rfl⟩ ⟨Nat.le_refl _, Nat.le_refl _⟩ dX12_settled_2) (fun r34 M33 H locs G h => ?_)
  refine lv_if_eq (tgt := 47) hx hb dX12_settled_5 (by decide) (fun c35 => ?_) (fun c35 => ?_)
  · have h := h.1 c35
    refine gq_ldc (v := (-1000001)) X qw_7_8 dX12_settled_47 ?_
    exact gq_iret X G h dX12_settled_49
  have h := h.2 c35
  refine lv_aload_n hx hb dX12_settled_8 rfl (lv_at hl 0 rfl) ?_
  refine lv_iload_n hx hb dX12_settled_9 rfl (lv_at hl 2 rfl) ?_
  refine gq_calli G (gc_V (C := RX12) (rest := []) X hl.1 G (m_X12_isCell hI  h) cw_X12_isCell qw_22_6 qw_22_7 qw_22_8 ob_Model rfl rfl rfl rfl (Nat.le_of_ble_eq_true rfl) ⟨Nat.le_of_ble_eq_true rfl, Nat.le_of_ble_eq_true rfl⟩ ⟨Nat.le_refl _, Nat.le_refl _⟩ dX12_settled_10) (fun r37 M36 H locs G h => ?_)
  refine lv_if_eq (tgt := 47) hx hb dX12_settled_13 (by decide) (fun c38 => ?_) (fun c38 => ?_)
  · have h := h.1 c38
    refine gq_ldc (v := (-1000001)) X qw_7_8 dX12_settled_47 ?_
    exact gq_iret X G h dX12_settled_49
  have h := h.2 c38
  refine lv_iload_n hx hb dX12_settled_16 rfl (lv_at hl 3 rfl) ?_
  refine lv_iconst (v := (0)) hx hb dX12_settled_17 (by decide) ?_
  refine lv_bipush (v := (20)) hx hb dX12_settled_18 (by decide) ?_
  refine gq_calli G (gc_S (rest := []) X hl.1 G (m_X12_in hI  h) cw_X12_in qw_7_12 qw_7_13 rfl rfl (Nat.le_of_ble_eq_true rfl) ⟨Nat.le_of_ble_eq_true rfl, Nat.le_of_ble_eq_true rfl⟩ ⟨Nat.le_refl _, Nat.le_refl _⟩ dX12_settled_20) (fun r40 M39 H locs G h => ?_)
  refine lv_if_eq (tgt := 47) hx hb dX12_settled_23 (by decide) (fun c41 => ?_) (fun c41 => ?_)
  · have h := h.1 c41
    refine gq_ldc (v := (-1000001)) X qw_7_8 dX12_settled_47 ?_
    exact gq_iret X G h dX12_settled_49
  have h := h.2 c41
  refine lv_iload hx hb dX12_settled_26 (lv_at hl 4 rfl) ?_
  refine lv_iconst (v := (0)) hx hb dX12_settled_28 (by decide) ?_
  refine lv_bipush (v := (10)) hx hb dX12_settled_29 (by decide) ?_
  refine gq_calli G (gc_S (rest := []) X hl.1 G (m_X12_in hI  h) cw_X12_in qw_7_12 qw_7_13 rfl rfl (Nat.le_of_ble_eq_true rfl) ⟨Nat.le_of_ble_eq_true rfl, Nat.le_of_ble_eq_true rfl⟩ ⟨Nat.le_refl _, Nat.le_refl _⟩ dX12_settled_31) (fun r43 M42 H locs G h => ?_)
  refine lv_if_eq (tgt := 47) hx hb dX12_settled_34 (by decide) (fun c44 => ?_) (fun c44 => ?_)
  · have h := h.1 c44
    refine gq_ldc (v := (-1000001)) X qw_7_8 dX12_settled_47 ?_
    exact gq_iret X G h dX12_settled_49
  have h := h.2 c44
  refine lv_iload hx hb dX12_settled_37 (lv_at hl 5 rfl) ?_
  refine lv_iconst (v := (0)) hx hb dX12_settled_39 (by decide) ?_
  refine lv_iconst (v := (1)) hx hb dX12_settled_40 (by decide) ?_
  refine gq_calli G (gc_S (rest := []) X hl.1 G (m_X12_in hI  h) cw_X12_in qw_7_12 qw_7_13 rfl rfl (Nat.le_of_ble_eq_true rfl) ⟨Nat.le_of_ble_eq_true rfl, Nat.le_of_ble_eq_true rfl⟩ ⟨Nat.le_refl _, Nat.le_refl _⟩ dX12_settled_41) (fun r46 M45 H locs G h => ?_)
  refine lv_if_ne (tgt := 50) hx hb dX12_settled_44 (by decide) (fun c47 => ?_) (fun c47 => ?_)
  · have h := h.2 c47
    refine lv_iconst (v := (0)) hx hb dX12_settled_50 (by decide) ?_
    refine lv_istore (lv' := [(6, .int (0)), (0, .ref (ad 0)), (1, .int (v1)), (2, .int (v2)), (3, .int (v3)), (4, .int (v4)), (5, .int (v5))]) hx hb dX12_settled_51 hl (by decide) rfl (fun ls hl => ?_)
    refine lv_iconst (v := (1)) hx hb dX12_settled_53 (by decide) ?_
    refine lv_istore (lv' := [(7, .int (1)), (6, .int (0)), (0, .ref (ad 0)), (1, .int (v1)), (2, .int (v2)), (3, .int (v3)), (4, .int (v4)), (5, .int (v5))]) hx hb dX12_settled_54 hl (by decide) rfl (fun ls hl => ?_)
    refine lv_iconst (v := (0)) hx hb dX12_settled_56 (by decide) ?_
    refine lv_istore (lv' := [(8, .int (0)), (7, .int (1)), (6, .int (0)), (0, .ref (ad 0)), (1, .int (v1)), (2, .int (v2)), (3, .int (v3)), (4, .int (v4)), (5, .int (v5))]) hx hb dX12_settled_57 hl (by decide) rfl (fun ls hl => ?_)
    obtain ⟨n48, h⟩ := h
    exact hL59 (1)  n48 (0) (0) M45 H locs ls G  (lv_sub hl [3, 4, 5, 6, 7, 8, 2, 1, 0] rfl) h
  have h := h.1 c47
  refine gq_ldc (v := (-1000001)) X qw_7_8 dX12_settled_47 ?_
  exact gq_iret X G h dX12_settled_49
def f_X12_drawn_218 (K : Int32 → Mm → Prop) (s0 : Int32) (M : Mm) : Prop := (f_X12_bitsOf (s0) M (fun r2 M1 => K (r2) M1))
def l_X12_drawn_170 (K : Int32 → Mm → Prop) (v3 : Int32) : Nat → Int32 → Int32 → Mm → Prop
  | 0, _, _, _ => False
  | n + 1, v5, v6, M => ((((M 7 (3 : Int32).toNatClampNeg : Int32) ≤ v6 : Prop) → ((((v3 : Int32) = 0 : Prop) → f_X12_drawn_218 K (v5) M) ∧ (¬ ((v3 : Int32) = 0 : Prop) → f_X12_drawn_218 K (M 10 (6 : Int32).toNatClampNeg) M))) ∧ (¬ ((M 7 (3 : Int32).toNatClampNeg : Int32) ≤ v6 : Prop) → (vp_in (17 + v6) 22 ∧ (l_X12_drawn_170 K v3 n) (v5 ||| (M 10 (17 + v6 : Int32).toNatClampNeg)) (v6 + 1) M)))
def f_X12_drawn_150 (K : Int32 → Mm → Prop) (k52 : Int32 → Int32 → Mm → Prop) (v1 : Int32) (v3 : Int32) (v4 : Int32) (v5 : Int32) (M : Mm) : Prop := (f_X12_pass 10 M (fun M6 => k52 (v4) (v5 + 1) M6))
def l_X12_drawn_52 (K : Int32 → Mm → Prop) (v1 : Int32) (v3 : Int32) : Nat → Int32 → Int32 → Mm → Prop
  | 0, _, _, _ => False
  | n + 1, v4, v5, M => ((((v1 : Int32) ≤ v5 : Prop) → ∃ z, l_X12_drawn_170 K (v3) z (0) (0) M) ∧ (¬ ((v1 : Int32) ≤ v5 : Prop) → (¬ (M 7 (0 : Int32).toNatClampNeg) = 0 ∧ (∀ M10 : Mm, M10 = gU M 10 (6 : Int32).toNatClampNeg ((M 10 (6 : Int32).toNatClampNeg) ^^^ (1 <<< (((((((v4 : Int32).toInt64) * 16807) - (((v4 : Int32).toInt64) * 16807) / 2147483647 * 2147483647).toInt32) - (((((v4 : Int32).toInt64) * 16807) - (((v4 : Int32).toInt64) * 16807) / 2147483647 * 2147483647).toInt32) / (M 7 (0 : Int32).toNatClampNeg) * (M 7 (0 : Int32).toNatClampNeg)) &&& 31))) → ((((M10 7 (2 : Int32).toNatClampNeg : Int32) ≤ 0 : Prop) → f_X12_drawn_150 K (fun a0 a1 a => (l_X12_drawn_52 K v1 v3 n) a0 a1 a) (v1) (v3) (((((v4 : Int32).toInt64) * 16807) - (((v4 : Int32).toInt64) * 16807) / 2147483647 * 2147483647).toInt32) (v5) M10) ∧ (¬ ((M10 7 (2 : Int32).toNatClampNeg : Int32) ≤ 0 : Prop) → (((((((((v4 : Int32).toInt64) * 16807) - (((v4 : Int32).toInt64) * 16807) / 2147483647 * 2147483647).toInt32) - (((((v4 : Int32).toInt64) * 16807) - (((v4 : Int32).toInt64) * 16807) / 2147483647 * 2147483647).toInt32) / 5 * 5 : Int32) = 0 : Prop) → (¬ (M10 7 (2 : Int32).toNatClampNeg) = 0 ∧ (f_X12_mayMove 10 ((((((v4 : Int32).toInt64) * 16807) - (((v4 : Int32).toInt64) * 16807) / 2147483647 * 2147483647).toInt32) - (((((v4 : Int32).toInt64) * 16807) - (((v4 : Int32).toInt64) * 16807) / 2147483647 * 2147483647).toInt32) / (M10 7 (2 : Int32).toNatClampNeg) * (M10 7 (2 : Int32).toNatClampNeg)) (1) M10 (fun r16 M15 => ((((r16 : Int32) = 0 : Prop) → f_X12_drawn_150 K (fun a0 a1 a => (l_X12_drawn_52 K v1 v3 n) a0 a1 a) (v1) (v3) (((((v4 : Int32).toInt64) * 16807) - (((v4 : Int32).toInt64) * 16807) / 2147483647 * 2147483647).toInt32) (v5) M15) ∧ (¬ ((r16 : Int32) = 0 : Prop) → (¬ (M15 7 (2 : Int32).toNatClampNeg) = 0 ∧ (vp_in (1 + ((((((v4 : Int32).toInt64) * 16807) - (((v4 : Int32).toInt64) * 16807) / 2147483647 * 2147483647).toInt32) - (((((v4 : Int32).toInt64) * 16807) - (((v4 : Int32).toInt64) * 16807) / 2147483647 * 2147483647).toInt32) / (M15 7 (2 : Int32).toNatClampNeg) * (M15 7 (2 : Int32).toNatClampNeg))) 22 ∧ (∀ M20 : Mm, M20 = gU M15 10 (1 + ((((((v4 : Int32).toInt64) * 16807) - (((v4 : Int32).toInt64) * 16807) / 2147483647 * 2147483647).toInt32) - (((((v4 : Int32).toInt64) * 16807) - (((v4 : Int32).toInt64) * 16807) / 2147483647 * 2147483647).toInt32) / (M15 7 (2 : Int32).toNatClampNeg) * (M15 7 (2 : Int32).toNatClampNeg)) : Int32).toNatClampNeg ((M15 10 (1 + ((((((v4 : Int32).toInt64) * 16807) - (((v4 : Int32).toInt64) * 16807) / 2147483647 * 2147483647).toInt32) - (((((v4 : Int32).toInt64) * 16807) - (((v4 : Int32).toInt64) * 16807) / 2147483647 * 2147483647).toInt32) / (M15 7 (2 : Int32).toNatClampNeg) * (M15 7 (2 : Int32).toNatClampNeg)) : Int32).toNatClampNeg) + 1) → f_X12_drawn_150 K (fun a0 a1 a => (l_X12_drawn_52 K v1 v3 n) a0 a1 a) (v1) (v3) (((((v4 : Int32).toInt64) * 16807) - (((v4 : Int32).toInt64) * 16807) / 2147483647 * 2147483647).toInt32) (v5) M20))))))))) ∧ (¬ (((((((v4 : Int32).toInt64) * 16807) - (((v4 : Int32).toInt64) * 16807) / 2147483647 * 2147483647).toInt32) - (((((v4 : Int32).toInt64) * 16807) - (((v4 : Int32).toInt64) * 16807) / 2147483647 * 2147483647).toInt32) / 5 * 5 : Int32) = 0 : Prop) → f_X12_drawn_150 K (fun a0 a1 a => (l_X12_drawn_52 K v1 v3 n) a0 a1 a) (v1) (v3) (((((v4 : Int32).toInt64) * 16807) - (((v4 : Int32).toInt64) * 16807) / 2147483647 * 2147483647).toInt32) (v5) M10))))))))
def f_X12_drawn (v1 : Int32) (v2 : Int32) (v3 : Int32) (M : Mm) (K : Int32 → Mm → Prop) : Prop := ((((M 0 20 : Int32) = 0 : Prop) → K (-1000002) M) ∧ (¬ ((M 0 20 : Int32) = 0 : Prop) → (f_X12_in (v1) (0) (60) M (fun r24 M23 => ((((r24 : Int32) = 0 : Prop) → K (-1000001) M23) ∧ (¬ ((r24 : Int32) = 0 : Prop) → (f_X12_in (v2) (1) (999999) M23 (fun r27 M26 => ((((r27 : Int32) = 0 : Prop) → K (-1000001) M26) ∧ (¬ ((r27 : Int32) = 0 : Prop) → (f_X12_in (v3) (0) (1) M26 (fun r30 M29 => ((((r30 : Int32) = 0 : Prop) → K (-1000001) M29) ∧ (¬ ((r30 : Int32) = 0 : Prop) → (f_X12_take  M29 (fun M32 => ∃ z, l_X12_drawn_52 K (v1) (v3) z (v2) (0) M32))))))))))))))))
set_option maxHeartbeats 4000000 in
set_option maxRecDepth 100000 in
theorem m_X12_drawn (hI : gI 17 ad) {v1 : Int32} {v2 : Int32} {v3 : Int32} {M : Mm} {K : Int32 → Mm → Prop} (h : f_X12_drawn v1 v2 v3 M K) : gM l D cy 17 ad (shR ad cy) yX12_drawn cX12_drawn 7 (some .int) 4 96 [.ref (ad 0), .int (v1), .int (v2), .int (v3)] M (gQi D 17 ad (shR ad cy) K) := by
  refine gM.of (own := RX12) (lv := [(0, .ref (ad 0)), (1, .int (v1)), (2, .int (v2)), (3, .int (v3))]) (by decide) rfl hI (Nat.le_of_ble_eq_true rfl) rfl ?_
  intro p e s m below meth c ls H locs X G hl
  have hx := X.1
  have hb := X.2.1
  have hJ218 : ∀ (s0 : Int32) (M : Mm) (H : Heap) (locs : List Loc) (ls : Array Slot), gS D s 17 ad (shR ad cy) H locs M → lv_has ls 7 [] → f_X12_drawn_218 K s0 M → gWk p l e 4 96 s m ([.ref (ad 0), .int (v1), .int (v2), .int (v3)] : List Value).toArray below meth c H locs (gQi D 17 ad (shR ad cy) K) 17 ad 218 ls [.int (s0)] := by
    intro s0 M H locs ls G hl h
    unfold f_X12_drawn_218 at h
    refine gq_calli G (gc_S (rest := []) X hl.1 G (m_X12_bitsOf hI  h) cw_X12_bitsOf qw_28_23 qw_29_0 rfl rfl (Nat.le_of_ble_eq_true rfl) ⟨Nat.le_of_ble_eq_true rfl, Nat.le_of_ble_eq_true rfl⟩ ⟨Nat.le_refl _, Nat.le_refl _⟩ dX12_drawn_218) (fun r2 M1 H locs G h => ?_)
    exact gq_iret X G h dX12_drawn_221
  have hL170 : ∀ (n : Nat) (v5 : Int32) (v6 : Int32) (M : Mm) (H : Heap) (locs : List Loc) (ls : Array Slot), gS D s 17 ad (shR ad cy) H locs M → lv_has ls 7 [(0, .ref (ad 0)), (3, .int (v3)), (5, .int (v5)), (6, .int (v6))] → l_X12_drawn_170 K v3 n v5 v6 M → gWk p l e 4 96 s m ([.ref (ad 0), .int (v1), .int (v2), .int (v3)] : List Value).toArray below meth c H locs (gQi D 17 ad (shR ad cy) K) 17 ad 170 ls [] := by
    intro n170
    induction n170 with
    | zero =>
      intro v5 v6 M H locs ls G hl h
      exact False.elim h
    | succ n170 ih170 =>
      intro v5 v6 M H locs ls G hl h
      rw [l_X12_drawn_170] at h
      refine lv_iload hx hb dX12_drawn_170 (lv_at hl 3 rfl) ?_
      refine lv_aload_n hx hb dX12_drawn_172 rfl (lv_at hl 0 rfl) ?_
      refine gf_Model_told X G qw_5_13 dX12_drawn_173 ?_
      refine lv_iconst (v := (3)) hx hb dX12_drawn_176 (by decide) ?_
      refine gq_iald X G rr_7 (by unfold vp_in; decide) dX12_drawn_177 ?_
      refine lv_icmp_ge (tgt := 202) hx hb dX12_drawn_178 (by decide) (fun c3 => ?_) (fun c3 => ?_)
      · have h := h.1 c3
        refine lv_iload_n hx hb dX12_drawn_202 rfl (lv_at hl 1 rfl) ?_
        refine lv_if_ne (tgt := 211) hx hb dX12_drawn_203 (by decide) (fun c4 => ?_) (fun c4 => ?_)
        · have h := h.2 c4
          refine lv_aload_n hx hb dX12_drawn_211 rfl (lv_at hl 0 rfl) ?_
          refine gf_Model_tried X G qw_5_16 dX12_drawn_212 ?_
          refine lv_bipush (v := (6)) hx hb dX12_drawn_215 (by decide) ?_
          refine gq_iald X G rr_10 (by unfold vp_in; decide) dX12_drawn_217 ?_
          exact hJ218  (M 10 (6 : Int32).toNatClampNeg) M H locs ls G  (lv_sub hl [] rfl) h
        have h := h.1 c4
        refine lv_iload hx hb dX12_drawn_206 (lv_at hl 2 rfl) ?_
        refine lv_goto (tgt := 218) hx hb dX12_drawn_208 (by decide) ?_
        exact hJ218  (v5) M H locs ls G  (lv_sub hl [] rfl) h
      have h := h.2 c3
      refine lv_iload hx hb dX12_drawn_181 (lv_at hl 2 rfl) ?_
      refine lv_aload_n hx hb dX12_drawn_183 rfl (lv_at hl 0 rfl) ?_
      refine gf_Model_tried X G qw_5_16 dX12_drawn_184 ?_
      refine lv_bipush (v := (17)) hx hb dX12_drawn_187 (by decide) ?_
      refine lv_iload hx hb dX12_drawn_189 (lv_at hl 3 rfl) ?_
      refine lv_iadd hx hb dX12_drawn_191 ?_
      obtain ⟨q5, h⟩ := h
      refine gq_iald X G rr_10 q5 dX12_drawn_192 ?_
      refine lv_ior hx hb dX12_drawn_193 ?_
      refine lv_istore (lv' := [(5, .int (v5 ||| (M 10 (17 + v6 : Int32).toNatClampNeg))), (0, .ref (ad 0)), (3, .int (v3)), (6, .int (v6))]) hx hb dX12_drawn_194 hl (by decide) rfl (fun ls hl => ?_)
      refine lv_iinc (v := v6 + 1) (lv' := [(6, .int (v6 + 1)), (5, .int (v5 ||| (M 10 (17 + v6 : Int32).toNatClampNeg))), (0, .ref (ad 0)), (3, .int (v3))]) hx hb dX12_drawn_196 hl (k := 3) rfl rfl (by decide) rfl (fun ls hl => ?_)
      refine lv_goto (tgt := 170) hx hb dX12_drawn_199 (by decide) ?_
      exact ih170 (v5 ||| (M 10 (17 + v6 : Int32).toNatClampNeg)) (v6 + 1) M H locs ls G  (lv_sub hl [2, 3, 1, 0] rfl) h
  have hL52 : ∀ (n : Nat) (v4 : Int32) (v5 : Int32) (M : Mm) (H : Heap) (locs : List Loc) (ls : Array Slot), gS D s 17 ad (shR ad cy) H locs M → lv_has ls 7 [(0, .ref (ad 0)), (1, .int (v1)), (3, .int (v3)), (4, .int (v4)), (5, .int (v5))] → l_X12_drawn_52 K v1 v3 n v4 v5 M → gWk p l e 4 96 s m ([.ref (ad 0), .int (v1), .int (v2), .int (v3)] : List Value).toArray below meth c H locs (gQi D 17 ad (shR ad cy) K) 17 ad 52 ls [] := by
    intro n52
    induction n52 with
    | zero =>
      intro v4 v5 M H locs ls G hl h
      exact False.elim h
    | succ n52 ih52 =>
      have hJ150 : ∀ (v4 : Int32) (v5 : Int32) (M : Mm) (H : Heap) (locs : List Loc) (ls : Array Slot), gS D s 17 ad (shR ad cy) H locs M → lv_has ls 7 [(0, .ref (ad 0)), (1, .int (v1)), (3, .int (v3)), (4, .int (v4)), (5, .int (v5))] → f_X12_drawn_150 K (fun a0 a1 a => (l_X12_drawn_52 K v1 v3 n52) a0 a1 a) v1 v3 v4 v5 M → gWk p l e 4 96 s m ([.ref (ad 0), .int (v1), .int (v2), .int (v3)] : List Value).toArray below meth c H locs (gQi D 17 ad (shR ad cy) K) 17 ad 150 ls [] := by
        intro v4 v5 M H locs ls G hl h
        unfold f_X12_drawn_150 at h
        refine lv_aload_n hx hb dX12_drawn_150 rfl (lv_at hl 0 rfl) ?_
        refine lv_aload_n hx hb dX12_drawn_151 rfl (lv_at hl 0 rfl) ?_
        refine gf_Model_tried X G qw_5_16 dX12_drawn_152 ?_
        refine gq_callv G (gc_V (C := RX12) (rest := []) X hl.1 G (m_X12_pass hI isC_10 h) cw_X12_pass qw_19_19 qw_19_20 qw_19_21 ob_Model rfl rfl rfl rfl (Nat.le_of_ble_eq_true rfl) ⟨Nat.le_of_ble_eq_true rfl, Nat.le_of_ble_eq_true rfl⟩ ⟨Nat.le_refl _, Nat.le_refl _⟩ dX12_drawn_155) (fun M6 H locs G h => ?_)
        refine lv_iinc (v := v5 + 1) (lv' := [(5, .int (v5 + 1)), (0, .ref (ad 0)), (1, .int (v1)), (3, .int (v3)), (4, .int (v4))]) hx hb dX12_drawn_158 hl (k := 4) rfl rfl (by decide) rfl (fun ls hl => ?_)
        refine lv_goto (tgt := 52) hx hb dX12_drawn_161 (by decide) ?_
        exact ih52 (v4) (v5 + 1) M6 H locs ls G  (lv_sub hl [1, 2, 3, 4, 0] rfl) h
      intro v4 v5 M H locs ls G hl h
      rw [l_X12_drawn_52] at h
      refine lv_iload hx hb dX12_drawn_52 (lv_at hl 4 rfl) ?_
      refine lv_iload_n hx hb dX12_drawn_54 rfl (lv_at hl 1 rfl) ?_
      refine lv_icmp_ge (tgt := 164) hx hb dX12_drawn_55 (by decide) (fun c7 => ?_) (fun c7 => ?_)
      · have h := h.1 c7
        refine lv_iconst (v := (0)) hx hb dX12_drawn_164 (by decide) ?_
        refine lv_istore (lv' := [(5, .int (0)), (0, .ref (ad 0)), (1, .int (v1)), (3, .int (v3)), (4, .int (v4))]) hx hb dX12_drawn_165 hl (by decide) rfl (fun ls hl => ?_)
        refine lv_iconst (v := (0)) hx hb dX12_drawn_167 (by decide) ?_
        refine lv_istore (lv' := [(6, .int (0)), (5, .int (0)), (0, .ref (ad 0)), (1, .int (v1)), (3, .int (v3)), (4, .int (v4))]) hx hb dX12_drawn_168 hl (by decide) rfl (fun ls hl => ?_)
        obtain ⟨n8, h⟩ := h
        exact hL170   n8 (0) (0) M H locs ls G  (lv_sub hl [2, 4, 1, 0] rfl) h
      have h := h.2 c7
      refine lv_iload hx hb dX12_drawn_58 (lv_at hl 3 rfl) ?_
      refine lv_i2l hx hb dX12_drawn_60 rfl ?_
      refine gq_ldc2 (v := (16807)) X qw_35_21 dX12_drawn_61 ?_
      refine lv_lmul hx hb dX12_drawn_64 ?_
      refine gq_ldc2 (v := (2147483647)) X qw_35_22 dX12_drawn_65 ?_
      refine lv_lrem hx hb dX12_drawn_68 (by decide) ?_
      refine lv_l2i hx hb dX12_drawn_69 rfl ?_
      refine lv_istore (lv' := [(4, .int (((((v4 : Int32).toInt64) * 16807) - (((v4 : Int32).toInt64) * 16807) / 2147483647 * 2147483647).toInt32)), (0, .ref (ad 0)), (1, .int (v1)), (3, .int (v3)), (5, .int (v5))]) hx hb dX12_drawn_70 hl (by decide) rfl (fun ls hl => ?_)
      refine lv_aload_n hx hb dX12_drawn_72 rfl (lv_at hl 1 rfl) ?_
      refine gf_Model_tried X G qw_5_16 dX12_drawn_73 ?_
      refine lv_bipush (v := (6)) hx hb dX12_drawn_76 (by decide) ?_
      refine lv_dup2_11 hx hb dX12_drawn_78 rfl rfl ?_
      refine gq_iald X G rr_10 (by unfold vp_in; decide) dX12_drawn_79 ?_
      refine lv_iconst (v := (1)) hx hb dX12_drawn_80 (by decide) ?_
      refine lv_iload hx hb dX12_drawn_81 (lv_at hl 0 rfl) ?_
      refine lv_aload_n hx hb dX12_drawn_83 rfl (lv_at hl 1 rfl) ?_
      refine gf_Model_told X G qw_5_13 dX12_drawn_84 ?_
      refine lv_iconst (v := (0)) hx hb dX12_drawn_87 (by decide) ?_
      refine gq_iald X G rr_7 (by unfold vp_in; decide) dX12_drawn_88 ?_
      obtain ⟨q9, h⟩ := h
      refine lv_irem hx hb dX12_drawn_89 q9 ?_
      refine lv_ishl hx hb dX12_drawn_90 ?_
      refine lv_ixor hx hb dX12_drawn_91 ?_
      refine gq_iast X G rr_10 (by unfold vp_in; decide) dX12_drawn_92 (fun M10 H locs e11 G => ?_)
      have h := h M10 e11
      refine lv_aload_n hx hb dX12_drawn_93 rfl (lv_at hl 1 rfl) ?_
      refine gf_Model_told X G qw_5_13 dX12_drawn_94 ?_
      refine lv_iconst (v := (2)) hx hb dX12_drawn_97 (by decide) ?_
      refine gq_iald X G rr_7 (by unfold vp_in; decide) dX12_drawn_98 ?_
      refine lv_if_le (tgt := 150) hx hb dX12_drawn_99 (by decide) (fun c12 => ?_) (fun c12 => ?_)
      · have h := h.1 c12
        exact hJ150 (((((v4 : Int32).toInt64) * 16807) - (((v4 : Int32).toInt64) * 16807) / 2147483647 * 2147483647).toInt32) (v5)  M10 H locs ls G  (lv_sub hl [1, 2, 3, 0, 4] rfl) h
      have h := h.2 c12
      refine lv_iload hx hb dX12_drawn_102 (lv_at hl 0 rfl) ?_
      refine lv_iconst (v := (5)) hx hb dX12_drawn_104 (by decide) ?_
      refine lv_irem hx hb dX12_drawn_105 (by decide) ?_
      refine lv_if_ne (tgt := 150) hx hb dX12_drawn_106 (by decide) (fun c13 => ?_) (fun c13 => ?_)
      · have h := h.2 c13
        exact hJ150 (((((v4 : Int32).toInt64) * 16807) - (((v4 : Int32).toInt64) * 16807) / 2147483647 * 2147483647).toInt32) (v5)  M10 H locs ls G  (lv_sub hl [1, 2, 3, 0, 4] rfl) h
      have h := h.1 c13
      refine lv_aload_n hx hb dX12_drawn_109 rfl (lv_at hl 1 rfl) ?_
      refine lv_aload_n hx hb dX12_drawn_110 rfl (lv_at hl 1 rfl) ?_
      refine gf_Model_tried X G qw_5_16 dX12_drawn_111 ?_
      refine lv_iload hx hb dX12_drawn_114 (lv_at hl 0 rfl) ?_
      refine lv_aload_n hx hb dX12_drawn_116 rfl (lv_at hl 1 rfl) ?_
      refine gf_Model_told X G qw_5_13 dX12_drawn_117 ?_
      refine lv_iconst (v := (2)) hx hb dX12_drawn_120 (by decide) ?_
      refine gq_iald X G rr_7 (by unfold vp_in; decide) dX12_drawn_121 ?_
      obtain ⟨q14, h⟩ := h
      refine lv_irem hx hb dX12_drawn_122 q14 ?_
      refine lv_iconst (v := (1)) hx hb dX12_drawn_123 (by decide) ?_
      refine gq_calli G (gc_V (C := RX12) (rest := []) X hl.1 G (m_X12_mayMove hI isC_10 h) cw_X12_mayMove qw_21_12 qw_21_13 qw_21_14 ob_Model rfl rfl rfl rfl (Nat.le_of_ble_eq_true rfl) ⟨Nat.le_of_ble_eq_true rfl, Nat.le_of_ble_eq_true rfl⟩ ⟨Nat.le_refl _, Nat.le_refl _⟩ dX12_drawn_124) (fun r16 M15 H locs G h => ?_)
      refine lv_if_eq (tgt := 150) hx hb dX12_drawn_127 (by decide) (fun c17 => ?_) (fun c17 => ?_)
      · have h := h.1 c17
        exact hJ150 (((((v4 : Int32).toInt64) * 16807) - (((v4 : Int32).toInt64) * 16807) / 2147483647 * 2147483647).toInt32) (v5)  M15 H locs ls G  (lv_sub hl [1, 2, 3, 0, 4] rfl) h
      have h := h.2 c17
      refine lv_aload_n hx hb dX12_drawn_130 rfl (lv_at hl 1 rfl) ?_
      refine gf_Model_tried X G qw_5_16 dX12_drawn_131 ?_
      refine lv_iconst (v := (1)) hx hb dX12_drawn_134 (by decide) ?_
      refine lv_iload hx hb dX12_drawn_135 (lv_at hl 0 rfl) ?_
      refine lv_aload_n hx hb dX12_drawn_137 rfl (lv_at hl 1 rfl) ?_
      refine gf_Model_told X G qw_5_13 dX12_drawn_138 ?_
      refine lv_iconst (v := (2)) hx hb dX12_drawn_141 (by decide) ?_
      refine gq_iald X G rr_7 (by unfold vp_in; decide) dX12_drawn_142 ?_
      obtain ⟨q18, h⟩ := h
      refine lv_irem hx hb dX12_drawn_143 q18 ?_
      refine lv_iadd hx hb dX12_drawn_144 ?_
      refine lv_dup2_11 hx hb dX12_drawn_145 rfl rfl ?_
      obtain ⟨q19, h⟩ := h
      refine gq_iald X G rr_10 q19 dX12_drawn_146 ?_
      refine lv_iconst (v := (1)) hx hb dX12_drawn_147 (by decide) ?_
      refine lv_iadd hx hb dX12_drawn_148 ?_
      refine gq_iast X G rr_10 q19 dX12_drawn_149 (fun M20 H locs e21 G => ?_)
      have h := h M20 e21
      exact hJ150 (((((v4 : Int32).toInt64) * 16807) - (((v4 : Int32).toInt64) * 16807) / 2147483647 * 2147483647).toInt32) (v5)  M20 H locs ls G  (lv_sub hl [1, 2, 3, 0, 4] rfl) h
  unfold f_X12_drawn at h
  refine lv_aload_n hx hb dX12_drawn_0 rfl (lv_at hl 0 rfl) ?_
  refine gf_Model_isRead X G qw_14_8 dX12_drawn_1 ?_
  refine lv_if_ne (tgt := 10) hx hb dX12_drawn_4 (by decide) (fun c22 => ?_) (fun c22 => ?_)
  · have h := h.2 c22
    refine lv_iload_n hx hb dX12_drawn_10 rfl (lv_at hl 1 rfl) ?_
    refine lv_iconst (v := (0)) hx hb dX12_drawn_11 (by decide) ?_
    refine lv_bipush (v := (60)) hx hb dX12_drawn_12 (by decide) ?_
    refine gq_calli G (gc_S (rest := []) X hl.1 G (m_X12_in hI  h) cw_X12_in qw_7_12 qw_7_13 rfl rfl (Nat.le_of_ble_eq_true rfl) ⟨Nat.le_of_ble_eq_true rfl, Nat.le_of_ble_eq_true rfl⟩ ⟨Nat.le_refl _, Nat.le_refl _⟩ dX12_drawn_14) (fun r24 M23 H locs G h => ?_)
    refine lv_if_eq (tgt := 39) hx hb dX12_drawn_17 (by decide) (fun c25 => ?_) (fun c25 => ?_)
    · have h := h.1 c25
      refine gq_ldc (v := (-1000001)) X qw_7_8 dX12_drawn_39 ?_
      exact gq_iret X G h dX12_drawn_41
    have h := h.2 c25
    refine lv_iload_n hx hb dX12_drawn_20 rfl (lv_at hl 2 rfl) ?_
    refine lv_iconst (v := (1)) hx hb dX12_drawn_21 (by decide) ?_
    refine gq_ldc (v := (999999)) X qw_35_20 dX12_drawn_22 ?_
    refine gq_calli G (gc_S (rest := []) X hl.1 G (m_X12_in hI  h) cw_X12_in qw_7_12 qw_7_13 rfl rfl (Nat.le_of_ble_eq_true rfl) ⟨Nat.le_of_ble_eq_true rfl, Nat.le_of_ble_eq_true rfl⟩ ⟨Nat.le_refl _, Nat.le_refl _⟩ dX12_drawn_24) (fun r27 M26 H locs G h => ?_)
    refine lv_if_eq (tgt := 39) hx hb dX12_drawn_27 (by decide) (fun c28 => ?_) (fun c28 => ?_)
    · have h := h.1 c28
      refine gq_ldc (v := (-1000001)) X qw_7_8 dX12_drawn_39 ?_
      exact gq_iret X G h dX12_drawn_41
    have h := h.2 c28
    refine lv_iload_n hx hb dX12_drawn_30 rfl (lv_at hl 3 rfl) ?_
    refine lv_iconst (v := (0)) hx hb dX12_drawn_31 (by decide) ?_
    refine lv_iconst (v := (1)) hx hb dX12_drawn_32 (by decide) ?_
    refine gq_calli G (gc_S (rest := []) X hl.1 G (m_X12_in hI  h) cw_X12_in qw_7_12 qw_7_13 rfl rfl (Nat.le_of_ble_eq_true rfl) ⟨Nat.le_of_ble_eq_true rfl, Nat.le_of_ble_eq_true rfl⟩ ⟨Nat.le_refl _, Nat.le_refl _⟩ dX12_drawn_33) (fun r30 M29 H locs G h => ?_)
    refine lv_if_ne (tgt := 42) hx hb dX12_drawn_36 (by decide) (fun c31 => ?_) (fun c31 => ?_)
    · have h := h.2 c31
      refine lv_aload_n hx hb dX12_drawn_42 rfl (lv_at hl 0 rfl) ?_
      refine gq_callv G (gc_V (C := RX12) (rest := []) X hl.1 G (m_X12_take hI  h) cw_X12_take qw_26_20 qw_26_21 qw_26_22 ob_Model rfl rfl rfl rfl (Nat.le_of_ble_eq_true rfl) ⟨Nat.le_of_ble_eq_true rfl, Nat.le_of_ble_eq_true rfl⟩ ⟨Nat.le_refl _, Nat.le_refl _⟩ dX12_drawn_43) (fun M32 H locs G h => ?_)
      refine lv_iload_n hx hb dX12_drawn_46 rfl (lv_at hl 2 rfl) ?_
      refine lv_istore (lv' := [(4, .int (v2)), (0, .ref (ad 0)), (1, .int (v1)), (2, .int (v2)), (3, .int (v3))]) hx hb dX12_drawn_47 hl (by decide) rfl (fun ls hl => ?_)
      refine lv_iconst (v := (0)) hx hb dX12_drawn_49 (by decide) ?_
      refine lv_istore (lv' := [(5, .int (0)), (4, .int (v2)), (0, .ref (ad 0)), (1, .int (v1)), (2, .int (v2)), (3, .int (v3))]) hx hb dX12_drawn_50 hl (by decide) rfl (fun ls hl => ?_)
      obtain ⟨n33, h⟩ := h
      exact hL52   n33 (v2) (0) M32 H locs ls G  (lv_sub hl [2, 3, 5, 1, 0] rfl) h
    have h := h.1 c31
    refine gq_ldc (v := (-1000001)) X qw_7_8 dX12_drawn_39 ?_
    exact gq_iret X G h dX12_drawn_41
  have h := h.1 c22
  refine gq_ldc (v := (-1000002)) X qw_19_14 dX12_drawn_7 ?_
  exact gq_iret X G h dX12_drawn_9
def l_X12_image_55 (K : Int32 → Mm → Prop) (v1 : Int32) : Nat → Int32 → Mm → Prop
  | 0, _, _ => False
  | n + 1, v2, M => ((((22 : Int32) ≤ v2 : Prop) → (vp_in (v1) 2 ∧ (∀ M3 : Mm, M3 = gU M 14 (v1 : Int32).toNatClampNeg (vp_nar .boolean (1)) → K (1) M3))) ∧ (¬ ((22 : Int32) ≤ v2 : Prop) → (vp_in (v2) 22 ∧ (vp_in ((22 * v1) + v2) 44 ∧ (∀ M7 : Mm, M7 = gU M 13 ((22 * v1) + v2 : Int32).toNatClampNeg (M 9 (v2 : Int32).toNatClampNeg) → (l_X12_image_55 K v1 n) (v2 + 1) M7)))))
def l_X12_image_24 (K : Int32 → Mm → Prop) (v1 : Int32) : Nat → Int32 → Mm → Prop
  | 0, _, _ => False
  | n + 1, v2, M => ((((33 : Int32) ≤ v2 : Prop) → ∃ z, l_X12_image_55 K (v1) z (0) M) ∧ (¬ ((33 : Int32) ≤ v2 : Prop) → (vp_in (v2) 33 ∧ (vp_in ((33 * v1) + v2) 66 ∧ (∀ M13 : Mm, M13 = gU M 12 ((33 * v1) + v2 : Int32).toNatClampNeg (M 7 (v2 : Int32).toNatClampNeg) → (l_X12_image_24 K v1 n) (v2 + 1) M13)))))
def f_X12_image (v1 : Int32) (M : Mm) (K : Int32 → Mm → Prop) : Prop := (f_X12_in (v1) (0) (1) M (fun r16 M15 => ((((r16 : Int32) = 0 : Prop) → K (-1000001) M15) ∧ (¬ ((r16 : Int32) = 0 : Prop) → ((((M15 0 20 : Int32) = 0 : Prop) → K (-1000002) M15) ∧ (¬ ((M15 0 20 : Int32) = 0 : Prop) → ∃ z, l_X12_image_24 K (v1) z (0) M15))))))
set_option maxHeartbeats 4000000 in
set_option maxRecDepth 100000 in
theorem m_X12_image (hI : gI 17 ad) {v1 : Int32} {M : Mm} {K : Int32 → Mm → Prop} (h : f_X12_image v1 M K) : gM l D cy 17 ad (shR ad cy) yX12_image cX12_image 3 (some .int) 1 22 [.ref (ad 0), .int (v1)] M (gQi D 17 ad (shR ad cy) K) := by
  refine gM.of (own := RX12) (lv := [(0, .ref (ad 0)), (1, .int (v1))]) (by decide) rfl hI (Nat.le_of_ble_eq_true rfl) rfl ?_
  intro p e s m below meth c ls H locs X G hl
  have hx := X.1
  have hb := X.2.1
  have hL55 : ∀ (n : Nat) (v2 : Int32) (M : Mm) (H : Heap) (locs : List Loc) (ls : Array Slot), gS D s 17 ad (shR ad cy) H locs M → lv_has ls 3 [(0, .ref (ad 0)), (1, .int (v1)), (2, .int (v2))] → l_X12_image_55 K v1 n v2 M → gWk p l e 1 22 s m ([.ref (ad 0), .int (v1)] : List Value).toArray below meth c H locs (gQi D 17 ad (shR ad cy) K) 17 ad 55 ls [] := by
    intro n55
    induction n55 with
    | zero =>
      intro v2 M H locs ls G hl h
      exact False.elim h
    | succ n55 ih55 =>
      intro v2 M H locs ls G hl h
      rw [l_X12_image_55] at h
      refine lv_iload_n hx hb dX12_image_55 rfl (lv_at hl 2 rfl) ?_
      refine lv_bipush (v := (22)) hx hb dX12_image_56 (by decide) ?_
      refine lv_icmp_ge (tgt := 84) hx hb dX12_image_58 (by decide) (fun c1 => ?_) (fun c1 => ?_)
      · have h := h.1 c1
        refine lv_aload_n hx hb dX12_image_84 rfl (lv_at hl 0 rfl) ?_
        refine gf_Model_isKept X G qw_5_21 dX12_image_85 ?_
        refine lv_iload_n hx hb dX12_image_88 rfl (lv_at hl 1 rfl) ?_
        refine lv_iconst (v := (1)) hx hb dX12_image_89 (by decide) ?_
        obtain ⟨q2, h⟩ := h
        refine gq_zast X G rr_14 q2 dX12_image_90 (fun M3 H locs e4 G => ?_)
        have h := h M3 e4
        refine lv_iconst (v := (1)) hx hb dX12_image_91 (by decide) ?_
        exact gq_iret X G h dX12_image_92
      have h := h.2 c1
      refine lv_aload_n hx hb dX12_image_61 rfl (lv_at hl 0 rfl) ?_
      refine gf_Model_imageNow X G qw_5_19 dX12_image_62 ?_
      refine lv_bipush (v := (22)) hx hb dX12_image_65 (by decide) ?_
      refine lv_iload_n hx hb dX12_image_67 rfl (lv_at hl 1 rfl) ?_
      refine lv_imul hx hb dX12_image_68 ?_
      refine lv_iload_n hx hb dX12_image_69 rfl (lv_at hl 2 rfl) ?_
      refine lv_iadd hx hb dX12_image_70 ?_
      refine lv_aload_n hx hb dX12_image_71 rfl (lv_at hl 0 rfl) ?_
      refine gf_Model_now X G qw_5_15 dX12_image_72 ?_
      refine lv_iload_n hx hb dX12_image_75 rfl (lv_at hl 2 rfl) ?_
      obtain ⟨q5, h⟩ := h
      refine gq_iald X G rr_9 q5 dX12_image_76 ?_
      obtain ⟨q6, h⟩ := h
      refine gq_iast X G rr_13 q6 dX12_image_77 (fun M7 H locs e8 G => ?_)
      have h := h M7 e8
      refine lv_iinc (v := v2 + 1) (lv' := [(2, .int (v2 + 1)), (0, .ref (ad 0)), (1, .int (v1))]) hx hb dX12_image_78 hl (k := 2) rfl rfl (by decide) rfl (fun ls hl => ?_)
      refine lv_goto (tgt := 55) hx hb dX12_image_81 (by decide) ?_
      exact ih55 (v2 + 1) M7 H locs ls G  (lv_sub hl [1, 2, 0] rfl) h
  have hL24 : ∀ (n : Nat) (v2 : Int32) (M : Mm) (H : Heap) (locs : List Loc) (ls : Array Slot), gS D s 17 ad (shR ad cy) H locs M → lv_has ls 3 [(0, .ref (ad 0)), (1, .int (v1)), (2, .int (v2))] → l_X12_image_24 K v1 n v2 M → gWk p l e 1 22 s m ([.ref (ad 0), .int (v1)] : List Value).toArray below meth c H locs (gQi D 17 ad (shR ad cy) K) 17 ad 24 ls [] := by
    intro n24
    induction n24 with
    | zero =>
      intro v2 M H locs ls G hl h
      exact False.elim h
    | succ n24 ih24 =>
      intro v2 M H locs ls G hl h
      rw [l_X12_image_24] at h
      refine lv_iload_n hx hb dX12_image_24 rfl (lv_at hl 2 rfl) ?_
      refine lv_bipush (v := (33)) hx hb dX12_image_25 (by decide) ?_
      refine lv_icmp_ge (tgt := 53) hx hb dX12_image_27 (by decide) (fun c9 => ?_) (fun c9 => ?_)
      · have h := h.1 c9
        refine lv_iconst (v := (0)) hx hb dX12_image_53 (by decide) ?_
        refine lv_istore_n (lv' := [(2, .int (0)), (0, .ref (ad 0)), (1, .int (v1))]) hx hb dX12_image_54 rfl hl (by decide) rfl (fun ls hl => ?_)
        obtain ⟨n10, h⟩ := h
        exact hL55   n10 (0) M H locs ls G  (lv_sub hl [1, 2, 0] rfl) h
      have h := h.2 c9
      refine lv_aload_n hx hb dX12_image_30 rfl (lv_at hl 0 rfl) ?_
      refine gf_Model_imageTold X G qw_5_18 dX12_image_31 ?_
      refine lv_bipush (v := (33)) hx hb dX12_image_34 (by decide) ?_
      refine lv_iload_n hx hb dX12_image_36 rfl (lv_at hl 1 rfl) ?_
      refine lv_imul hx hb dX12_image_37 ?_
      refine lv_iload_n hx hb dX12_image_38 rfl (lv_at hl 2 rfl) ?_
      refine lv_iadd hx hb dX12_image_39 ?_
      refine lv_aload_n hx hb dX12_image_40 rfl (lv_at hl 0 rfl) ?_
      refine gf_Model_told X G qw_5_13 dX12_image_41 ?_
      refine lv_iload_n hx hb dX12_image_44 rfl (lv_at hl 2 rfl) ?_
      obtain ⟨q11, h⟩ := h
      refine gq_iald X G rr_7 q11 dX12_image_45 ?_
      obtain ⟨q12, h⟩ := h
      refine gq_iast X G rr_12 q12 dX12_image_46 (fun M13 H locs e14 G => ?_)
      have h := h M13 e14
      refine lv_iinc (v := v2 + 1) (lv' := [(2, .int (v2 + 1)), (0, .ref (ad 0)), (1, .int (v1))]) hx hb dX12_image_47 hl (k := 2) rfl rfl (by decide) rfl (fun ls hl => ?_)
      refine lv_goto (tgt := 24) hx hb dX12_image_50 (by decide) ?_
      exact ih24 (v2 + 1) M13 H locs ls G  (lv_sub hl [1, 2, 0] rfl) h
  unfold f_X12_image at h
  refine lv_iload_n hx hb dX12_image_0 rfl (lv_at hl 1 rfl) ?_
  refine lv_iconst (v := (0)) hx hb dX12_image_1 (by decide) ?_
  refine lv_iconst (v := (1)) hx hb dX12_image_2 (by decide) ?_
  refine gq_calli G (gc_S (rest := []) X hl.1 G (m_X12_in hI  h) cw_X12_in qw_7_12 qw_7_13 rfl rfl (Nat.le_of_ble_eq_true rfl) ⟨Nat.le_of_ble_eq_true rfl, Nat.le_of_ble_eq_true rfl⟩ ⟨Nat.le_refl _, Nat.le_refl _⟩ dX12_image_3) (fun r16 M15 H locs G h => ?_)
  refine lv_if_ne (tgt := 12) hx hb dX12_image_6 (by decide) (fun c17 => ?_) (fun c17 => ?_)
  · have h := h.2 c17
    refine lv_aload_n hx hb dX12_image_12 rfl (lv_at hl 0 rfl) ?_
    refine gf_Model_isRead X G qw_14_8 dX12_image_13 ?_
    refine lv_if_ne (tgt := 22) hx hb dX12_image_16 (by decide) (fun c18 => ?_) (fun c18 => ?_)
    · have h := h.2 c18
      refine lv_iconst (v := (0)) hx hb dX12_image_22 (by decide) ?_
      refine lv_istore_n (lv' := [(2, .int (0)), (0, .ref (ad 0)), (1, .int (v1))]) hx hb dX12_image_23 rfl hl (by decide) rfl (fun ls hl => ?_)
      obtain ⟨n19, h⟩ := h
      exact hL24   n19 (0) M15 H locs ls G  (lv_sub hl [1, 2, 0] rfl) h
    have h := h.1 c18
    refine gq_ldc (v := (-1000002)) X qw_19_14 dX12_image_19 ?_
    exact gq_iret X G h dX12_image_21
  have h := h.1 c17
  refine gq_ldc (v := (-1000001)) X qw_7_8 dX12_image_9 ?_
  exact gq_iret X G h dX12_image_11
def l_X12_restore_57 (K : Int32 → Mm → Prop) (v1 : Int32) : Nat → Int32 → Mm → Prop
  | 0, _, _ => False
  | n + 1, v2, M => ((((22 : Int32) ≤ v2 : Prop) → (∀ M2 : Mm, M2 = gU M 0 19 (0) → K (1) M2)) ∧ (¬ ((22 : Int32) ≤ v2 : Prop) → (vp_in ((22 * v1) + v2) 44 ∧ (vp_in (v2) 22 ∧ (∀ M6 : Mm, M6 = gU M 9 (v2 : Int32).toNatClampNeg (M 13 ((22 * v1) + v2 : Int32).toNatClampNeg) → (l_X12_restore_57 K v1 n) (v2 + 1) M6)))))
def l_X12_restore_26 (K : Int32 → Mm → Prop) (v1 : Int32) : Nat → Int32 → Mm → Prop
  | 0, _, _ => False
  | n + 1, v2, M => ((((33 : Int32) ≤ v2 : Prop) → ∃ z, l_X12_restore_57 K (v1) z (0) M) ∧ (¬ ((33 : Int32) ≤ v2 : Prop) → (vp_in ((33 * v1) + v2) 66 ∧ (vp_in (v2) 33 ∧ (∀ M12 : Mm, M12 = gU M 7 (v2 : Int32).toNatClampNeg (M 12 ((33 * v1) + v2 : Int32).toNatClampNeg) → (l_X12_restore_26 K v1 n) (v2 + 1) M12)))))
def f_X12_restore (v1 : Int32) (M : Mm) (K : Int32 → Mm → Prop) : Prop := (f_X12_in (v1) (0) (1) M (fun r15 M14 => ((((r15 : Int32) = 0 : Prop) → K (-1000001) M14) ∧ (¬ ((r15 : Int32) = 0 : Prop) → (vp_in (v1) 2 ∧ ((((M14 14 (v1 : Int32).toNatClampNeg : Int32) = 0 : Prop) → K (-1000002) M14) ∧ (¬ ((M14 14 (v1 : Int32).toNatClampNeg : Int32) = 0 : Prop) → ∃ z, l_X12_restore_26 K (v1) z (0) M14)))))))
set_option maxHeartbeats 4000000 in
set_option maxRecDepth 100000 in
theorem m_X12_restore (hI : gI 17 ad) {v1 : Int32} {M : Mm} {K : Int32 → Mm → Prop} (h : f_X12_restore v1 M K) : gM l D cy 17 ad (shR ad cy) yX12_restore cX12_restore 3 (some .int) 1 22 [.ref (ad 0), .int (v1)] M (gQi D 17 ad (shR ad cy) K) := by
  refine gM.of (own := RX12) (lv := [(0, .ref (ad 0)), (1, .int (v1))]) (by decide) rfl hI (Nat.le_of_ble_eq_true rfl) rfl ?_
  intro p e s m below meth c ls H locs X G hl
  have hx := X.1
  have hb := X.2.1
  have hL57 : ∀ (n : Nat) (v2 : Int32) (M : Mm) (H : Heap) (locs : List Loc) (ls : Array Slot), gS D s 17 ad (shR ad cy) H locs M → lv_has ls 3 [(0, .ref (ad 0)), (1, .int (v1)), (2, .int (v2))] → l_X12_restore_57 K v1 n v2 M → gWk p l e 1 22 s m ([.ref (ad 0), .int (v1)] : List Value).toArray below meth c H locs (gQi D 17 ad (shR ad cy) K) 17 ad 57 ls [] := by
    intro n57
    induction n57 with
    | zero =>
      intro v2 M H locs ls G hl h
      exact False.elim h
    | succ n57 ih57 =>
      intro v2 M H locs ls G hl h
      rw [l_X12_restore_57] at h
      refine lv_iload_n hx hb dX12_restore_57 rfl (lv_at hl 2 rfl) ?_
      refine lv_bipush (v := (22)) hx hb dX12_restore_58 (by decide) ?_
      refine lv_icmp_ge (tgt := 86) hx hb dX12_restore_60 (by decide) (fun c1 => ?_) (fun c1 => ?_)
      · have h := h.1 c1
        refine lv_aload_n hx hb dX12_restore_86 rfl (lv_at hl 0 rfl) ?_
        refine lv_iconst (v := (0)) hx hb dX12_restore_87 (by decide) ?_
        refine gp_Model_many X G qw_14_9 dX12_restore_88 (fun M2 H locs e3 G => ?_)
        have h := h M2 e3
        refine lv_iconst (v := (1)) hx hb dX12_restore_91 (by decide) ?_
        exact gq_iret X G h dX12_restore_92
      have h := h.2 c1
      refine lv_aload_n hx hb dX12_restore_63 rfl (lv_at hl 0 rfl) ?_
      refine gf_Model_now X G qw_5_15 dX12_restore_64 ?_
      refine lv_iload_n hx hb dX12_restore_67 rfl (lv_at hl 2 rfl) ?_
      refine lv_aload_n hx hb dX12_restore_68 rfl (lv_at hl 0 rfl) ?_
      refine gf_Model_imageNow X G qw_5_19 dX12_restore_69 ?_
      refine lv_bipush (v := (22)) hx hb dX12_restore_72 (by decide) ?_
      refine lv_iload_n hx hb dX12_restore_74 rfl (lv_at hl 1 rfl) ?_
      refine lv_imul hx hb dX12_restore_75 ?_
      refine lv_iload_n hx hb dX12_restore_76 rfl (lv_at hl 2 rfl) ?_
      refine lv_iadd hx hb dX12_restore_77 ?_
      obtain ⟨q4, h⟩ := h
      refine gq_iald X G rr_13 q4 dX12_restore_78 ?_
      obtain ⟨q5, h⟩ := h
      refine gq_iast X G rr_9 q5 dX12_restore_79 (fun M6 H locs e7 G => ?_)
      have h := h M6 e7
      refine lv_iinc (v := v2 + 1) (lv' := [(2, .int (v2 + 1)), (0, .ref (ad 0)), (1, .int (v1))]) hx hb dX12_restore_80 hl (k := 2) rfl rfl (by decide) rfl (fun ls hl => ?_)
      refine lv_goto (tgt := 57) hx hb dX12_restore_83 (by decide) ?_
      exact ih57 (v2 + 1) M6 H locs ls G  (lv_sub hl [1, 2, 0] rfl) h
  have hL26 : ∀ (n : Nat) (v2 : Int32) (M : Mm) (H : Heap) (locs : List Loc) (ls : Array Slot), gS D s 17 ad (shR ad cy) H locs M → lv_has ls 3 [(0, .ref (ad 0)), (1, .int (v1)), (2, .int (v2))] → l_X12_restore_26 K v1 n v2 M → gWk p l e 1 22 s m ([.ref (ad 0), .int (v1)] : List Value).toArray below meth c H locs (gQi D 17 ad (shR ad cy) K) 17 ad 26 ls [] := by
    intro n26
    induction n26 with
    | zero =>
      intro v2 M H locs ls G hl h
      exact False.elim h
    | succ n26 ih26 =>
      intro v2 M H locs ls G hl h
      rw [l_X12_restore_26] at h
      refine lv_iload_n hx hb dX12_restore_26 rfl (lv_at hl 2 rfl) ?_
      refine lv_bipush (v := (33)) hx hb dX12_restore_27 (by decide) ?_
      refine lv_icmp_ge (tgt := 55) hx hb dX12_restore_29 (by decide) (fun c8 => ?_) (fun c8 => ?_)
      · have h := h.1 c8
        refine lv_iconst (v := (0)) hx hb dX12_restore_55 (by decide) ?_
        refine lv_istore_n (lv' := [(2, .int (0)), (0, .ref (ad 0)), (1, .int (v1))]) hx hb dX12_restore_56 rfl hl (by decide) rfl (fun ls hl => ?_)
        obtain ⟨n9, h⟩ := h
        exact hL57   n9 (0) M H locs ls G  (lv_sub hl [1, 2, 0] rfl) h
      have h := h.2 c8
      refine lv_aload_n hx hb dX12_restore_32 rfl (lv_at hl 0 rfl) ?_
      refine gf_Model_told X G qw_5_13 dX12_restore_33 ?_
      refine lv_iload_n hx hb dX12_restore_36 rfl (lv_at hl 2 rfl) ?_
      refine lv_aload_n hx hb dX12_restore_37 rfl (lv_at hl 0 rfl) ?_
      refine gf_Model_imageTold X G qw_5_18 dX12_restore_38 ?_
      refine lv_bipush (v := (33)) hx hb dX12_restore_41 (by decide) ?_
      refine lv_iload_n hx hb dX12_restore_43 rfl (lv_at hl 1 rfl) ?_
      refine lv_imul hx hb dX12_restore_44 ?_
      refine lv_iload_n hx hb dX12_restore_45 rfl (lv_at hl 2 rfl) ?_
      refine lv_iadd hx hb dX12_restore_46 ?_
      obtain ⟨q10, h⟩ := h
      refine gq_iald X G rr_12 q10 dX12_restore_47 ?_
      obtain ⟨q11, h⟩ := h
      refine gq_iast X G rr_7 q11 dX12_restore_48 (fun M12 H locs e13 G => ?_)
      have h := h M12 e13
      refine lv_iinc (v := v2 + 1) (lv' := [(2, .int (v2 + 1)), (0, .ref (ad 0)), (1, .int (v1))]) hx hb dX12_restore_49 hl (k := 2) rfl rfl (by decide) rfl (fun ls hl => ?_)
      refine lv_goto (tgt := 26) hx hb dX12_restore_52 (by decide) ?_
      exact ih26 (v2 + 1) M12 H locs ls G  (lv_sub hl [1, 2, 0] rfl) h
  unfold f_X12_restore at h
  refine lv_iload_n hx hb dX12_restore_0 rfl (lv_at hl 1 rfl) ?_
  refine lv_iconst (v := (0)) hx hb dX12_restore_1 (by decide) ?_
  refine lv_iconst (v := (1)) hx hb dX12_restore_2 (by decide) ?_
  refine gq_calli G (gc_S (rest := []) X hl.1 G (m_X12_in hI  h) cw_X12_in qw_7_12 qw_7_13 rfl rfl (Nat.le_of_ble_eq_true rfl) ⟨Nat.le_of_ble_eq_true rfl, Nat.le_of_ble_eq_true rfl⟩ ⟨Nat.le_refl _, Nat.le_refl _⟩ dX12_restore_3) (fun r15 M14 H locs G h => ?_)
  refine lv_if_ne (tgt := 12) hx hb dX12_restore_6 (by decide) (fun c16 => ?_) (fun c16 => ?_)
  · have h := h.2 c16
    refine lv_aload_n hx hb dX12_restore_12 rfl (lv_at hl 0 rfl) ?_
    refine gf_Model_isKept X G qw_5_21 dX12_restore_13 ?_
    refine lv_iload_n hx hb dX12_restore_16 rfl (lv_at hl 1 rfl) ?_
    obtain ⟨q17, h⟩ := h
    refine gq_zald X G rr_14 q17 dX12_restore_17 ?_
    refine lv_if_ne (tgt := 24) hx hb dX12_restore_18 (by decide) (fun c18 => ?_) (fun c18 => ?_)
    · have h := h.2 c18
      refine lv_iconst (v := (0)) hx hb dX12_restore_24 (by decide) ?_
      refine lv_istore_n (lv' := [(2, .int (0)), (0, .ref (ad 0)), (1, .int (v1))]) hx hb dX12_restore_25 rfl hl (by decide) rfl (fun ls hl => ?_)
      obtain ⟨n19, h⟩ := h
      exact hL26   n19 (0) M14 H locs ls G  (lv_sub hl [1, 2, 0] rfl) h
    have h := h.1 c18
    refine gq_ldc (v := (-1000002)) X qw_19_14 dX12_restore_21 ?_
    exact gq_iret X G h dX12_restore_23
  have h := h.1 c16
  refine gq_ldc (v := (-1000001)) X qw_7_8 dX12_restore_9 ?_
  exact gq_iret X G h dX12_restore_11
def f_X12_kind (v1 : Int32) (M : Mm) (K : Int32 → Mm → Prop) : Prop := (f_X12_isOne (v1) M (fun r2 M1 => ((((r2 : Int32) = 0 : Prop) → K (-1000001) M1) ∧ (¬ ((r2 : Int32) = 0 : Prop) → (vp_in (28 + v1) 33 ∧ K (M1 7 (28 + v1 : Int32).toNatClampNeg) M1)))))
set_option maxHeartbeats 4000000 in
set_option maxRecDepth 100000 in
theorem m_X12_kind (hI : gI 17 ad) {v1 : Int32} {M : Mm} {K : Int32 → Mm → Prop} (h : f_X12_kind v1 M K) : gM l D cy 17 ad (shR ad cy) yX12_kind cX12_kind 2 (some .int) 2 43 [.ref (ad 0), .int (v1)] M (gQi D 17 ad (shR ad cy) K) := by
  refine gM.of (own := RX12) (lv := [(0, .ref (ad 0)), (1, .int (v1))]) (by decide) rfl hI (Nat.le_of_ble_eq_true rfl) rfl ?_
  intro p e s m below meth c ls H locs X G hl
  have hx := X.1
  have hb := X.2.1
  unfold f_X12_kind at h
  refine lv_aload_n hx hb dX12_kind_0 rfl (lv_at hl 0 rfl) ?_
  refine lv_iload_n hx hb dX12_kind_1 rfl (lv_at hl 1 rfl) ?_
  refine gq_calli G (gc_V (C := RX12) (rest := []) X hl.1 G (m_X12_isOne hI  h) cw_X12_isOne qw_23_3 qw_23_4 qw_23_5 ob_Model rfl rfl rfl rfl (Nat.le_of_ble_eq_true rfl) ⟨Nat.le_of_ble_eq_true rfl, Nat.le_of_ble_eq_true rfl⟩ ⟨Nat.le_refl _, Nat.le_refl _⟩ dX12_kind_2) (fun r2 M1 H locs G h => ?_)
  refine lv_if_eq (tgt := 20) hx hb dX12_kind_5 (by decide) (fun c3 => ?_) (fun c3 => ?_)
  · have h := h.1 c3
    refine gq_ldc (v := (-1000001)) X qw_7_8 dX12_kind_20 ?_
    exact gq_iret X G h dX12_kind_22
  have h := h.2 c3
  refine lv_aload_n hx hb dX12_kind_8 rfl (lv_at hl 0 rfl) ?_
  refine gf_Model_told X G qw_5_13 dX12_kind_9 ?_
  refine lv_bipush (v := (28)) hx hb dX12_kind_12 (by decide) ?_
  refine lv_iload_n hx hb dX12_kind_14 rfl (lv_at hl 1 rfl) ?_
  refine lv_iadd hx hb dX12_kind_15 ?_
  obtain ⟨q4, h⟩ := h
  refine gq_iald X G rr_7 q4 dX12_kind_16 ?_
  refine lv_goto (tgt := 22) hx hb dX12_kind_17 (by decide) ?_
  exact gq_iret X G h dX12_kind_22
def f_X12_as_64 (K : Int32 → Mm → Prop) (v1 : Int32) (s0 : Int32) (M : Mm) : Prop := ((((s0 : Int32) = 0 : Prop) → (f_X12_found (3) M (fun r3 M2 => K (r3) M2))) ∧ (¬ ((s0 : Int32) = 0 : Prop) → (f_X12_well (v1) M (fun r5 M4 => K (r5) M4))))
def f_X12_as_63 (K : Int32 → Mm → Prop) (v1 : Int32) (M : Mm) : Prop := f_X12_as_64 K (v1) (0) M
def f_X12_as_59 (K : Int32 → Mm → Prop) (v1 : Int32) (M : Mm) : Prop := f_X12_as_64 K (v1) (1) M
def f_X12_as_49 (K : Int32 → Mm → Prop) (v1 : Int32) (v2 : Int32) (v3 : Int32) (M : Mm) : Prop := ((((v2 : Int32) = 4 : Prop) → ((((v3 : Int32) = 5 : Prop) → f_X12_as_59 K (v1) M) ∧ (¬ ((v3 : Int32) = 5 : Prop) → f_X12_as_63 K (v1) M))) ∧ (¬ ((v2 : Int32) = 4 : Prop) → f_X12_as_63 K (v1) M))
def f_X12_as (v1 : Int32) (v2 : Int32) (M : Mm) (K : Int32 → Mm → Prop) : Prop := (f_X12_isOne (v1) M (fun r9 M8 => ((((r9 : Int32) = 0 : Prop) → K (-1000001) M8) ∧ (¬ ((r9 : Int32) = 0 : Prop) → (f_X12_in (v2) (0) (5) M8 (fun r12 M11 => ((((r12 : Int32) = 0 : Prop) → K (-1000001) M11) ∧ (¬ ((r12 : Int32) = 0 : Prop) → (vp_in (28 + v1) 33 ∧ ((((v2 : Int32) = 0 : Prop) → f_X12_as_59 K (v1) M11) ∧ (¬ ((v2 : Int32) = 0 : Prop) → ((((v2 : Int32) = M11 7 (28 + v1 : Int32).toNatClampNeg : Prop) → f_X12_as_59 K (v1) M11) ∧ (¬ ((v2 : Int32) = M11 7 (28 + v1 : Int32).toNatClampNeg : Prop) → ((((v2 : Int32) = 1 : Prop) → ((((M11 7 (28 + v1 : Int32).toNatClampNeg : Int32) ≤ 3 : Prop) → f_X12_as_59 K (v1) M11) ∧ (¬ ((M11 7 (28 + v1 : Int32).toNatClampNeg : Int32) ≤ 3 : Prop) → f_X12_as_49 K (v1) (v2) (M11 7 (28 + v1 : Int32).toNatClampNeg) M11))) ∧ (¬ ((v2 : Int32) = 1 : Prop) → f_X12_as_49 K (v1) (v2) (M11 7 (28 + v1 : Int32).toNatClampNeg) M11)))))))))))))))
set_option maxHeartbeats 4000000 in
set_option maxRecDepth 100000 in
theorem m_X12_as (hI : gI 17 ad) {v1 : Int32} {v2 : Int32} {M : Mm} {K : Int32 → Mm → Prop} (h : f_X12_as v1 v2 M K) : gM l D cy 17 ad (shR ad cy) yX12_as cX12_as 5 (some .int) 2 43 [.ref (ad 0), .int (v1), .int (v2)] M (gQi D 17 ad (shR ad cy) K) := by
  refine gM.of (own := RX12) (lv := [(0, .ref (ad 0)), (1, .int (v1)), (2, .int (v2))]) (by decide) rfl hI (Nat.le_of_ble_eq_true rfl) rfl ?_
  intro p e s m below meth c ls H locs X G hl
  have hx := X.1
  have hb := X.2.1
  have hJ64 : ∀ (s0 : Int32) (M : Mm) (H : Heap) (locs : List Loc) (ls : Array Slot), gS D s 17 ad (shR ad cy) H locs M → lv_has ls 5 [(0, .ref (ad 0)), (1, .int (v1))] → f_X12_as_64 K v1 s0 M → gWk p l e 2 43 s m ([.ref (ad 0), .int (v1), .int (v2)] : List Value).toArray below meth c H locs (gQi D 17 ad (shR ad cy) K) 17 ad 64 ls [.int (s0)] := by
    intro s0 M H locs ls G hl h
    unfold f_X12_as_64 at h
    refine lv_istore (lv' := [(4, .int (s0)), (0, .ref (ad 0)), (1, .int (v1))]) hx hb dX12_as_64 hl (by decide) rfl (fun ls hl => ?_)
    refine lv_iload hx hb dX12_as_66 (lv_at hl 0 rfl) ?_
    refine lv_if_eq (tgt := 79) hx hb dX12_as_68 (by decide) (fun c1 => ?_) (fun c1 => ?_)
    · have h := h.1 c1
      refine lv_aload_n hx hb dX12_as_79 rfl (lv_at hl 1 rfl) ?_
      refine lv_iconst (v := (3)) hx hb dX12_as_80 (by decide) ?_
      refine gq_calli G (gc_V (C := RX12) (rest := []) X hl.1 G (m_X12_found hI  h) cw_X12_found qw_7_15 qw_7_16 qw_7_17 ob_Model rfl rfl rfl rfl (Nat.le_of_ble_eq_true rfl) ⟨Nat.le_of_ble_eq_true rfl, Nat.le_of_ble_eq_true rfl⟩ ⟨Nat.le_refl _, Nat.le_refl _⟩ dX12_as_81) (fun r3 M2 H locs G h => ?_)
      exact gq_iret X G h dX12_as_84
    have h := h.2 c1
    refine lv_aload_n hx hb dX12_as_71 rfl (lv_at hl 1 rfl) ?_
    refine lv_iload_n hx hb dX12_as_72 rfl (lv_at hl 2 rfl) ?_
    refine gq_calli G (gc_V (C := RX12) (rest := []) X hl.1 G (m_X12_well hI  h) cw_X12_well qw_7_21 qw_7_22 qw_7_23 ob_Model rfl rfl rfl rfl (Nat.le_of_ble_eq_true rfl) ⟨Nat.le_of_ble_eq_true rfl, Nat.le_of_ble_eq_true rfl⟩ ⟨Nat.le_refl _, Nat.le_refl _⟩ dX12_as_73) (fun r5 M4 H locs G h => ?_)
    refine lv_goto (tgt := 84) hx hb dX12_as_76 (by decide) ?_
    exact gq_iret X G h dX12_as_84
  have hJ63 : ∀ (M : Mm) (H : Heap) (locs : List Loc) (ls : Array Slot), gS D s 17 ad (shR ad cy) H locs M → lv_has ls 5 [(0, .ref (ad 0)), (1, .int (v1))] → f_X12_as_63 K v1 M → gWk p l e 2 43 s m ([.ref (ad 0), .int (v1), .int (v2)] : List Value).toArray below meth c H locs (gQi D 17 ad (shR ad cy) K) 17 ad 63 ls [] := by
    intro M H locs ls G hl h
    unfold f_X12_as_63 at h
    refine lv_iconst (v := (0)) hx hb dX12_as_63 (by decide) ?_
    exact hJ64  (0) M H locs ls G  (lv_sub hl [0, 1] rfl) h
  have hJ59 : ∀ (M : Mm) (H : Heap) (locs : List Loc) (ls : Array Slot), gS D s 17 ad (shR ad cy) H locs M → lv_has ls 5 [(0, .ref (ad 0)), (1, .int (v1))] → f_X12_as_59 K v1 M → gWk p l e 2 43 s m ([.ref (ad 0), .int (v1), .int (v2)] : List Value).toArray below meth c H locs (gQi D 17 ad (shR ad cy) K) 17 ad 59 ls [] := by
    intro M H locs ls G hl h
    unfold f_X12_as_59 at h
    refine lv_iconst (v := (1)) hx hb dX12_as_59 (by decide) ?_
    refine lv_goto (tgt := 64) hx hb dX12_as_60 (by decide) ?_
    exact hJ64  (1) M H locs ls G  (lv_sub hl [0, 1] rfl) h
  have hJ49 : ∀ (v3 : Int32) (M : Mm) (H : Heap) (locs : List Loc) (ls : Array Slot), gS D s 17 ad (shR ad cy) H locs M → lv_has ls 5 [(0, .ref (ad 0)), (1, .int (v1)), (2, .int (v2)), (3, .int (v3))] → f_X12_as_49 K v1 v2 v3 M → gWk p l e 2 43 s m ([.ref (ad 0), .int (v1), .int (v2)] : List Value).toArray below meth c H locs (gQi D 17 ad (shR ad cy) K) 17 ad 49 ls [] := by
    intro v3 M H locs ls G hl h
    unfold f_X12_as_49 at h
    refine lv_iload_n hx hb dX12_as_49 rfl (lv_at hl 2 rfl) ?_
    refine lv_iconst (v := (4)) hx hb dX12_as_50 (by decide) ?_
    refine lv_icmp_ne (tgt := 63) hx hb dX12_as_51 (by decide) (fun c6 => ?_) (fun c6 => ?_)
    · have h := h.2 c6
      exact hJ63   M H locs ls G  (lv_sub hl [0, 1] rfl) h
    have h := h.1 c6
    refine lv_iload_n hx hb dX12_as_54 rfl (lv_at hl 3 rfl) ?_
    refine lv_iconst (v := (5)) hx hb dX12_as_55 (by decide) ?_
    refine lv_icmp_ne (tgt := 63) hx hb dX12_as_56 (by decide) (fun c7 => ?_) (fun c7 => ?_)
    · have h := h.2 c7
      exact hJ63   M H locs ls G  (lv_sub hl [0, 1] rfl) h
    have h := h.1 c7
    exact hJ59   M H locs ls G  (lv_sub hl [0, 1] rfl) h
  unfold f_X12_as at h
  refine lv_aload_n hx hb dX12_as_0 rfl (lv_at hl 0 rfl) ?_
  refine lv_iload_n hx hb dX12_as_1 rfl (lv_at hl 1 rfl) ?_
  refine gq_calli G (gc_V (C := RX12) (rest := []) X hl.1 G (m_X12_isOne hI  h) cw_X12_isOne qw_23_3 qw_23_4 qw_23_5 ob_Model rfl rfl rfl rfl (Nat.le_of_ble_eq_true rfl) ⟨Nat.le_of_ble_eq_true rfl, Nat.le_of_ble_eq_true rfl⟩ ⟨Nat.le_refl _, Nat.le_refl _⟩ dX12_as_2) (fun r9 M8 H locs G h => ?_)
  refine lv_if_eq (tgt := 17) hx hb dX12_as_5 (by decide) (fun c10 => ?_) (fun c10 => ?_)
  · have h := h.1 c10
    refine gq_ldc (v := (-1000001)) X qw_7_8 dX12_as_17 ?_
    exact gq_iret X G h dX12_as_19
  have h := h.2 c10
  refine lv_iload_n hx hb dX12_as_8 rfl (lv_at hl 2 rfl) ?_
  refine lv_iconst (v := (0)) hx hb dX12_as_9 (by decide) ?_
  refine lv_iconst (v := (5)) hx hb dX12_as_10 (by decide) ?_
  refine gq_calli G (gc_S (rest := []) X hl.1 G (m_X12_in hI  h) cw_X12_in qw_7_12 qw_7_13 rfl rfl (Nat.le_of_ble_eq_true rfl) ⟨Nat.le_of_ble_eq_true rfl, Nat.le_of_ble_eq_true rfl⟩ ⟨Nat.le_refl _, Nat.le_refl _⟩ dX12_as_11) (fun r12 M11 H locs G h => ?_)
  refine lv_if_ne (tgt := 20) hx hb dX12_as_14 (by decide) (fun c13 => ?_) (fun c13 => ?_)
  · have h := h.2 c13
    refine lv_aload_n hx hb dX12_as_20 rfl (lv_at hl 0 rfl) ?_
    refine gf_Model_told X G qw_5_13 dX12_as_21 ?_
    refine lv_bipush (v := (28)) hx hb dX12_as_24 (by decide) ?_
    refine lv_iload_n hx hb dX12_as_26 rfl (lv_at hl 1 rfl) ?_
    refine lv_iadd hx hb dX12_as_27 ?_
    obtain ⟨q14, h⟩ := h
    refine gq_iald X G rr_7 q14 dX12_as_28 ?_
    refine lv_istore_n (lv' := [(3, .int (M11 7 (28 + v1 : Int32).toNatClampNeg)), (0, .ref (ad 0)), (1, .int (v1)), (2, .int (v2))]) hx hb dX12_as_29 rfl hl (by decide) rfl (fun ls hl => ?_)
    refine lv_iload_n hx hb dX12_as_30 rfl (lv_at hl 3 rfl) ?_
    refine lv_if_eq (tgt := 59) hx hb dX12_as_31 (by decide) (fun c15 => ?_) (fun c15 => ?_)
    · have h := h.1 c15
      exact hJ59   M11 H locs ls G  (lv_sub hl [1, 2] rfl) h
    have h := h.2 c15
    refine lv_iload_n hx hb dX12_as_34 rfl (lv_at hl 3 rfl) ?_
    refine lv_iload_n hx hb dX12_as_35 rfl (lv_at hl 0 rfl) ?_
    refine lv_icmp_eq (tgt := 59) hx hb dX12_as_36 (by decide) (fun c16 => ?_) (fun c16 => ?_)
    · have h := h.1 c16
      exact hJ59   M11 H locs ls G  (lv_sub hl [1, 2] rfl) h
    have h := h.2 c16
    refine lv_iload_n hx hb dX12_as_39 rfl (lv_at hl 3 rfl) ?_
    refine lv_iconst (v := (1)) hx hb dX12_as_40 (by decide) ?_
    refine lv_icmp_ne (tgt := 49) hx hb dX12_as_41 (by decide) (fun c17 => ?_) (fun c17 => ?_)
    · have h := h.2 c17
      exact hJ49 (M11 7 (28 + v1 : Int32).toNatClampNeg)  M11 H locs ls G  (lv_sub hl [1, 2, 3, 0] rfl) h
    have h := h.1 c17
    refine lv_iload_n hx hb dX12_as_44 rfl (lv_at hl 0 rfl) ?_
    refine lv_iconst (v := (3)) hx hb dX12_as_45 (by decide) ?_
    refine lv_icmp_le (tgt := 59) hx hb dX12_as_46 (by decide) (fun c18 => ?_) (fun c18 => ?_)
    · have h := h.1 c18
      exact hJ59   M11 H locs ls G  (lv_sub hl [1, 2] rfl) h
    have h := h.2 c18
    exact hJ49 (M11 7 (28 + v1 : Int32).toNatClampNeg)  M11 H locs ls G  (lv_sub hl [1, 2, 3, 0] rfl) h
  have h := h.1 c13
  refine gq_ldc (v := (-1000001)) X qw_7_8 dX12_as_17 ?_
  exact gq_iret X G h dX12_as_19
end GEN09
