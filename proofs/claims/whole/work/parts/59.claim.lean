theorem inv0 : Inv Mc0 Mr0 := by
  have z : ∀ k j, ¬ (2 ≤ k ∧ k < 18) → Mc0 k j = 0 := fun k j h => if_neg (fun q => h ⟨q.1, q.2.1⟩)
  have w : ∀ k j, k ≠ 1 → Mr0 k j = 0 := fun k j h => if_neg (fun q => h q.1)
  refine ⟨fun r hr => Or.inl ⟨if_pos ⟨by omega, by omega, by omega, rfl⟩, if_pos ⟨rfl, hr⟩⟩, by rw [z 0 11 (by omega), w 0 4 (by omega)], by rw [z 0 12 (by omega), w 0 12 (by omega)], ⟨0, by omega, z 24 1 (by omega), w 0 6 (by omega), fun j hj => by omega⟩, ⟨0, by omega, z 64 1 (by omega), w 0 26 (by omega), fun j hj => by omega⟩, fun _ => 0, ?_, ⟨fun i hi => w 7 i (by omega), fun j hj => w 9 j (by omega)⟩, ⟨0, 0, by omega, by omega, z 0 9 (by omega), z 0 10 (by omega), w 0 19 (by omega), fun j hj => by omega⟩, Or.inl ⟨w 14 0 (by omega), z 41 8 (by omega)⟩, Or.inl ⟨w 14 1 (by omega), z 48 8 (by omega)⟩, Or.inl ⟨w 0 20 (by omega), fun _ => rfl, w 14 0 (by omega), w 14 1 (by omega), w 0 19 (by omega)⟩⟩
  exact ⟨⟨z 26 7 (by omega), z 26 8 (by omega), z 26 9 (by omega), z 26 10 (by omega), z 26 11 (by omega), z 26 12 (by omega), z 26 13 (by omega)⟩, fun c hc => absurd hc (Nat.not_lt_zero _), fun c hc => absurd hc (Nat.not_lt_zero _), fun c hc => absurd hc (Nat.not_lt_zero _)⟩
section LOOP
variable {p : Program} {l : Launch} {e : Env} {s : State} {m : MethodId} {below : List Frame} {meth : Method} {c : Code} {ls : Array Slot} {D : va_G} {cy : Nat → ClassId} {b L : Nat} {xs : Nat → Int32} {adC adR : Nat → Nat}
set_option maxHeartbeats 4000000 in
set_option maxRecDepth 100000 in
theorem lw_loop (X : lwX p s m meth c b L xs D cy adC adR) (hL : L ≤ 384) : ∀ (n i : Nat), i ≤ L → L + 1 ≤ i + n → ∀ (Mc Mr : Mm) (H : Heap) (locs : List Loc) (ls : Array Slot), lwG D s cy adC adR Mc Mr H locs → Inv Mc Mr → lv_has ls 4 [(0, .ref b), (1, .ref (adC 0)), (2, .ref (adR 0)), (3, .int (nI i))] → W p l e room_1 s m #[Value.ref b] below meth c H locs 108 2818 (lw_Z below #[Value.ref b] s) (F0 m 18 ls []) := by
  have hx := X.1.1
  have hb := X.1.2.1
  have hr := X.1.2.2.1
  have hlocks := X.1.2.2.2.2.2.2.2.2.1
  have hXs := X.1.2.2.2.2.2.2.1
  have hbl := X.1.2.2.2.2.2.2.2.1
  have hbA : ¬ lwA s b := Nat.not_le.mpr hbl
  intro n
  induction n with
  | zero => intro i h1 h2; omega
  | succ n ih =>
    intro i hi hin Mc Mr H locs ls G hI hl
    refine lv_iload_n hx hb dL_law_18 rfl (lv_at hl 3 rfl) ?_
    refine lv_aload_n hx hb dL_law_19 rfl (lv_at hl 0 rfl) ?_
    refine va_slen hx hb hXs hbl hbA G.2.2 dL_law_20 ?_
    refine lv_bipush (v := 6) hx hb dL_law_21 (by decide) ?_
    refine lv_isub hx hb dL_law_23 ?_
    have eL : (Int32.ofNat L - 6).toInt = (L : Int) - 6 := by
      have e1 : (Int32.ofNat L).toInt = (L : Int) := nI_I (by omega)
      have e6 : (6 : Int32).toInt = 6 := rfl
      rw [i_sub (by rw [e1, e6]; omega) (by rw [e1, e6]; omega), e1, e6]
    refine lv_icmp_gt (tgt := 1309) hx hb dL_law_24 (by decide) (fun c1 => ?_) (fun c1 => ?_)
    · refine lv_iconst (v := 1) hx hb dL_law_1309 (by decide) ?_
      refine va_forget (fun q hq => G.2.2.2.2 q hq) ?_
      refine W.widen (k := 600000) (n := 7302249) (by omega) (by omega) ?_
      exact lw_ret hx hb hr hlocks dL_law_1310
    · rw [lt_I, eL, nI_I (by omega)] at c1
      have h6 : i + 6 ≤ L := by omega
      refine lv_aload_n hx hb dL_law_27 rfl (lv_at hl 0 rfl) ?_
      refine lv_iload_n hx hb dL_law_28 rfl (lv_at hl 3 rfl) ?_
      refine va_sld hx hb hXs hbl hbA G.2.2 (vp_nI (by omega) (by omega)) dL_law_29 ?_
      refine lv_bipush (v := 63) hx hb dL_law_30 (by decide) ?_
      refine lv_iand hx hb dL_law_32 ?_
      have kn : lwN p l e s m below meth c D cy b adC adR (lw_Z below #[Value.ref b] s) ls := by
        intro Mc1 Mr1 H1 locs1 G1 I1
        refine lv_iinc (v := nI (i + 6)) (lv' := [(3, .int (nI (i + 6))), (0, .ref b), (1, .ref (adC 0)), (2, .ref (adR 0))]) hx hb dL_law_1303 hl (k := 3) rfl (nI_add i 6) (by decide) rfl (fun ls1 hl1 => ?_)
        refine lv_goto (tgt := 18) hx hb dL_law_1306 (by decide) ?_
        exact ih (i + 6) h6 (by omega) Mc1 Mr1 H1 locs1 ls1 G1 I1 (lv_sub hl1 [1, 2, 3, 0] rfl)
      obtain ⟨j, hj, ej⟩ := pk_andE (xs (nI i).toNatClampNeg) (m := 63) 6 (by decide)
      rw [ej]
      rcases (show j = 0 ∨ j = 1 ∨ j = 2 ∨ j = 3 ∨ j = 4 ∨ j = 5 ∨ j = 6 ∨ j = 7 ∨ j = 8 ∨ j = 9 ∨ j = 10 ∨ j = 11 ∨ j = 12 ∨ j = 13 ∨ j = 14 ∨ j = 15 ∨ j = 16 ∨ j = 17 ∨ j = 18 ∨ j = 19 ∨ j = 20 ∨ j = 21 ∨ j = 22 ∨ j = 23 ∨ j = 24 ∨ j = 25 ∨ j = 26 ∨ j = 27 ∨ j = 28 ∨ j = 29 ∨ j = 30 ∨ j = 31 ∨ j = 32 ∨ j = 33 ∨ j = 34 ∨ 35 ≤ j by omega) with rfl | rfl | rfl | rfl | rfl | rfl | rfl | rfl | rfl | rfl | rfl | rfl | rfl | rfl | rfl | rfl | rfl | rfl | rfl | rfl | rfl | rfl | rfl | rfl | rfl | rfl | rfl | rfl | rfl | rfl | rfl | rfl | rfl | rfl | rfl | hj
      · exact lv_tableIn (off := 155) (tgt := 188) hx hb dL_law_33 (by decide) (by decide) (by decide) (by decide) (lc_0 X hL G hI h6 hl kn)
      · exact lv_tableIn (off := 198) (tgt := 231) hx hb dL_law_33 (by decide) (by decide) (by decide) (by decide) (lc_1 X hL G hI h6 hl kn)
      · exact lv_tableIn (off := 241) (tgt := 274) hx hb dL_law_33 (by decide) (by decide) (by decide) (by decide) (lc_2 X hL G hI h6 hl kn)
      · exact lv_tableIn (off := 304) (tgt := 337) hx hb dL_law_33 (by decide) (by decide) (by decide) (by decide) (lc_3 X hL G hI h6 hl kn)
      · exact lv_tableIn (off := 327) (tgt := 360) hx hb dL_law_33 (by decide) (by decide) (by decide) (by decide) (lc_4 X hL G hI h6 hl kn)
      · exact lv_tableIn (off := 350) (tgt := 383) hx hb dL_law_33 (by decide) (by decide) (by decide) (by decide) (lc_5 X hL G hI h6 hl kn)
      · exact lv_tableIn (off := 363) (tgt := 396) hx hb dL_law_33 (by decide) (by decide) (by decide) (by decide) (lc_6 X hL G hI h6 hl kn)
      · exact lv_tableIn (off := 376) (tgt := 409) hx hb dL_law_33 (by decide) (by decide) (by decide) (by decide) (lc_7 X hL G hI h6 hl kn)
      · exact lv_tableIn (off := 399) (tgt := 432) hx hb dL_law_33 (by decide) (by decide) (by decide) (by decide) (lc_8 X hL G hI h6 hl kn)
      · exact lv_tableIn (off := 432) (tgt := 465) hx hb dL_law_33 (by decide) (by decide) (by decide) (by decide) (lc_9 X hL G hI h6 hl kn)
      · exact lv_tableIn (off := 465) (tgt := 498) hx hb dL_law_33 (by decide) (by decide) (by decide) (by decide) (lc_10 X hL G hI h6 hl kn)
      · exact lv_tableIn (off := 498) (tgt := 531) hx hb dL_law_33 (by decide) (by decide) (by decide) (by decide) (lc_11 X hL G hI h6 hl kn)
      · exact lv_tableIn (off := 511) (tgt := 544) hx hb dL_law_33 (by decide) (by decide) (by decide) (by decide) (lc_12 X hL G hI h6 hl kn)
      · exact lv_tableIn (off := 544) (tgt := 577) hx hb dL_law_33 (by decide) (by decide) (by decide) (by decide) (lc_13 X hL G hI h6 hl kn)
      · exact lv_tableIn (off := 577) (tgt := 610) hx hb dL_law_33 (by decide) (by decide) (by decide) (by decide) (lc_14 X hL G hI h6 hl kn)
      · exact lv_tableIn (off := 610) (tgt := 643) hx hb dL_law_33 (by decide) (by decide) (by decide) (by decide) (lc_15 X hL G hI h6 hl kn)
      · exact lv_tableIn (off := 653) (tgt := 686) hx hb dL_law_33 (by decide) (by decide) (by decide) (by decide) (lc_16 X hL G hI h6 hl kn)
      · exact lv_tableIn (off := 676) (tgt := 709) hx hb dL_law_33 (by decide) (by decide) (by decide) (by decide) (lc_17 X hL G hI h6 hl kn)
      · exact lv_tableIn (off := 699) (tgt := 732) hx hb dL_law_33 (by decide) (by decide) (by decide) (by decide) (lc_18 X hL G hI h6 hl kn)
      · exact lv_tableIn (off := 742) (tgt := 775) hx hb dL_law_33 (by decide) (by decide) (by decide) (by decide) (lc_19 X hL G hI h6 hl kn)
      · exact lv_tableIn (off := 765) (tgt := 798) hx hb dL_law_33 (by decide) (by decide) (by decide) (by decide) (lc_20 X hL G hI h6 hl kn)
      · exact lv_tableIn (off := 798) (tgt := 831) hx hb dL_law_33 (by decide) (by decide) (by decide) (by decide) (lc_21 X hL G hI h6 hl kn)
      · exact lv_tableIn (off := 851) (tgt := 884) hx hb dL_law_33 (by decide) (by decide) (by decide) (by decide) (lc_22 X hL G hI h6 hl kn)
      · exact lv_tableIn (off := 874) (tgt := 907) hx hb dL_law_33 (by decide) (by decide) (by decide) (by decide) (lc_23 X hL G hI h6 hl kn)
      · exact lv_tableIn (off := 907) (tgt := 940) hx hb dL_law_33 (by decide) (by decide) (by decide) (by decide) (lc_24 X hL G hI h6 hl kn)
      · exact lv_tableIn (off := 970) (tgt := 1003) hx hb dL_law_33 (by decide) (by decide) (by decide) (by decide) (lc_25 X hL G hI h6 hl kn)
      · exact lv_tableIn (off := 1033) (tgt := 1066) hx hb dL_law_33 (by decide) (by decide) (by decide) (by decide) (lc_26 X hL G hI h6 hl kn)
      · exact lv_tableIn (off := 1076) (tgt := 1109) hx hb dL_law_33 (by decide) (by decide) (by decide) (by decide) (lc_27 X hL G hI h6 hl kn)
      · exact lv_tableIn (off := 1099) (tgt := 1132) hx hb dL_law_33 (by decide) (by decide) (by decide) (by decide) (lc_28 X hL G hI h6 hl kn)
      · exact lv_tableIn (off := 1122) (tgt := 1155) hx hb dL_law_33 (by decide) (by decide) (by decide) (by decide) (lc_29 X hL G hI h6 hl kn)
      · exact lv_tableIn (off := 1145) (tgt := 1178) hx hb dL_law_33 (by decide) (by decide) (by decide) (by decide) (lc_30 X hL G hI h6 hl kn)
      · exact lv_tableIn (off := 1178) (tgt := 1211) hx hb dL_law_33 (by decide) (by decide) (by decide) (by decide) (lc_31 X hL G hI h6 hl kn)
      · exact lv_tableIn (off := 1211) (tgt := 1244) hx hb dL_law_33 (by decide) (by decide) (by decide) (by decide) (lc_32 X hL G hI h6 hl kn)
      · exact lv_tableIn (off := 1234) (tgt := 1267) hx hb dL_law_33 (by decide) (by decide) (by decide) (by decide) (lc_33 X hL G hI h6 hl kn)
      · exact lv_tableIn (off := 1257) (tgt := 1290) hx hb dL_law_33 (by decide) (by decide) (by decide) (by decide) (lc_34 X hL G hI h6 hl kn)
      · exact lv_tableOut (tgt := 1303) hx hb dL_law_33 (Or.inr (by rw [nI_I (by omega)]; omega)) (by decide) (kn _ _ _ _ G hI)
end LOOP
theorem perm_lt {k : Nat} (h : k < 91) : perm k < 91 := by
  unfold perm
  split
  · omega
  · split <;> omega
theorem perm_I (k : Nat) : permI (perm k) = k := by
  unfold perm permI
  by_cases h : k = 63
  · rw [if_pos h, if_pos rfl]; exact h.symm
  · rw [if_neg h]
    by_cases h2 : 56 ≤ k ∧ k ≤ 62
    · rw [if_pos h2, if_neg (by omega), if_pos (by omega)]; omega
    · rw [if_neg h2, if_neg (by omega), if_neg (by omega)]
set_option maxHeartbeats 4000000 in
set_option maxRecDepth 100000 in
/-- THE LAW, from its entry -/
theorem whole_start {p : Program} {e : Env} {s : State} {m : MethodId} {below : List Frame} {meth : Method} {c : Code} (l : Launch) {b L : Nat} {xs : Nat → Int32} (hL : L ≤ 384) (C0 : lw_At p s m meth c b L xs) : W p l e room_1 s m #[Value.ref b] below meth c s.heap [] 0 0 (lw_Z below #[Value.ref b] s) (entryFrame m ([Value.ref b] : List Value).toArray 4) := by
  obtain ⟨hx, hb, hr, hml, hown, hts, hX, hbl, hlocks, hgv⟩ := id C0
  obtain ⟨D, cy, hK⟩ := en_all hts hgv
  have X : nX p s m #[Value.ref b] meth c code 4 RL D cy := ⟨hx, hb, hml, hown, fun w hw => hts w (tl_all w hw), hK, hlocks⟩
  have G : nS D s (lwA s) 0 (fun _ => 0) (fun _ => .inr (0, [])) s.heap [] := ⟨fun k q h => by simp [gL] at h, ⟨fun i j p q h => by simp [gL] at h, fun k q h => by simp [gL] at h⟩, va_S.rf, fun q h => h⟩
  have hl := lv_entry ([.ref b]) (n := 4) (Nat.le_of_ble_eq_true rfl)
  rw [lg_entry_eq]
  generalize (lg_sl ([.ref b]) ++ List.replicate (4 - (lg_sl ([.ref b])).length) Slot.unset).toArray = ls at hl ⊢
  have hl : lv_has ls 4 [(0, .ref b)] := hl

  refine nn_new (ci := 10) (C := RX11) (T := TX11) (Nf := 13) (fs := [.null, .null, .null, .null, .null, .null, .null, .null, .null, .int 0, .int 0, .int 0, .int 0]) X G rfl inlX11 tyX11 tyX11_ok qw_1_0 qw_1_1 qw_1_2 (fun j hj => by rcases (show j = 0 ∨ j = 1 ∨ j = 2 ∨ j = 3 ∨ j = 4 ∨ j = 5 ∨ j = 6 ∨ j = 7 ∨ j = 8 ∨ j = 9 ∨ j = 10 ∨ j = 11 ∨ j = 12 by omega) with rfl | rfl | rfl | rfl | rfl | rfl | rfl | rfl | rfl | rfl | rfl | rfl | rfl <;> rfl) (Nat.le_of_ble_eq_true rfl) (Nat.le_of_ble_eq_true rfl) dL_law_0 (fun q1 H G => ?_)
  refine lv_dup hx hb dL_law_3 rfl ?_
  refine nn_callI (rest := [.ref q1]) (As := []) (x0 := (.inr (10, [.null, .null, .null, .null, .null, .null, .null, .null, .null, .int 0, .int 0, .int 0, .int 0]))) X hl.1 G rfl mk_X11 rfl (by decide +kernel) cw_X11_init qw_1_6 qw_1_7 rfl rfl rfl (Nat.le_of_ble_eq_true rfl) ⟨(Nat.le_of_ble_eq_true rfl), (Nat.le_of_ble_eq_true rfl)⟩ ⟨(Nat.le_of_ble_eq_true rfl), (Nat.le_of_ble_eq_true rfl)⟩ dL_law_4 (fun qc H locs hq G => ?_)
  subst hq
  refine lv_astore_n (lv' := [(1, .ref (qc 0)), (0, .ref b)]) hx hb dL_law_7 rfl hl (by decide) rfl (fun ls hl => ?_)
  refine nn_new (ci := 11) (C := RX12) (T := TX12) (Nf := 27) (fs := [.null, .null, .null, .null, .int 0, .null, .int 0, .int 0, .int 0, .int 0, .int 0, .int 0, .int 0, .null, .null, .null, .null, .null, .null, .int 0, .int 0, .null, .null, .null, .null, .null, .int 0]) X G rfl inlX12 tyX12 tyX12_ok qw_1_3 qw_1_4 qw_1_5 (fun j hj => by rcases (show j = 0 ∨ j = 1 ∨ j = 2 ∨ j = 3 ∨ j = 4 ∨ j = 5 ∨ j = 6 ∨ j = 7 ∨ j = 8 ∨ j = 9 ∨ j = 10 ∨ j = 11 ∨ j = 12 ∨ j = 13 ∨ j = 14 ∨ j = 15 ∨ j = 16 ∨ j = 17 ∨ j = 18 ∨ j = 19 ∨ j = 20 ∨ j = 21 ∨ j = 22 ∨ j = 23 ∨ j = 24 ∨ j = 25 ∨ j = 26 by omega) with rfl | rfl | rfl | rfl | rfl | rfl | rfl | rfl | rfl | rfl | rfl | rfl | rfl | rfl | rfl | rfl | rfl | rfl | rfl | rfl | rfl | rfl | rfl | rfl | rfl | rfl | rfl <;> rfl) (Nat.le_of_ble_eq_true rfl) (Nat.le_of_ble_eq_true rfl) dL_law_8 (fun q2 H G => ?_)
  refine lv_dup hx hb dL_law_11 rfl ?_
  refine nn_callI (rest := [.ref q2]) (As := []) (x0 := (.inr (11, [.null, .null, .null, .null, .int 0, .null, .int 0, .int 0, .int 0, .int 0, .int 0, .int 0, .int 0, .null, .null, .null, .null, .null, .null, .int 0, .int 0, .null, .null, .null, .null, .null, .int 0]))) X hl.1 G rfl mk_X12 rfl (by decide +kernel) cw_X12_init qw_5_2 qw_5_3 rfl rfl rfl (Nat.le_of_ble_eq_true rfl) ⟨(Nat.le_of_ble_eq_true rfl), (Nat.le_of_ble_eq_true rfl)⟩ ⟨(Nat.le_of_ble_eq_true rfl), (Nat.le_of_ble_eq_true rfl)⟩ dL_law_12 (fun qr H locs hq G => ?_)
  subst hq
  refine lv_astore_n (lv' := [(2, .ref (qr 0)), (1, .ref (qc 0)), (0, .ref b)]) hx hb dL_law_15 rfl hl (by decide) rfl (fun ls hl => ?_)
  refine lv_iconst (v := 0) hx hb dL_law_16 (by decide) ?_
  refine lv_istore_n (lv' := [(3, .int 0), (2, .ref (qr 0)), (1, .ref (qc 0)), (0, .ref b)]) hx hb dL_law_17 rfl hl (by decide) rfl (fun ls hl => ?_)
  have cC : ∀ k, k < 91 → cat (0 + 91) (cat 0 (fun _ => 0) qc) qr (perm k) = qc (perm k) := fun k hk => by
    have := perm_lt hk
    unfold cat
    rw [if_pos (by omega), if_neg (by omega), Nat.sub_zero]
  have cR : ∀ j, cat (0 + 91) (cat 0 (fun _ => 0) qc) qr (91 + j) = qr j := fun j => cat_hi (by omega)
  have eC : ∀ k, k < 91 → cat (0 + 91) (cat 0 (fun _ => (.inr (0, []) : va_E)) (xPH cy qc)) (xMo cy qr) (perm k) = shC (fun k => qc (perm k)) cy k (Mc0 k) := fun k hk => by
    have := perm_lt hk
    unfold cat
    rw [if_pos (by omega), if_neg (by omega), Nat.sub_zero]
    unfold xPH
    rw [perm_I]
  have eR : ∀ j, cat (0 + 91) (cat 0 (fun _ => (.inr (0, []) : va_E)) (xPH cy qc)) (xMo cy qr) (91 + j) = shR qr cy j (Mr0 j) := fun j => by
    rw [cat_hi (j := j) (by omega)]
    rfl
  have gC : ∀ k, k < 91 → (gL (0 + 91 + 17) (cat (0 + 91) (cat 0 (fun _ => 0) qc) qr) (cat (0 + 91) (cat 0 (fun _ => (.inr (0, []) : va_E)) (xPH cy qc)) (xMo cy qr)))[perm k]? = some (qc (perm k), shC (fun k => qc (perm k)) cy k (Mc0 k)) := fun k hk => by
    have := perm_lt hk
    rw [gL_get (by omega), cC k hk, eC k hk]
  have gR : ∀ j, j < 17 → (gL (0 + 91 + 17) (cat (0 + 91) (cat 0 (fun _ => 0) qc) qr) (cat (0 + 91) (cat 0 (fun _ => (.inr (0, []) : va_E)) (xPH cy qc)) (xMo cy qr)))[91 + j]? = some (qr j, shR qr cy j (Mr0 j)) := fun j hj => by
    rw [gL_get (by omega), cR j, eR j]
  have XL : lwX p s m meth c b L xs D cy (fun k => qc (perm k)) qr := by
    refine ⟨C0, hK, fun i j hi hj h => ?_, fun i j hi hj h => ?_, fun i j hi hj h => ?_, fun i hi => G.2.1.2 _ _ (gC i hi), fun j hj => G.2.1.2 _ _ (gR j hj)⟩
    · have := G.2.1.1 _ _ _ _ (gC i hi) (gC j hj) h
      rw [← perm_I i, ← perm_I j, this]
    · have := G.2.1.1 _ _ _ _ (gR i hi) (gR j hj) h
      omega
    · have := G.2.1.1 _ _ _ _ (gC i hi) (gR j hj) h
      have := perm_lt hi
      omega
  have GL : lwG D s cy (fun k => qc (perm k)) qr Mc0 Mr0 H locs := by
    refine ⟨fun k q hq => ?_, fun k q hq => ?_, G.2.2.1⟩
    · obtain ⟨hk, rfl⟩ := gW_of hq
      exact G.1 _ _ (gC k hk)
    · obtain ⟨hk, rfl⟩ := gW_of hq
      exact G.1 _ _ (gR k hk)
  exact lw_loop XL hL (L + 1) 0 (Nat.zero_le L) (by omega) Mc0 Mr0 H locs ls GL inv0 (lv_sub hl [3, 2, 1, 0] rfl)
set_option maxHeartbeats 4000000 in
theorem lw_walk (l : Launch) (b : Addr) (xs : List Int32) : MetFree l x (headSpec (Jvm.Cond.code x code maxLocals ret :: tables_1) room_1) (lw_P b xs) (fun _ _ _ _ _ => True) lw_Q := by
  refine MetFree.of_bodyS (code := code) (maxLocals := maxLocals) (ret := ret) (by decide) ?_ ?_
  · intro args s m h hn
    obtain ⟨meth, c, h1, h2, h3, h4, h5, h6, -, -⟩ := Cond.code_spec hn (atoms_spec (ws := Jvm.Cond.code x code maxLocals ret :: tables_1) h _ List.mem_cons_self)
    exact ⟨meth, c, h1, h2, h3, h4, h5, h6⟩
  · intro p e s m args below meth c s₁ B hml0 hP _
    obtain ⟨rfl, hx, hbd, hgv⟩ := hP
    obtain ⟨scr, harrAt, hlist, hof, hsmall⟩ := hx
    obtain ⟨hcb, hkn, -, -⟩ := State.arrayAt?_spec harrAt
    have hown : s.vm.findClass R_law = some m.cls := findClass_of_methodNamed B.named
    have hts0 : ∀ c ∈ (Jvm.Cond.code x code maxLocals ret :: tables_1), c.before #[Value.ref b] s = true := atoms_spec (ws := Jvm.Cond.code x code maxLocals ret :: tables_1) B.pre
    have hts : ∀ w ∈ lw_tbl, w.before #[Value.ref b] s = true := k2_hts_sels lw_privs (fun w hw => hts0 w (List.mem_cons_of_mem _ hw)) lw_privs_ok
    have hml : c.maxLocals = 4 := B.maxLocals_eq (hts0 _ List.mem_cons_self)
    have X₀ : Stand p l e room_1 s m #[Value.ref b] below meth c s₁ [] 0 0 := Stand.of_body B
    have hh0 : s₁.heap = s.heap := by rw [B.state]; rfl
    have hsz : scr.slots.size = xs.length := by rw [← Array.length_toList, hlist, List.length_map]
    have hval : ∀ j : Nat, j < xs.length → scr.slots[j]? = some (.int (xs.getD j 0)) := fun j hj => by
      rw [← Array.getElem?_toList, hlist]
      simp [hj]
    have hbl : b < s.heap.size := (Array.getElem?_eq_some_iff.mp hcb).1
    have hX : va_X b xs.length (fun j => xs.getD j 0) s s.heap := ⟨scr, hcb, hof, hkn, hsz, hval⟩
    have K : W p l e room_1 s m #[Value.ref b] below meth c s₁.heap [] 0 0 (lw_Z below #[Value.ref b] s) (entryFrame m ([Value.ref b] : List Value).toArray 4) := by
      rw [hh0]
      exact whole_start l hbd ⟨B.exec, B.bytes, B.returns, hml, hown, hts, hX, hbl, B.notSynchronized, hgv⟩
    obtain ⟨t, a1, o, b1, b2, b3⟩ := K s₁ rfl X₀
    exact ⟨t, o, a1, b1, b2, b3⟩
theorem lw_pre_spec {args : Array Value} {s : State} (h : (Jvm.Cond.and given_1 narrow_1).before args s = true) (hr : rest_1_c.before args s = true) : ∃ (b : Addr) (xs : List Int32), lw_P b xs args s := by
  have hs := flat_of_before _ h
  have hq := flat_of_before _ hr
  have hc : (Cond.count 1).before args s = true := hs _ (by decide +kernel)
  have harr : (Cond.arrayOf (.arg 0) .int).before args s = true := hs _ (by decide +kernel)
  have hle : (Cond.le (.length (.arg 0)) (.int 384)).before args s = true := hs _ (by decide +kernel)
  have hlen : (Cond.isInt (.length (.arg 0))).before args s = true := hq _ (by decide +kernel)
  have hall : (Cond.all (.arg 0) (.isInt (.elem (.arg 0) (.index 0)))).before args s = true := hq _ (by decide +kernel)
  obtain ⟨b, xs, hb, hx⟩ := State.ints_of_pre rfl harr hlen hall
  have hsm : xs.length < 2 ^ 31 := hx.choose_spec.2.2.2
  have hev : (Term.length (.arg 0)).eval args s none [] s = some (.int xs.length.toInt32) := hx.length_eval hb
  have hv := Cond.le_ints hev (show (Term.int 384).eval args s none [] s = some (.int 384) from rfl)
  have hd : xs.length.toInt32 ≤ 384 := by
    simpa [Cond.before, Cond.holds, hv] using hle
  have hN : xs.length ≤ 384 := (Int32.ofNat_le_ofNat hsm (by decide)).mp (show Int32.ofNat xs.length ≤ Int32.ofNat 384 from hd)
  exact ⟨b, xs, Cond.one_arg hc (show args[0]? = some (.ref b) from hb), hx, hN, h⟩
theorem lw_comes (l : Launch) : Comes l x (Jvm.Cond.code x code maxLocals ret :: tables_1) room_1 (fun tb e args s => Calls_1 tb e args s ∧ rest_1 tb e args s ∧ Pre_1 tb e args s)
    (fun _ _ args s o t => lw_Q args s o t) := by
  intro p e ha hc hk s m args below hf hfit hheap happ hpre
  obtain ⟨b, xs, hP⟩ := lw_pre_spec hpre.2.2 hpre.2.1
  obtain ⟨k, o, h1, h2, h3, hQ⟩ := lw_walk l b xs p e ha hc hk s m args below hf ((Spec.applies_iff_loose hf).mp happ).1 hP trivial
  exact ⟨k, o, h1, h2, h3, hQ⟩
theorem lw_frame {s t : State} {o : Outcome} {args : Array Value} (h : Framed s o t [] 600000 7302249) :
    Framed s o t (fieldLocs frame_1_writes args s ++ arrayLocs frame_1_arrays args s ++ staticLocs frame_1_statics s) 600000 7302249 := h
theorem lw_limb (L : Cond) (hL : ∀ (args : Array Value) (s t : State), L.after args s (.returned (some (.int 1))) t = true) :
    ArmFor flags0 classFile x code maxLocals ret World_1 tables_1 room_1 Calls_1 rest_1 Pre_1
      (fun tb e a s o t => postC L tb e a s o t ∧ Framed s o t (fieldLocs frame_1_writes a s ++ arrayLocs frame_1_arrays a s ++ staticLocs frame_1_statics s) 600000 7302249) := by
  intro l _ _ _ p e ha hc hk s m args below hf hfit hheap happ hpre
  obtain ⟨k, o, h1, h2, h3, rfl, hF⟩ := lw_comes l p e ha hc hk s m args below hf hfit hheap happ hpre
  exact ⟨k, _, h1, h2, h3, hL args s _, lw_frame hF⟩
theorem i_vc : Claimed_1_1 ∧ Claimed_1_2 := ⟨lw_limb limb_1_1 (fun args s t => by simp [limb_1_1, Cond.after, Cond.holds, Cond.value]), lw_limb limb_1_2 (fun args s t => Cond.after_iff.mpr (by
  first | (rw [show limb_1_2 = Cond.eq .result (.int 1) from rfl, Cond.eq_ints (x := 1) (y := 1) rfl rfl]; simp; done) | (simp [limb_1_2, Cond.value, Term.eval]; done)))⟩

