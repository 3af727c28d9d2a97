section
variable {l : Launch} {D : va_G} {cy : Nat → ClassId} {a : Nat}

/-- the class's cells by the order of their making, and back -/
def perm (k : Nat) : Nat := if k = 63 then 56 else if 56 ≤ k ∧ k ≤ 62 then k + 1 else k
def permI (i : Nat) : Nat := if i = 56 then 63 else if 57 ≤ i ∧ i ≤ 63 then i - 1 else i
def Mc0 : Mm := fun k j => if 2 ≤ k ∧ k < 18 ∧ k % 2 = 0 ∧ j = 1 then -1 else 0
def Mr0 : Mm := fun k j => if k = 1 ∧ j < 8 then -1000000 else 0
def xPH (cy : Nat → ClassId) (qd : Nat → Nat) : Nat → va_E := fun i => shC (fun k => qd (perm k)) cy (permI i) (Mc0 (permI i))
def xMo (cy : Nat → ClassId) (qd : Nat → Nat) : Nat → va_E := fun i => shR qd cy i (Mr0 i)
theorem perm_hi (j : Nat) : perm (67 + j) = 67 + j := by unfold perm; rw [if_neg (by omega), if_neg (by omega)]
theorem cat_hi {α : Type} {n i j : Nat} {f g : Nat → α} (h : i = n + j) : cat n f g i = g j := by
  unfold cat
  rw [if_neg (by omega), show i - n = j by omega]
theorem nS.rows {s : State} {A : Nat → Prop} {n : Nat} {ad : Nat → Nat} {g : Nat → va_E} {H : Heap} {locs : List Loc} (G : nS D s A n ad g H locs) {k N t : Nat} {f : Nat → Option Nat} (hk : k < n) (he : g k = .inl (cy t, N, gRr f)) (f' : (Nat → Nat) → Nat → Option Nat) (h : ∀ j, j < N → f j = f' ad j) : nS D s A n ad (upe g k (.inl (cy t, N, gRr (f' ad)))) H locs := G.eqv hk he (vp_cell_qx h)
theorem nS.ints {s : State} {A : Nat → Prop} {n : Nat} {ad : Nat → Nat} {g : Nat → va_E} {H : Heap} {locs : List Loc} (G : nS D s A n ad g H locs) {k N t : Nat} {f : Nat → Int32} (hk : k < n) (he : g k = .inl (cy t, N, .inl f)) (f' : Nat → Int32) (h : ∀ j, j < N → f j = f' j) : nS D s A n ad (upe g k (.inl (cy t, N, .inl f'))) H locs := G.eqv hk he (vp_cell_ix h)
set_option maxHeartbeats 4000000 in
set_option maxRecDepth 100000 in
theorem mk_X12 : nM l D cy yX12_init cX12_init 2 1 12 16 1404 a [] (.inr (11, [.null, .null, .null, .null, .int 0, .null, .int 0, .int 0, .int 0, .int 0, .int 0, .int 0, .int 0, .null, .null, .null, .null, .null, .null, .int 0, .int 0, .null, .null, .null, .null, .null, .int 0])) 17 (xMo cy) := by
  refine nM.of (own := RX12) (lv := [(0, .ref a)]) (by decide) rfl rfl (Nat.le_of_ble_eq_true rfl) rfl ?_
  intro p e s m below meth c ls H locs hin hr X G hl
  have hx := X.1
  have hb := X.2.1
  refine lv_aload_n hx hb dX12_init_0 rfl (lv_at hl 0 rfl) ?_
  refine nn_obj X hl.1 qw_5_5 dX12_init_1 (Nat.le_of_ble_eq_true rfl) (Nat.le_of_ble_eq_true rfl) ?_
  refine lv_aload_n hx hb dX12_init_4 rfl (lv_at hl 0 rfl) ?_
  refine lv_bipush (v := 8) hx hb dX12_init_5 (by decide) ?_
  refine nn_arr (atype := .int) (t := 0) (N' := 8) X G rfl rfl qw_3_4 (fun _ => rfl) (by decide) (by decide) (by decide) (Nat.le_of_ble_eq_true rfl) (Nat.le_of_ble_eq_true rfl) dX12_init_7 (fun q1 H G => ?_)
  refine nn_putF (k := 0) (j := 0) (ci := 11) X G hin (Nat.le_of_ble_eq_true rfl) rfl rfl (by decide) inlX12 tyX12 tyX12_ok nmX12 qw_5_6 rfl rfl (tyX12_ok 0 (by decide)) rfl rfl (Nat.le_of_ble_eq_true rfl) rfl dX12_init_9 (fun H locs G => ?_)
  refine lv_aload_n hx hb dX12_init_12 rfl (lv_at hl 0 rfl) ?_
  refine lv_bipush (v := 8) hx hb dX12_init_13 (by decide) ?_
  refine nn_arr (atype := .int) (t := 0) (N' := 8) X G rfl rfl qw_3_4 (fun _ => rfl) (by decide) (by decide) (by decide) (Nat.le_of_ble_eq_true rfl) (Nat.le_of_ble_eq_true rfl) dX12_init_15 (fun q2 H G => ?_)
  refine nn_putF (k := 0) (j := 1) (ci := 11) X G hin (Nat.le_of_ble_eq_true rfl) rfl rfl (by decide) inlX12 tyX12 tyX12_ok nmX12 qw_5_7 rfl rfl (tyX12_ok 1 (by decide)) rfl rfl (Nat.le_of_ble_eq_true rfl) rfl dX12_init_17 (fun H locs G => ?_)
  refine lv_aload_n hx hb dX12_init_20 rfl (lv_at hl 0 rfl) ?_
  refine lv_sipush (v := 320) hx hb dX12_init_21 (by decide) ?_
  refine nn_arr (atype := .int) (t := 0) (N' := 320) X G rfl rfl qw_3_4 (fun _ => rfl) (by decide) (by decide) (by decide) (Nat.le_of_ble_eq_true rfl) (Nat.le_of_ble_eq_true rfl) dX12_init_24 (fun q3 H G => ?_)
  refine nn_putF (k := 0) (j := 2) (ci := 11) X G hin (Nat.le_of_ble_eq_true rfl) rfl rfl (by decide) inlX12 tyX12 tyX12_ok nmX12 qw_5_8 rfl rfl (tyX12_ok 2 (by decide)) rfl rfl (Nat.le_of_ble_eq_true rfl) rfl dX12_init_26 (fun H locs G => ?_)
  refine lv_aload_n hx hb dX12_init_29 rfl (lv_at hl 0 rfl) ?_
  refine lv_bipush (v := 40) hx hb dX12_init_30 (by decide) ?_
  refine nn_arr (atype := .int) (t := 0) (N' := 40) X G rfl rfl qw_3_4 (fun _ => rfl) (by decide) (by decide) (by decide) (Nat.le_of_ble_eq_true rfl) (Nat.le_of_ble_eq_true rfl) dX12_init_32 (fun q4 H G => ?_)
  refine nn_putF (k := 0) (j := 3) (ci := 11) X G hin (Nat.le_of_ble_eq_true rfl) rfl rfl (by decide) inlX12 tyX12 tyX12_ok nmX12 qw_5_9 rfl rfl (tyX12_ok 3 (by decide)) rfl rfl (Nat.le_of_ble_eq_true rfl) rfl dX12_init_34 (fun H locs G => ?_)
  refine lv_aload_n hx hb dX12_init_37 rfl (lv_at hl 0 rfl) ?_
  refine lv_bipush (v := 90) hx hb dX12_init_38 (by decide) ?_
  refine nn_arr (atype := .byte) (t := 1) (N' := 90) X G rfl rfl qw_5_10 (fun _ => rfl) (by decide) (by decide) (by decide) (Nat.le_of_ble_eq_true rfl) (Nat.le_of_ble_eq_true rfl) dX12_init_40 (fun q5 H G => ?_)
  refine nn_putF (k := 0) (j := 5) (ci := 11) X G hin (Nat.le_of_ble_eq_true rfl) rfl rfl (by decide) inlX12 tyX12 tyX12_ok nmX12 qw_5_11 rfl rfl (tyX12_ok 5 (by decide)) rfl rfl (Nat.le_of_ble_eq_true rfl) rfl dX12_init_42 (fun H locs G => ?_)
  refine lv_aload_n hx hb dX12_init_45 rfl (lv_at hl 0 rfl) ?_
  refine lv_bipush (v := 33) hx hb dX12_init_46 (by decide) ?_
  refine nn_arr (atype := .int) (t := 0) (N' := 33) X G rfl rfl qw_3_4 (fun _ => rfl) (by decide) (by decide) (by decide) (Nat.le_of_ble_eq_true rfl) (Nat.le_of_ble_eq_true rfl) dX12_init_48 (fun q6 H G => ?_)
  refine nn_putF (k := 0) (j := 13) (ci := 11) X G hin (Nat.le_of_ble_eq_true rfl) rfl rfl (by decide) inlX12 tyX12 tyX12_ok nmX12 qw_5_12 rfl rfl (tyX12_ok 13 (by decide)) rfl rfl (Nat.le_of_ble_eq_true rfl) rfl dX12_init_50 (fun H locs G => ?_)
  refine lv_aload_n hx hb dX12_init_53 rfl (lv_at hl 0 rfl) ?_
  refine lv_bipush (v := 33) hx hb dX12_init_54 (by decide) ?_
  refine nn_arr (atype := .int) (t := 0) (N' := 33) X G rfl rfl qw_3_4 (fun _ => rfl) (by decide) (by decide) (by decide) (Nat.le_of_ble_eq_true rfl) (Nat.le_of_ble_eq_true rfl) dX12_init_56 (fun q7 H G => ?_)
  refine nn_putF (k := 0) (j := 14) (ci := 11) X G hin (Nat.le_of_ble_eq_true rfl) rfl rfl (by decide) inlX12 tyX12 tyX12_ok nmX12 qw_5_13 rfl rfl (tyX12_ok 14 (by decide)) rfl rfl (Nat.le_of_ble_eq_true rfl) rfl dX12_init_58 (fun H locs G => ?_)
  refine lv_aload_n hx hb dX12_init_61 rfl (lv_at hl 0 rfl) ?_
  refine lv_bipush (v := 22) hx hb dX12_init_62 (by decide) ?_
  refine nn_arr (atype := .int) (t := 0) (N' := 22) X G rfl rfl qw_3_4 (fun _ => rfl) (by decide) (by decide) (by decide) (Nat.le_of_ble_eq_true rfl) (Nat.le_of_ble_eq_true rfl) dX12_init_64 (fun q8 H G => ?_)
  refine nn_putF (k := 0) (j := 15) (ci := 11) X G hin (Nat.le_of_ble_eq_true rfl) rfl rfl (by decide) inlX12 tyX12 tyX12_ok nmX12 qw_5_14 rfl rfl (tyX12_ok 15 (by decide)) rfl rfl (Nat.le_of_ble_eq_true rfl) rfl dX12_init_66 (fun H locs G => ?_)
  refine lv_aload_n hx hb dX12_init_69 rfl (lv_at hl 0 rfl) ?_
  refine lv_bipush (v := 22) hx hb dX12_init_70 (by decide) ?_
  refine nn_arr (atype := .int) (t := 0) (N' := 22) X G rfl rfl qw_3_4 (fun _ => rfl) (by decide) (by decide) (by decide) (Nat.le_of_ble_eq_true rfl) (Nat.le_of_ble_eq_true rfl) dX12_init_72 (fun q9 H G => ?_)
  refine nn_putF (k := 0) (j := 16) (ci := 11) X G hin (Nat.le_of_ble_eq_true rfl) rfl rfl (by decide) inlX12 tyX12 tyX12_ok nmX12 qw_5_15 rfl rfl (tyX12_ok 16 (by decide)) rfl rfl (Nat.le_of_ble_eq_true rfl) rfl dX12_init_74 (fun H locs G => ?_)
  refine lv_aload_n hx hb dX12_init_77 rfl (lv_at hl 0 rfl) ?_
  refine lv_bipush (v := 22) hx hb dX12_init_78 (by decide) ?_
  refine nn_arr (atype := .int) (t := 0) (N' := 22) X G rfl rfl qw_3_4 (fun _ => rfl) (by decide) (by decide) (by decide) (Nat.le_of_ble_eq_true rfl) (Nat.le_of_ble_eq_true rfl) dX12_init_80 (fun q10 H G => ?_)
  refine nn_putF (k := 0) (j := 17) (ci := 11) X G hin (Nat.le_of_ble_eq_true rfl) rfl rfl (by decide) inlX12 tyX12 tyX12_ok nmX12 qw_5_16 rfl rfl (tyX12_ok 17 (by decide)) rfl rfl (Nat.le_of_ble_eq_true rfl) rfl dX12_init_82 (fun H locs G => ?_)
  refine lv_aload_n hx hb dX12_init_85 rfl (lv_at hl 0 rfl) ?_
  refine lv_sipush (v := 528) hx hb dX12_init_86 (by decide) ?_
  refine nn_arr (atype := .int) (t := 0) (N' := 528) X G rfl rfl qw_3_4 (fun _ => rfl) (by decide) (by decide) (by decide) (Nat.le_of_ble_eq_true rfl) (Nat.le_of_ble_eq_true rfl) dX12_init_89 (fun q11 H G => ?_)
  refine nn_putF (k := 0) (j := 18) (ci := 11) X G hin (Nat.le_of_ble_eq_true rfl) rfl rfl (by decide) inlX12 tyX12 tyX12_ok nmX12 qw_5_17 rfl rfl (tyX12_ok 18 (by decide)) rfl rfl (Nat.le_of_ble_eq_true rfl) rfl dX12_init_91 (fun H locs G => ?_)
  refine lv_aload_n hx hb dX12_init_94 rfl (lv_at hl 0 rfl) ?_
  refine lv_bipush (v := 66) hx hb dX12_init_95 (by decide) ?_
  refine nn_arr (atype := .int) (t := 0) (N' := 66) X G rfl rfl qw_3_4 (fun _ => rfl) (by decide) (by decide) (by decide) (Nat.le_of_ble_eq_true rfl) (Nat.le_of_ble_eq_true rfl) dX12_init_97 (fun q12 H G => ?_)
  refine nn_putF (k := 0) (j := 21) (ci := 11) X G hin (Nat.le_of_ble_eq_true rfl) rfl rfl (by decide) inlX12 tyX12 tyX12_ok nmX12 qw_5_18 rfl rfl (tyX12_ok 21 (by decide)) rfl rfl (Nat.le_of_ble_eq_true rfl) rfl dX12_init_99 (fun H locs G => ?_)
  refine lv_aload_n hx hb dX12_init_102 rfl (lv_at hl 0 rfl) ?_
  refine lv_bipush (v := 44) hx hb dX12_init_103 (by decide) ?_
  refine nn_arr (atype := .int) (t := 0) (N' := 44) X G rfl rfl qw_3_4 (fun _ => rfl) (by decide) (by decide) (by decide) (Nat.le_of_ble_eq_true rfl) (Nat.le_of_ble_eq_true rfl) dX12_init_105 (fun q13 H G => ?_)
  refine nn_putF (k := 0) (j := 22) (ci := 11) X G hin (Nat.le_of_ble_eq_true rfl) rfl rfl (by decide) inlX12 tyX12 tyX12_ok nmX12 qw_5_19 rfl rfl (tyX12_ok 22 (by decide)) rfl rfl (Nat.le_of_ble_eq_true rfl) rfl dX12_init_107 (fun H locs G => ?_)
  refine lv_aload_n hx hb dX12_init_110 rfl (lv_at hl 0 rfl) ?_
  refine lv_iconst (v := 2) hx hb dX12_init_111 (by decide) ?_
  refine nn_arr (atype := .boolean) (t := 2) (N' := 2) X G rfl rfl qw_5_20 (fun _ => rfl) (by decide) (by decide) (by decide) (Nat.le_of_ble_eq_true rfl) (Nat.le_of_ble_eq_true rfl) dX12_init_112 (fun q14 H G => ?_)
  refine nn_putF (k := 0) (j := 23) (ci := 11) X G hin (Nat.le_of_ble_eq_true rfl) rfl rfl (by decide) inlX12 tyX12 tyX12_ok nmX12 qw_5_21 rfl rfl (tyX12_ok 23 (by decide)) rfl rfl (Nat.le_of_ble_eq_true rfl) rfl dX12_init_114 (fun H locs G => ?_)
  refine lv_aload_n hx hb dX12_init_117 rfl (lv_at hl 0 rfl) ?_
  refine lv_sipush (v := 150) hx hb dX12_init_118 (by decide) ?_
  refine nn_arr (atype := .int) (t := 0) (N' := 150) X G rfl rfl qw_3_4 (fun _ => rfl) (by decide) (by decide) (by decide) (Nat.le_of_ble_eq_true rfl) (Nat.le_of_ble_eq_true rfl) dX12_init_121 (fun q15 H G => ?_)
  refine nn_putF (k := 0) (j := 24) (ci := 11) X G hin (Nat.le_of_ble_eq_true rfl) rfl rfl (by decide) inlX12 tyX12 tyX12_ok nmX12 qw_5_22 rfl rfl (tyX12_ok 24 (by decide)) rfl rfl (Nat.le_of_ble_eq_true rfl) rfl dX12_init_123 (fun H locs G => ?_)
  refine lv_aload_n hx hb dX12_init_126 rfl (lv_at hl 0 rfl) ?_
  refine lv_bipush (v := 16) hx hb dX12_init_127 (by decide) ?_
  refine nn_arr (atype := .int) (t := 0) (N' := 16) X G rfl rfl qw_3_4 (fun _ => rfl) (by decide) (by decide) (by decide) (Nat.le_of_ble_eq_true rfl) (Nat.le_of_ble_eq_true rfl) dX12_init_129 (fun q16 H G => ?_)
  refine nn_putF (k := 0) (j := 25) (ci := 11) X G hin (Nat.le_of_ble_eq_true rfl) rfl rfl (by decide) inlX12 tyX12 tyX12_ok nmX12 qw_5_23 rfl rfl (tyX12_ok 25 (by decide)) rfl rfl (Nat.le_of_ble_eq_true rfl) rfl dX12_init_131 (fun H locs G => ?_)
  refine lv_iconst (v := 0) hx hb dX12_init_134 (by decide) ?_
  refine lv_istore_n (lv' := [(1, .int 0), (0, .ref a)]) hx hb dX12_init_135 rfl hl (by decide) rfl (fun ls hl => ?_)
  refine lv_iload_n hx hb dX12_init_136 rfl (lv_at hl 0 rfl) ?_
  refine lv_bipush (v := 8) hx hb dX12_init_137 (by decide) ?_
  refine lv_icmp_ge (tgt := 156) hx hb dX12_init_139 (by decide) (fun c17 => absurd c17 (by decide)) (fun c17 => ?_)
  refine lv_aload_n hx hb dX12_init_142 rfl (lv_at hl 1 rfl) ?_
  refine nn_get (k := 0) (j := 0) (ci := 11) (v := .ref q1) X G (Nat.le_of_ble_eq_true rfl) rfl rfl (by decide) inlX12 qw_5_6 rfl rfl dX12_init_143 ?_
  refine lv_iload_n hx hb dX12_init_146 rfl (lv_at hl 0 rfl) ?_
  refine lv_ldc (v := -1000000) hx hb X.2.2.2.1 (X.2.2.2.2.1 _ qw_6_0) dX12_init_147 ?_
  refine nn_iast (q0 := 1) (j := 0) X G (Nat.le_of_ble_eq_true rfl) rfl (vp_nI (n := 0) (by decide) (by decide)) rfl (by decide) dX12_init_149 (fun H locs G => ?_)
  refine lv_iinc (v := 1) (lv' := [(1, .int 1), (0, .ref a)]) hx hb dX12_init_150 hl (k := 0) rfl (by decide) (by decide) rfl (fun ls hl => ?_)
  refine lv_goto (tgt := 136) hx hb dX12_init_153 (by decide) ?_
  refine lv_iload_n hx hb dX12_init_136 rfl (lv_at hl 0 rfl) ?_
  refine lv_bipush (v := 8) hx hb dX12_init_137 (by decide) ?_
  refine lv_icmp_ge (tgt := 156) hx hb dX12_init_139 (by decide) (fun c18 => absurd c18 (by decide)) (fun c18 => ?_)
  refine lv_aload_n hx hb dX12_init_142 rfl (lv_at hl 1 rfl) ?_
  refine nn_get (k := 0) (j := 0) (ci := 11) (v := .ref q1) X G (Nat.le_of_ble_eq_true rfl) rfl rfl (by decide) inlX12 qw_5_6 rfl rfl dX12_init_143 ?_
  refine lv_iload_n hx hb dX12_init_146 rfl (lv_at hl 0 rfl) ?_
  refine lv_ldc (v := -1000000) hx hb X.2.2.2.1 (X.2.2.2.2.1 _ qw_6_0) dX12_init_147 ?_
  refine nn_iast (q0 := 1) (j := 1) X G (Nat.le_of_ble_eq_true rfl) rfl (vp_nI (n := 1) (by decide) (by decide)) rfl (by decide) dX12_init_149 (fun H locs G => ?_)
  refine lv_iinc (v := 2) (lv' := [(1, .int 2), (0, .ref a)]) hx hb dX12_init_150 hl (k := 0) rfl (by decide) (by decide) rfl (fun ls hl => ?_)
  refine lv_goto (tgt := 136) hx hb dX12_init_153 (by decide) ?_
  refine lv_iload_n hx hb dX12_init_136 rfl (lv_at hl 0 rfl) ?_
  refine lv_bipush (v := 8) hx hb dX12_init_137 (by decide) ?_
  refine lv_icmp_ge (tgt := 156) hx hb dX12_init_139 (by decide) (fun c19 => absurd c19 (by decide)) (fun c19 => ?_)
  refine lv_aload_n hx hb dX12_init_142 rfl (lv_at hl 1 rfl) ?_
  refine nn_get (k := 0) (j := 0) (ci := 11) (v := .ref q1) X G (Nat.le_of_ble_eq_true rfl) rfl rfl (by decide) inlX12 qw_5_6 rfl rfl dX12_init_143 ?_
  refine lv_iload_n hx hb dX12_init_146 rfl (lv_at hl 0 rfl) ?_
  refine lv_ldc (v := -1000000) hx hb X.2.2.2.1 (X.2.2.2.2.1 _ qw_6_0) dX12_init_147 ?_
  refine nn_iast (q0 := 1) (j := 2) X G (Nat.le_of_ble_eq_true rfl) rfl (vp_nI (n := 2) (by decide) (by decide)) rfl (by decide) dX12_init_149 (fun H locs G => ?_)
  refine lv_iinc (v := 3) (lv' := [(1, .int 3), (0, .ref a)]) hx hb dX12_init_150 hl (k := 0) rfl (by decide) (by decide) rfl (fun ls hl => ?_)
  refine lv_goto (tgt := 136) hx hb dX12_init_153 (by decide) ?_
  refine lv_iload_n hx hb dX12_init_136 rfl (lv_at hl 0 rfl) ?_
  refine lv_bipush (v := 8) hx hb dX12_init_137 (by decide) ?_
  refine lv_icmp_ge (tgt := 156) hx hb dX12_init_139 (by decide) (fun c20 => absurd c20 (by decide)) (fun c20 => ?_)
  refine lv_aload_n hx hb dX12_init_142 rfl (lv_at hl 1 rfl) ?_
  refine nn_get (k := 0) (j := 0) (ci := 11) (v := .ref q1) X G (Nat.le_of_ble_eq_true rfl) rfl rfl (by decide) inlX12 qw_5_6 rfl rfl dX12_init_143 ?_
  refine lv_iload_n hx hb dX12_init_146 rfl (lv_at hl 0 rfl) ?_
  refine lv_ldc (v := -1000000) hx hb X.2.2.2.1 (X.2.2.2.2.1 _ qw_6_0) dX12_init_147 ?_
  refine nn_iast (q0 := 1) (j := 3) X G (Nat.le_of_ble_eq_true rfl) rfl (vp_nI (n := 3) (by decide) (by decide)) rfl (by decide) dX12_init_149 (fun H locs G => ?_)
  refine lv_iinc (v := 4) (lv' := [(1, .int 4), (0, .ref a)]) hx hb dX12_init_150 hl (k := 0) rfl (by decide) (by decide) rfl (fun ls hl => ?_)
  refine lv_goto (tgt := 136) hx hb dX12_init_153 (by decide) ?_
  refine lv_iload_n hx hb dX12_init_136 rfl (lv_at hl 0 rfl) ?_
  refine lv_bipush (v := 8) hx hb dX12_init_137 (by decide) ?_
  refine lv_icmp_ge (tgt := 156) hx hb dX12_init_139 (by decide) (fun c21 => absurd c21 (by decide)) (fun c21 => ?_)
  refine lv_aload_n hx hb dX12_init_142 rfl (lv_at hl 1 rfl) ?_
  refine nn_get (k := 0) (j := 0) (ci := 11) (v := .ref q1) X G (Nat.le_of_ble_eq_true rfl) rfl rfl (by decide) inlX12 qw_5_6 rfl rfl dX12_init_143 ?_
  refine lv_iload_n hx hb dX12_init_146 rfl (lv_at hl 0 rfl) ?_
  refine lv_ldc (v := -1000000) hx hb X.2.2.2.1 (X.2.2.2.2.1 _ qw_6_0) dX12_init_147 ?_
  refine nn_iast (q0 := 1) (j := 4) X G (Nat.le_of_ble_eq_true rfl) rfl (vp_nI (n := 4) (by decide) (by decide)) rfl (by decide) dX12_init_149 (fun H locs G => ?_)
  refine lv_iinc (v := 5) (lv' := [(1, .int 5), (0, .ref a)]) hx hb dX12_init_150 hl (k := 0) rfl (by decide) (by decide) rfl (fun ls hl => ?_)
  refine lv_goto (tgt := 136) hx hb dX12_init_153 (by decide) ?_
  refine lv_iload_n hx hb dX12_init_136 rfl (lv_at hl 0 rfl) ?_
  refine lv_bipush (v := 8) hx hb dX12_init_137 (by decide) ?_
  refine lv_icmp_ge (tgt := 156) hx hb dX12_init_139 (by decide) (fun c22 => absurd c22 (by decide)) (fun c22 => ?_)
  refine lv_aload_n hx hb dX12_init_142 rfl (lv_at hl 1 rfl) ?_
  refine nn_get (k := 0) (j := 0) (ci := 11) (v := .ref q1) X G (Nat.le_of_ble_eq_true rfl) rfl rfl (by decide) inlX12 qw_5_6 rfl rfl dX12_init_143 ?_
  refine lv_iload_n hx hb dX12_init_146 rfl (lv_at hl 0 rfl) ?_
  refine lv_ldc (v := -1000000) hx hb X.2.2.2.1 (X.2.2.2.2.1 _ qw_6_0) dX12_init_147 ?_
  refine nn_iast (q0 := 1) (j := 5) X G (Nat.le_of_ble_eq_true rfl) rfl (vp_nI (n := 5) (by decide) (by decide)) rfl (by decide) dX12_init_149 (fun H locs G => ?_)
  refine lv_iinc (v := 6) (lv' := [(1, .int 6), (0, .ref a)]) hx hb dX12_init_150 hl (k := 0) rfl (by decide) (by decide) rfl (fun ls hl => ?_)
  refine lv_goto (tgt := 136) hx hb dX12_init_153 (by decide) ?_
  refine lv_iload_n hx hb dX12_init_136 rfl (lv_at hl 0 rfl) ?_
  refine lv_bipush (v := 8) hx hb dX12_init_137 (by decide) ?_
  refine lv_icmp_ge (tgt := 156) hx hb dX12_init_139 (by decide) (fun c23 => absurd c23 (by decide)) (fun c23 => ?_)
  refine lv_aload_n hx hb dX12_init_142 rfl (lv_at hl 1 rfl) ?_
  refine nn_get (k := 0) (j := 0) (ci := 11) (v := .ref q1) X G (Nat.le_of_ble_eq_true rfl) rfl rfl (by decide) inlX12 qw_5_6 rfl rfl dX12_init_143 ?_
  refine lv_iload_n hx hb dX12_init_146 rfl (lv_at hl 0 rfl) ?_
  refine lv_ldc (v := -1000000) hx hb X.2.2.2.1 (X.2.2.2.2.1 _ qw_6_0) dX12_init_147 ?_
  refine nn_iast (q0 := 1) (j := 6) X G (Nat.le_of_ble_eq_true rfl) rfl (vp_nI (n := 6) (by decide) (by decide)) rfl (by decide) dX12_init_149 (fun H locs G => ?_)
  refine lv_iinc (v := 7) (lv' := [(1, .int 7), (0, .ref a)]) hx hb dX12_init_150 hl (k := 0) rfl (by decide) (by decide) rfl (fun ls hl => ?_)
  refine lv_goto (tgt := 136) hx hb dX12_init_153 (by decide) ?_
  refine lv_iload_n hx hb dX12_init_136 rfl (lv_at hl 0 rfl) ?_
  refine lv_bipush (v := 8) hx hb dX12_init_137 (by decide) ?_
  refine lv_icmp_ge (tgt := 156) hx hb dX12_init_139 (by decide) (fun c24 => absurd c24 (by decide)) (fun c24 => ?_)
  refine lv_aload_n hx hb dX12_init_142 rfl (lv_at hl 1 rfl) ?_
  refine nn_get (k := 0) (j := 0) (ci := 11) (v := .ref q1) X G (Nat.le_of_ble_eq_true rfl) rfl rfl (by decide) inlX12 qw_5_6 rfl rfl dX12_init_143 ?_
  refine lv_iload_n hx hb dX12_init_146 rfl (lv_at hl 0 rfl) ?_
  refine lv_ldc (v := -1000000) hx hb X.2.2.2.1 (X.2.2.2.2.1 _ qw_6_0) dX12_init_147 ?_
  refine nn_iast (q0 := 1) (j := 7) X G (Nat.le_of_ble_eq_true rfl) rfl (vp_nI (n := 7) (by decide) (by decide)) rfl (by decide) dX12_init_149 (fun H locs G => ?_)
  refine lv_iinc (v := 8) (lv' := [(1, .int 8), (0, .ref a)]) hx hb dX12_init_150 hl (k := 0) rfl (by decide) (by decide) rfl (fun ls hl => ?_)
  refine lv_goto (tgt := 136) hx hb dX12_init_153 (by decide) ?_
  refine lv_iload_n hx hb dX12_init_136 rfl (lv_at hl 0 rfl) ?_
  refine lv_bipush (v := 8) hx hb dX12_init_137 (by decide) ?_
  refine lv_icmp_ge (tgt := 156) hx hb dX12_init_139 (by decide) (fun c25 => ?_) (fun c25 => absurd (by decide) c25)
  have G := G.ints (k := 1) (t := 0) (Nat.le_of_ble_eq_true rfl) rfl (Mr0 1) (fun j hj => by rcases (show j = 0 ∨ j = 1 ∨ j = 2 ∨ j = 3 ∨ j = 4 ∨ j = 5 ∨ j = 6 ∨ j = 7 by omega) with rfl | rfl | rfl | rfl | rfl | rfl | rfl | rfl <;> rfl)
  exact nn_ret X G hr rfl (by rfl) dX12_init_156
set_option maxHeartbeats 4000000 in
set_option maxRecDepth 100000 in
theorem mk_X11 : nM l D cy yX11_init cX11_init 2 4 72 90 1374 a [] (.inr (10, [.null, .null, .null, .null, .null, .null, .null, .null, .null, .int 0, .int 0, .int 0, .int 0])) 91 (xPH cy) := by
  refine nM.of (own := RX11) (lv := [(0, .ref a)]) (by decide) rfl rfl (Nat.le_of_ble_eq_true rfl) rfl ?_
  intro p e s m below meth c ls H locs hin hr X G hl
  have hx := X.1
  have hb := X.2.1
  refine lv_aload_n hx hb dX11_init_0 rfl (lv_at hl 0 rfl) ?_
  refine nn_obj X hl.1 qw_1_9 dX11_init_1 (Nat.le_of_ble_eq_true rfl) (Nat.le_of_ble_eq_true rfl) ?_
  refine lv_aload_n hx hb dX11_init_4 rfl (lv_at hl 0 rfl) ?_
  refine lv_bipush (v := 8) hx hb dX11_init_5 (by decide) ?_
  refine nn_newq (t := 5) (N' := 8) X G rfl X.2.2.2.2.2.1.2.1 qw_1_12 (by decide) (by decide) (by decide) (Nat.le_of_ble_eq_true rfl) (Nat.le_of_ble_eq_true rfl) dX11_init_7 (fun q1 H G => ?_)
  refine nn_putF (k := 0) (j := 0) (ci := 10) X G hin (Nat.le_of_ble_eq_true rfl) rfl rfl (by decide) inlX11 tyX11 tyX11_ok nmX11 qw_1_13 rfl rfl (tyX11_ok 0 (by decide)) rfl rfl (Nat.le_of_ble_eq_true rfl) rfl dX11_init_10 (fun H locs G => ?_)
  refine lv_iconst (v := 0) hx hb dX11_init_13 (by decide) ?_
  refine lv_istore_n (lv' := [(1, .int 0), (0, .ref a)]) hx hb dX11_init_14 rfl hl (by decide) rfl (fun ls hl => ?_)
  refine lv_iload_n hx hb dX11_init_15 rfl (lv_at hl 0 rfl) ?_
  refine lv_bipush (v := 8) hx hb dX11_init_16 (by decide) ?_
  refine lv_icmp_ge (tgt := 40) hx hb dX11_init_18 (by decide) (fun c2 => absurd c2 (by decide)) (fun c2 => ?_)
  refine lv_aload_n hx hb dX11_init_21 rfl (lv_at hl 1 rfl) ?_
  refine nn_get (k := 0) (j := 0) (ci := 10) (v := .ref q1) X G (Nat.le_of_ble_eq_true rfl) rfl rfl (by decide) inlX11 qw_1_13 rfl rfl dX11_init_22 ?_
  refine lv_iload_n hx hb dX11_init_25 rfl (lv_at hl 0 rfl) ?_
  refine nn_new (ci := 6) (C := RX7) (T := TX7) (Nf := 3) (fs := [.null, .int 0, .int 0]) X G rfl inlX7 tyX7 tyX7_ok qw_1_12 qw_1_14 qw_1_15 (fun j hj => by rcases (show j = 0 ∨ j = 1 ∨ j = 2 by omega) with rfl | rfl | rfl <;> rfl) (Nat.le_of_ble_eq_true rfl) (Nat.le_of_ble_eq_true rfl) dX11_init_26 (fun q3 H G => ?_)
  refine lv_dup hx hb dX11_init_29 rfl ?_
  refine nn_callIN (rest := [.ref q3, .int 0, .ref q1]) (As := []) X hl.1 G rfl (mk_X7) rfl (by decide +kernel) cw_X7_init nm_0 qw_3_6 rfl rfl rfl (Nat.le_of_ble_eq_true rfl) ⟨(Nat.le_of_ble_eq_true rfl), (Nat.le_of_ble_eq_true rfl)⟩ ⟨(Nat.le_of_ble_eq_true rfl), (Nat.le_of_ble_eq_true rfl)⟩ dX11_init_30 (fun qd4 H locs hq G => ?_)
  subst hq
  refine nn_ast (q0 := 1) (qk := 2) (ci := 6) (t := 5) (j := 0) X G (Nat.le_of_ble_eq_true rfl) rfl rfl (Nat.le_of_ble_eq_true rfl) rfl rfl (vp_nI (n := 0) (by decide) (by decide)) rfl rfl (by decide) dX11_init_33 (fun H locs G => ?_)
  refine lv_iinc (v := 1) (lv' := [(1, .int 1), (0, .ref a)]) hx hb dX11_init_34 hl (k := 0) rfl (by decide) (by decide) rfl (fun ls hl => ?_)
  refine lv_goto (tgt := 15) hx hb dX11_init_37 (by decide) ?_
  refine lv_iload_n hx hb dX11_init_15 rfl (lv_at hl 0 rfl) ?_
  refine lv_bipush (v := 8) hx hb dX11_init_16 (by decide) ?_
  refine lv_icmp_ge (tgt := 40) hx hb dX11_init_18 (by decide) (fun c5 => absurd c5 (by decide)) (fun c5 => ?_)
  refine lv_aload_n hx hb dX11_init_21 rfl (lv_at hl 1 rfl) ?_
  refine nn_get (k := 0) (j := 0) (ci := 10) (v := .ref q1) X G (Nat.le_of_ble_eq_true rfl) rfl rfl (by decide) inlX11 qw_1_13 rfl rfl dX11_init_22 ?_
  refine lv_iload_n hx hb dX11_init_25 rfl (lv_at hl 0 rfl) ?_
  refine nn_new (ci := 6) (C := RX7) (T := TX7) (Nf := 3) (fs := [.null, .int 0, .int 0]) X G rfl inlX7 tyX7 tyX7_ok qw_1_12 qw_1_14 qw_1_15 (fun j hj => by rcases (show j = 0 ∨ j = 1 ∨ j = 2 by omega) with rfl | rfl | rfl <;> rfl) (Nat.le_of_ble_eq_true rfl) (Nat.le_of_ble_eq_true rfl) dX11_init_26 (fun q6 H G => ?_)
  refine lv_dup hx hb dX11_init_29 rfl ?_
  refine nn_callIN (rest := [.ref q6, .int 1, .ref q1]) (As := []) X hl.1 G rfl (mk_X7) rfl (by decide +kernel) cw_X7_init nm_0 qw_3_6 rfl rfl rfl (Nat.le_of_ble_eq_true rfl) ⟨(Nat.le_of_ble_eq_true rfl), (Nat.le_of_ble_eq_true rfl)⟩ ⟨(Nat.le_of_ble_eq_true rfl), (Nat.le_of_ble_eq_true rfl)⟩ dX11_init_30 (fun qd7 H locs hq G => ?_)
  subst hq
  refine nn_ast (q0 := 1) (qk := 4) (ci := 6) (t := 5) (j := 1) X G (Nat.le_of_ble_eq_true rfl) rfl rfl (Nat.le_of_ble_eq_true rfl) rfl rfl (vp_nI (n := 1) (by decide) (by decide)) rfl rfl (by decide) dX11_init_33 (fun H locs G => ?_)
  refine lv_iinc (v := 2) (lv' := [(1, .int 2), (0, .ref a)]) hx hb dX11_init_34 hl (k := 0) rfl (by decide) (by decide) rfl (fun ls hl => ?_)
  refine lv_goto (tgt := 15) hx hb dX11_init_37 (by decide) ?_
  refine lv_iload_n hx hb dX11_init_15 rfl (lv_at hl 0 rfl) ?_
  refine lv_bipush (v := 8) hx hb dX11_init_16 (by decide) ?_
  refine lv_icmp_ge (tgt := 40) hx hb dX11_init_18 (by decide) (fun c8 => absurd c8 (by decide)) (fun c8 => ?_)
  refine lv_aload_n hx hb dX11_init_21 rfl (lv_at hl 1 rfl) ?_
  refine nn_get (k := 0) (j := 0) (ci := 10) (v := .ref q1) X G (Nat.le_of_ble_eq_true rfl) rfl rfl (by decide) inlX11 qw_1_13 rfl rfl dX11_init_22 ?_
  refine lv_iload_n hx hb dX11_init_25 rfl (lv_at hl 0 rfl) ?_
  refine nn_new (ci := 6) (C := RX7) (T := TX7) (Nf := 3) (fs := [.null, .int 0, .int 0]) X G rfl inlX7 tyX7 tyX7_ok qw_1_12 qw_1_14 qw_1_15 (fun j hj => by rcases (show j = 0 ∨ j = 1 ∨ j = 2 by omega) with rfl | rfl | rfl <;> rfl) (Nat.le_of_ble_eq_true rfl) (Nat.le_of_ble_eq_true rfl) dX11_init_26 (fun q9 H G => ?_)
  refine lv_dup hx hb dX11_init_29 rfl ?_
  refine nn_callIN (rest := [.ref q9, .int 2, .ref q1]) (As := []) X hl.1 G rfl (mk_X7) rfl (by decide +kernel) cw_X7_init nm_0 qw_3_6 rfl rfl rfl (Nat.le_of_ble_eq_true rfl) ⟨(Nat.le_of_ble_eq_true rfl), (Nat.le_of_ble_eq_true rfl)⟩ ⟨(Nat.le_of_ble_eq_true rfl), (Nat.le_of_ble_eq_true rfl)⟩ dX11_init_30 (fun qd10 H locs hq G => ?_)
  subst hq
  refine nn_ast (q0 := 1) (qk := 6) (ci := 6) (t := 5) (j := 2) X G (Nat.le_of_ble_eq_true rfl) rfl rfl (Nat.le_of_ble_eq_true rfl) rfl rfl (vp_nI (n := 2) (by decide) (by decide)) rfl rfl (by decide) dX11_init_33 (fun H locs G => ?_)
  refine lv_iinc (v := 3) (lv' := [(1, .int 3), (0, .ref a)]) hx hb dX11_init_34 hl (k := 0) rfl (by decide) (by decide) rfl (fun ls hl => ?_)
  refine lv_goto (tgt := 15) hx hb dX11_init_37 (by decide) ?_
  refine lv_iload_n hx hb dX11_init_15 rfl (lv_at hl 0 rfl) ?_
  refine lv_bipush (v := 8) hx hb dX11_init_16 (by decide) ?_
  refine lv_icmp_ge (tgt := 40) hx hb dX11_init_18 (by decide) (fun c11 => absurd c11 (by decide)) (fun c11 => ?_)
  refine lv_aload_n hx hb dX11_init_21 rfl (lv_at hl 1 rfl) ?_
  refine nn_get (k := 0) (j := 0) (ci := 10) (v := .ref q1) X G (Nat.le_of_ble_eq_true rfl) rfl rfl (by decide) inlX11 qw_1_13 rfl rfl dX11_init_22 ?_
  refine lv_iload_n hx hb dX11_init_25 rfl (lv_at hl 0 rfl) ?_
  refine nn_new (ci := 6) (C := RX7) (T := TX7) (Nf := 3) (fs := [.null, .int 0, .int 0]) X G rfl inlX7 tyX7 tyX7_ok qw_1_12 qw_1_14 qw_1_15 (fun j hj => by rcases (show j = 0 ∨ j = 1 ∨ j = 2 by omega) with rfl | rfl | rfl <;> rfl) (Nat.le_of_ble_eq_true rfl) (Nat.le_of_ble_eq_true rfl) dX11_init_26 (fun q12 H G => ?_)
  refine lv_dup hx hb dX11_init_29 rfl ?_
  refine nn_callIN (rest := [.ref q12, .int 3, .ref q1]) (As := []) X hl.1 G rfl (mk_X7) rfl (by decide +kernel) cw_X7_init nm_0 qw_3_6 rfl rfl rfl (Nat.le_of_ble_eq_true rfl) ⟨(Nat.le_of_ble_eq_true rfl), (Nat.le_of_ble_eq_true rfl)⟩ ⟨(Nat.le_of_ble_eq_true rfl), (Nat.le_of_ble_eq_true rfl)⟩ dX11_init_30 (fun qd13 H locs hq G => ?_)
  subst hq
  refine nn_ast (q0 := 1) (qk := 8) (ci := 6) (t := 5) (j := 3) X G (Nat.le_of_ble_eq_true rfl) rfl rfl (Nat.le_of_ble_eq_true rfl) rfl rfl (vp_nI (n := 3) (by decide) (by decide)) rfl rfl (by decide) dX11_init_33 (fun H locs G => ?_)
  refine lv_iinc (v := 4) (lv' := [(1, .int 4), (0, .ref a)]) hx hb dX11_init_34 hl (k := 0) rfl (by decide) (by decide) rfl (fun ls hl => ?_)
  refine lv_goto (tgt := 15) hx hb dX11_init_37 (by decide) ?_
  refine lv_iload_n hx hb dX11_init_15 rfl (lv_at hl 0 rfl) ?_
  refine lv_bipush (v := 8) hx hb dX11_init_16 (by decide) ?_
  refine lv_icmp_ge (tgt := 40) hx hb dX11_init_18 (by decide) (fun c14 => absurd c14 (by decide)) (fun c14 => ?_)
  refine lv_aload_n hx hb dX11_init_21 rfl (lv_at hl 1 rfl) ?_
  refine nn_get (k := 0) (j := 0) (ci := 10) (v := .ref q1) X G (Nat.le_of_ble_eq_true rfl) rfl rfl (by decide) inlX11 qw_1_13 rfl rfl dX11_init_22 ?_
  refine lv_iload_n hx hb dX11_init_25 rfl (lv_at hl 0 rfl) ?_
  refine nn_new (ci := 6) (C := RX7) (T := TX7) (Nf := 3) (fs := [.null, .int 0, .int 0]) X G rfl inlX7 tyX7 tyX7_ok qw_1_12 qw_1_14 qw_1_15 (fun j hj => by rcases (show j = 0 ∨ j = 1 ∨ j = 2 by omega) with rfl | rfl | rfl <;> rfl) (Nat.le_of_ble_eq_true rfl) (Nat.le_of_ble_eq_true rfl) dX11_init_26 (fun q15 H G => ?_)
  refine lv_dup hx hb dX11_init_29 rfl ?_
  refine nn_callIN (rest := [.ref q15, .int 4, .ref q1]) (As := []) X hl.1 G rfl (mk_X7) rfl (by decide +kernel) cw_X7_init nm_0 qw_3_6 rfl rfl rfl (Nat.le_of_ble_eq_true rfl) ⟨(Nat.le_of_ble_eq_true rfl), (Nat.le_of_ble_eq_true rfl)⟩ ⟨(Nat.le_of_ble_eq_true rfl), (Nat.le_of_ble_eq_true rfl)⟩ dX11_init_30 (fun qd16 H locs hq G => ?_)
  subst hq
  refine nn_ast (q0 := 1) (qk := 10) (ci := 6) (t := 5) (j := 4) X G (Nat.le_of_ble_eq_true rfl) rfl rfl (Nat.le_of_ble_eq_true rfl) rfl rfl (vp_nI (n := 4) (by decide) (by decide)) rfl rfl (by decide) dX11_init_33 (fun H locs G => ?_)
  refine lv_iinc (v := 5) (lv' := [(1, .int 5), (0, .ref a)]) hx hb dX11_init_34 hl (k := 0) rfl (by decide) (by decide) rfl (fun ls hl => ?_)
  refine lv_goto (tgt := 15) hx hb dX11_init_37 (by decide) ?_
  refine lv_iload_n hx hb dX11_init_15 rfl (lv_at hl 0 rfl) ?_
  refine lv_bipush (v := 8) hx hb dX11_init_16 (by decide) ?_
  refine lv_icmp_ge (tgt := 40) hx hb dX11_init_18 (by decide) (fun c17 => absurd c17 (by decide)) (fun c17 => ?_)
  refine lv_aload_n hx hb dX11_init_21 rfl (lv_at hl 1 rfl) ?_
  refine nn_get (k := 0) (j := 0) (ci := 10) (v := .ref q1) X G (Nat.le_of_ble_eq_true rfl) rfl rfl (by decide) inlX11 qw_1_13 rfl rfl dX11_init_22 ?_
  refine lv_iload_n hx hb dX11_init_25 rfl (lv_at hl 0 rfl) ?_
  refine nn_new (ci := 6) (C := RX7) (T := TX7) (Nf := 3) (fs := [.null, .int 0, .int 0]) X G rfl inlX7 tyX7 tyX7_ok qw_1_12 qw_1_14 qw_1_15 (fun j hj => by rcases (show j = 0 ∨ j = 1 ∨ j = 2 by omega) with rfl | rfl | rfl <;> rfl) (Nat.le_of_ble_eq_true rfl) (Nat.le_of_ble_eq_true rfl) dX11_init_26 (fun q18 H G => ?_)
  refine lv_dup hx hb dX11_init_29 rfl ?_
  refine nn_callIN (rest := [.ref q18, .int 5, .ref q1]) (As := []) X hl.1 G rfl (mk_X7) rfl (by decide +kernel) cw_X7_init nm_0 qw_3_6 rfl rfl rfl (Nat.le_of_ble_eq_true rfl) ⟨(Nat.le_of_ble_eq_true rfl), (Nat.le_of_ble_eq_true rfl)⟩ ⟨(Nat.le_of_ble_eq_true rfl), (Nat.le_of_ble_eq_true rfl)⟩ dX11_init_30 (fun qd19 H locs hq G => ?_)
  subst hq
  refine nn_ast (q0 := 1) (qk := 12) (ci := 6) (t := 5) (j := 5) X G (Nat.le_of_ble_eq_true rfl) rfl rfl (Nat.le_of_ble_eq_true rfl) rfl rfl (vp_nI (n := 5) (by decide) (by decide)) rfl rfl (by decide) dX11_init_33 (fun H locs G => ?_)
  refine lv_iinc (v := 6) (lv' := [(1, .int 6), (0, .ref a)]) hx hb dX11_init_34 hl (k := 0) rfl (by decide) (by decide) rfl (fun ls hl => ?_)
  refine lv_goto (tgt := 15) hx hb dX11_init_37 (by decide) ?_
  refine lv_iload_n hx hb dX11_init_15 rfl (lv_at hl 0 rfl) ?_
  refine lv_bipush (v := 8) hx hb dX11_init_16 (by decide) ?_
  refine lv_icmp_ge (tgt := 40) hx hb dX11_init_18 (by decide) (fun c20 => absurd c20 (by decide)) (fun c20 => ?_)
  refine lv_aload_n hx hb dX11_init_21 rfl (lv_at hl 1 rfl) ?_
  refine nn_get (k := 0) (j := 0) (ci := 10) (v := .ref q1) X G (Nat.le_of_ble_eq_true rfl) rfl rfl (by decide) inlX11 qw_1_13 rfl rfl dX11_init_22 ?_
  refine lv_iload_n hx hb dX11_init_25 rfl (lv_at hl 0 rfl) ?_
  refine nn_new (ci := 6) (C := RX7) (T := TX7) (Nf := 3) (fs := [.null, .int 0, .int 0]) X G rfl inlX7 tyX7 tyX7_ok qw_1_12 qw_1_14 qw_1_15 (fun j hj => by rcases (show j = 0 ∨ j = 1 ∨ j = 2 by omega) with rfl | rfl | rfl <;> rfl) (Nat.le_of_ble_eq_true rfl) (Nat.le_of_ble_eq_true rfl) dX11_init_26 (fun q21 H G => ?_)
  refine lv_dup hx hb dX11_init_29 rfl ?_
  refine nn_callIN (rest := [.ref q21, .int 6, .ref q1]) (As := []) X hl.1 G rfl (mk_X7) rfl (by decide +kernel) cw_X7_init nm_0 qw_3_6 rfl rfl rfl (Nat.le_of_ble_eq_true rfl) ⟨(Nat.le_of_ble_eq_true rfl), (Nat.le_of_ble_eq_true rfl)⟩ ⟨(Nat.le_of_ble_eq_true rfl), (Nat.le_of_ble_eq_true rfl)⟩ dX11_init_30 (fun qd22 H locs hq G => ?_)
  subst hq
  refine nn_ast (q0 := 1) (qk := 14) (ci := 6) (t := 5) (j := 6) X G (Nat.le_of_ble_eq_true rfl) rfl rfl (Nat.le_of_ble_eq_true rfl) rfl rfl (vp_nI (n := 6) (by decide) (by decide)) rfl rfl (by decide) dX11_init_33 (fun H locs G => ?_)
  refine lv_iinc (v := 7) (lv' := [(1, .int 7), (0, .ref a)]) hx hb dX11_init_34 hl (k := 0) rfl (by decide) (by decide) rfl (fun ls hl => ?_)
  refine lv_goto (tgt := 15) hx hb dX11_init_37 (by decide) ?_
  refine lv_iload_n hx hb dX11_init_15 rfl (lv_at hl 0 rfl) ?_
  refine lv_bipush (v := 8) hx hb dX11_init_16 (by decide) ?_
  refine lv_icmp_ge (tgt := 40) hx hb dX11_init_18 (by decide) (fun c23 => absurd c23 (by decide)) (fun c23 => ?_)
  refine lv_aload_n hx hb dX11_init_21 rfl (lv_at hl 1 rfl) ?_
  refine nn_get (k := 0) (j := 0) (ci := 10) (v := .ref q1) X G (Nat.le_of_ble_eq_true rfl) rfl rfl (by decide) inlX11 qw_1_13 rfl rfl dX11_init_22 ?_
  refine lv_iload_n hx hb dX11_init_25 rfl (lv_at hl 0 rfl) ?_
  refine nn_new (ci := 6) (C := RX7) (T := TX7) (Nf := 3) (fs := [.null, .int 0, .int 0]) X G rfl inlX7 tyX7 tyX7_ok qw_1_12 qw_1_14 qw_1_15 (fun j hj => by rcases (show j = 0 ∨ j = 1 ∨ j = 2 by omega) with rfl | rfl | rfl <;> rfl) (Nat.le_of_ble_eq_true rfl) (Nat.le_of_ble_eq_true rfl) dX11_init_26 (fun q24 H G => ?_)
  refine lv_dup hx hb dX11_init_29 rfl ?_
  refine nn_callIN (rest := [.ref q24, .int 7, .ref q1]) (As := []) X hl.1 G rfl (mk_X7) rfl (by decide +kernel) cw_X7_init nm_0 qw_3_6 rfl rfl rfl (Nat.le_of_ble_eq_true rfl) ⟨(Nat.le_of_ble_eq_true rfl), (Nat.le_of_ble_eq_true rfl)⟩ ⟨(Nat.le_of_ble_eq_true rfl), (Nat.le_of_ble_eq_true rfl)⟩ dX11_init_30 (fun qd25 H locs hq G => ?_)
  subst hq
  refine nn_ast (q0 := 1) (qk := 16) (ci := 6) (t := 5) (j := 7) X G (Nat.le_of_ble_eq_true rfl) rfl rfl (Nat.le_of_ble_eq_true rfl) rfl rfl (vp_nI (n := 7) (by decide) (by decide)) rfl rfl (by decide) dX11_init_33 (fun H locs G => ?_)
  refine lv_iinc (v := 8) (lv' := [(1, .int 8), (0, .ref a)]) hx hb dX11_init_34 hl (k := 0) rfl (by decide) (by decide) rfl (fun ls hl => ?_)
  refine lv_goto (tgt := 15) hx hb dX11_init_37 (by decide) ?_
  refine lv_iload_n hx hb dX11_init_15 rfl (lv_at hl 0 rfl) ?_
  refine lv_bipush (v := 8) hx hb dX11_init_16 (by decide) ?_
  refine lv_icmp_ge (tgt := 40) hx hb dX11_init_18 (by decide) (fun c26 => ?_) (fun c26 => absurd (by decide) c26)
  refine lv_aload_n hx hb dX11_init_40 rfl (lv_at hl 1 rfl) ?_
  refine lv_bipush (v := 6) hx hb dX11_init_41 (by decide) ?_
  refine nn_newq (t := 3) (N' := 6) X G rfl X.2.2.2.2.2.1.2.2.1 qw_1_16 (by decide) (by decide) (by decide) (Nat.le_of_ble_eq_true rfl) (Nat.le_of_ble_eq_true rfl) dX11_init_43 (fun q27 H G => ?_)
  refine nn_putF (k := 0) (j := 1) (ci := 10) X G hin (Nat.le_of_ble_eq_true rfl) rfl rfl (by decide) inlX11 tyX11 tyX11_ok nmX11 qw_1_17 rfl rfl (tyX11_ok 1 (by decide)) rfl rfl (Nat.le_of_ble_eq_true rfl) rfl dX11_init_46 (fun H locs G => ?_)
  refine lv_aload_n hx hb dX11_init_49 rfl (lv_at hl 1 rfl) ?_
  refine nn_get (k := 0) (j := 1) (ci := 10) (v := .ref q27) X G (Nat.le_of_ble_eq_true rfl) rfl rfl (by decide) inlX11 qw_1_17 rfl rfl dX11_init_50 ?_
  refine lv_iconst (v := 1) hx hb dX11_init_53 (by decide) ?_
  refine nn_new (ci := 4) (C := RX5) (T := TX5) (Nf := 0) (fs := []) X G rfl inlX5 tyX5 tyX5_ok qw_1_18 qw_1_19 qw_1_20 (fun j hj => absurd hj (Nat.not_lt_zero j)) (Nat.le_of_ble_eq_true rfl) (Nat.le_of_ble_eq_true rfl) dX11_init_54 (fun q28 H G => ?_)
  refine lv_dup hx hb dX11_init_57 rfl ?_
  refine nn_callIN (rest := [.ref q28, .int 1, .ref q27]) (As := []) X hl.1 G rfl (mk_X5) rfl (by decide +kernel) cw_X5_init nm_1 qw_3_11 rfl rfl rfl (Nat.le_of_ble_eq_true rfl) ⟨(Nat.le_of_ble_eq_true rfl), (Nat.le_of_ble_eq_true rfl)⟩ ⟨(Nat.le_of_ble_eq_true rfl), (Nat.le_of_ble_eq_true rfl)⟩ dX11_init_58 (fun qd29 H locs hq G => ?_)
  subst hq
  refine nn_astO (q0 := 18) (qk := 19) (ci := 4) (t := 3) (j := 1) X G (Nat.le_of_ble_eq_true rfl) rfl rfl NC5 (Nat.le_of_ble_eq_true rfl) rfl rfl (vp_nI (n := 1) (by decide) (by decide)) rfl rfl (by decide) dX11_init_61 (fun H locs G => ?_)
  refine lv_aload_n hx hb dX11_init_62 rfl (lv_at hl 1 rfl) ?_
  refine nn_get (k := 0) (j := 1) (ci := 10) (v := .ref q27) X G (Nat.le_of_ble_eq_true rfl) rfl rfl (by decide) inlX11 qw_1_17 rfl rfl dX11_init_63 ?_
  refine lv_iconst (v := 2) hx hb dX11_init_66 (by decide) ?_
  refine nn_new (ci := 9) (C := RX10) (T := TX10) (Nf := 0) (fs := []) X G rfl inlX10 tyX10 tyX10_ok qw_1_21 qw_1_22 qw_1_23 (fun j hj => absurd hj (Nat.not_lt_zero j)) (Nat.le_of_ble_eq_true rfl) (Nat.le_of_ble_eq_true rfl) dX11_init_67 (fun q30 H G => ?_)
  refine lv_dup hx hb dX11_init_70 rfl ?_
  refine nn_callIN (rest := [.ref q30, .int 2, .ref q27]) (As := []) X hl.1 G rfl (mk_X10) rfl (by decide +kernel) cw_X10_init nm_3 qw_3_17 rfl rfl rfl (Nat.le_of_ble_eq_true rfl) ⟨(Nat.le_of_ble_eq_true rfl), (Nat.le_of_ble_eq_true rfl)⟩ ⟨(Nat.le_of_ble_eq_true rfl), (Nat.le_of_ble_eq_true rfl)⟩ dX11_init_71 (fun qd31 H locs hq G => ?_)
  subst hq
  refine nn_astO (q0 := 18) (qk := 20) (ci := 9) (t := 3) (j := 2) X G (Nat.le_of_ble_eq_true rfl) rfl rfl NC10 (Nat.le_of_ble_eq_true rfl) rfl rfl (vp_nI (n := 2) (by decide) (by decide)) rfl rfl (by decide) dX11_init_74 (fun H locs G => ?_)
  refine lv_aload_n hx hb dX11_init_75 rfl (lv_at hl 1 rfl) ?_
  refine nn_get (k := 0) (j := 1) (ci := 10) (v := .ref q27) X G (Nat.le_of_ble_eq_true rfl) rfl rfl (by decide) inlX11 qw_1_17 rfl rfl dX11_init_76 ?_
  refine lv_iconst (v := 3) hx hb dX11_init_79 (by decide) ?_
  refine nn_new (ci := 7) (C := RX8) (T := TX8) (Nf := 0) (fs := []) X G rfl inlX8 tyX8 tyX8_ok qw_2_0 qw_2_1 qw_2_2 (fun j hj => absurd hj (Nat.not_lt_zero j)) (Nat.le_of_ble_eq_true rfl) (Nat.le_of_ble_eq_true rfl) dX11_init_80 (fun q32 H G => ?_)
  refine lv_dup hx hb dX11_init_83 rfl ?_
  refine nn_callIN (rest := [.ref q32, .int 3, .ref q27]) (As := []) X hl.1 G rfl (mk_X8) rfl (by decide +kernel) cw_X8_init nm_5 qw_3_19 rfl rfl rfl (Nat.le_of_ble_eq_true rfl) ⟨(Nat.le_of_ble_eq_true rfl), (Nat.le_of_ble_eq_true rfl)⟩ ⟨(Nat.le_of_ble_eq_true rfl), (Nat.le_of_ble_eq_true rfl)⟩ dX11_init_84 (fun qd33 H locs hq G => ?_)
  subst hq
  refine nn_astO (q0 := 18) (qk := 21) (ci := 7) (t := 3) (j := 3) X G (Nat.le_of_ble_eq_true rfl) rfl rfl NC8 (Nat.le_of_ble_eq_true rfl) rfl rfl (vp_nI (n := 3) (by decide) (by decide)) rfl rfl (by decide) dX11_init_87 (fun H locs G => ?_)
  refine lv_aload_n hx hb dX11_init_88 rfl (lv_at hl 1 rfl) ?_
  refine nn_get (k := 0) (j := 1) (ci := 10) (v := .ref q27) X G (Nat.le_of_ble_eq_true rfl) rfl rfl (by decide) inlX11 qw_1_17 rfl rfl dX11_init_89 ?_
  refine lv_iconst (v := 4) hx hb dX11_init_92 (by decide) ?_
  refine nn_new (ci := 2) (C := RX2) (T := TX2) (Nf := 0) (fs := []) X G rfl inlX2 tyX2 tyX2_ok qw_2_3 qw_2_4 qw_2_5 (fun j hj => absurd hj (Nat.not_lt_zero j)) (Nat.le_of_ble_eq_true rfl) (Nat.le_of_ble_eq_true rfl) dX11_init_93 (fun q34 H G => ?_)
  refine lv_dup hx hb dX11_init_96 rfl ?_
  refine nn_callIN (rest := [.ref q34, .int 4, .ref q27]) (As := []) X hl.1 G rfl (mk_X2) rfl (by decide +kernel) cw_X2_init nm_7 qw_3_21 rfl rfl rfl (Nat.le_of_ble_eq_true rfl) ⟨(Nat.le_of_ble_eq_true rfl), (Nat.le_of_ble_eq_true rfl)⟩ ⟨(Nat.le_of_ble_eq_true rfl), (Nat.le_of_ble_eq_true rfl)⟩ dX11_init_97 (fun qd35 H locs hq G => ?_)
  subst hq
  refine nn_astO (q0 := 18) (qk := 22) (ci := 2) (t := 3) (j := 4) X G (Nat.le_of_ble_eq_true rfl) rfl rfl NC2 (Nat.le_of_ble_eq_true rfl) rfl rfl (vp_nI (n := 4) (by decide) (by decide)) rfl rfl (by decide) dX11_init_100 (fun H locs G => ?_)
  refine lv_aload_n hx hb dX11_init_101 rfl (lv_at hl 1 rfl) ?_
  refine nn_get (k := 0) (j := 1) (ci := 10) (v := .ref q27) X G (Nat.le_of_ble_eq_true rfl) rfl rfl (by decide) inlX11 qw_1_17 rfl rfl dX11_init_102 ?_
  refine lv_iconst (v := 5) hx hb dX11_init_105 (by decide) ?_
  refine nn_new (ci := 1) (C := RX1) (T := TX1) (Nf := 0) (fs := []) X G rfl inlX1 tyX1 tyX1_ok qw_2_6 qw_2_7 qw_2_8 (fun j hj => absurd hj (Nat.not_lt_zero j)) (Nat.le_of_ble_eq_true rfl) (Nat.le_of_ble_eq_true rfl) dX11_init_106 (fun q36 H G => ?_)
  refine lv_dup hx hb dX11_init_109 rfl ?_
  refine nn_callIN (rest := [.ref q36, .int 5, .ref q27]) (As := []) X hl.1 G rfl (mk_X1) rfl (by decide +kernel) cw_X1_init nm_9 qw_3_23 rfl rfl rfl (Nat.le_of_ble_eq_true rfl) ⟨(Nat.le_of_ble_eq_true rfl), (Nat.le_of_ble_eq_true rfl)⟩ ⟨(Nat.le_of_ble_eq_true rfl), (Nat.le_of_ble_eq_true rfl)⟩ dX11_init_110 (fun qd37 H locs hq G => ?_)
  subst hq
  refine nn_astO (q0 := 18) (qk := 23) (ci := 1) (t := 3) (j := 5) X G (Nat.le_of_ble_eq_true rfl) rfl rfl NC1 (Nat.le_of_ble_eq_true rfl) rfl rfl (vp_nI (n := 5) (by decide) (by decide)) rfl rfl (by decide) dX11_init_113 (fun H locs G => ?_)
  refine lv_aload_n hx hb dX11_init_114 rfl (lv_at hl 1 rfl) ?_
  refine nn_new (ci := 8) (C := RX9) (T := TX9) (Nf := 8) (fs := [.null, .int 0, .int 0, .int 0, .int 0, .int 0, .int 0, .int 0]) X G rfl inlX9 tyX9 tyX9_ok qw_2_9 qw_2_10 qw_2_11 (fun j hj => by rcases (show j = 0 ∨ j = 1 ∨ j = 2 ∨ j = 3 ∨ j = 4 ∨ j = 5 ∨ j = 6 ∨ j = 7 by omega) with rfl | rfl | rfl | rfl | rfl | rfl | rfl | rfl <;> rfl) (Nat.le_of_ble_eq_true rfl) (Nat.le_of_ble_eq_true rfl) dX11_init_115 (fun q38 H G => ?_)
  refine lv_dup hx hb dX11_init_118 rfl ?_
  refine nn_callIN (rest := [.ref q38, .ref a]) (As := []) X hl.1 G rfl (mk_X9) rfl (by decide +kernel) cw_X9_init nm_11 qw_4_1 rfl rfl rfl (Nat.le_of_ble_eq_true rfl) ⟨(Nat.le_of_ble_eq_true rfl), (Nat.le_of_ble_eq_true rfl)⟩ ⟨(Nat.le_of_ble_eq_true rfl), (Nat.le_of_ble_eq_true rfl)⟩ dX11_init_119 (fun qd39 H locs hq G => ?_)
  subst hq
  refine nn_putF (k := 0) (j := 2) (ci := 10) X G hin (Nat.le_of_ble_eq_true rfl) rfl rfl (by decide) inlX11 tyX11 tyX11_ok nmX11 qw_2_12 rfl rfl (tyX11_ok 2 (by decide)) rfl rfl (Nat.le_of_ble_eq_true rfl) rfl dX11_init_122 (fun H locs G => ?_)
  refine lv_aload_n hx hb dX11_init_125 rfl (lv_at hl 1 rfl) ?_
  refine nn_new (ci := 5) (C := RX6) (T := TX6) (Nf := 14) (fs := [.null, .null, .null, .null, .null, .null, .null, .int 0, .int 0, .int 0, .int 0, .int 0, .int 0, .int 0]) X G rfl inlX6 tyX6 tyX6_ok qw_2_13 qw_2_14 qw_2_15 (fun j hj => by rcases (show j = 0 ∨ j = 1 ∨ j = 2 ∨ j = 3 ∨ j = 4 ∨ j = 5 ∨ j = 6 ∨ j = 7 ∨ j = 8 ∨ j = 9 ∨ j = 10 ∨ j = 11 ∨ j = 12 ∨ j = 13 by omega) with rfl | rfl | rfl | rfl | rfl | rfl | rfl | rfl | rfl | rfl | rfl | rfl | rfl | rfl <;> rfl) (Nat.le_of_ble_eq_true rfl) (Nat.le_of_ble_eq_true rfl) dX11_init_126 (fun q40 H G => ?_)
  refine lv_dup hx hb dX11_init_129 rfl ?_
  refine lv_aload_n hx hb dX11_init_130 rfl (lv_at hl 1 rfl) ?_
  refine nn_get (k := 0) (j := 1) (ci := 10) (v := .ref q27) X G (Nat.le_of_ble_eq_true rfl) rfl rfl (by decide) inlX11 qw_1_17 rfl rfl dX11_init_131 ?_
  refine nn_callIN (rest := [.ref q40, .ref a]) (As := [.ref q27]) X hl.1 G rfl (mk_X6) rfl (by decide +kernel) cw_X6_init nm_12 qw_4_5 rfl rfl rfl (Nat.le_of_ble_eq_true rfl) ⟨(Nat.le_of_ble_eq_true rfl), (Nat.le_of_ble_eq_true rfl)⟩ ⟨(Nat.le_of_ble_eq_true rfl), (Nat.le_of_ble_eq_true rfl)⟩ dX11_init_134 (fun qd41 H locs hq G => ?_)
  subst hq
  refine nn_putF (k := 0) (j := 3) (ci := 10) X G hin (Nat.le_of_ble_eq_true rfl) rfl rfl (by decide) inlX11 tyX11 tyX11_ok nmX11 qw_2_16 rfl rfl (tyX11_ok 3 (by decide)) rfl rfl (Nat.le_of_ble_eq_true rfl) rfl dX11_init_137 (fun H locs G => ?_)
  refine lv_aload_n hx hb dX11_init_140 rfl (lv_at hl 1 rfl) ?_
  refine nn_new (ci := 5) (C := RX6) (T := TX6) (Nf := 14) (fs := [.null, .null, .null, .null, .null, .null, .null, .int 0, .int 0, .int 0, .int 0, .int 0, .int 0, .int 0]) X G rfl inlX6 tyX6 tyX6_ok qw_2_13 qw_2_14 qw_2_15 (fun j hj => by rcases (show j = 0 ∨ j = 1 ∨ j = 2 ∨ j = 3 ∨ j = 4 ∨ j = 5 ∨ j = 6 ∨ j = 7 ∨ j = 8 ∨ j = 9 ∨ j = 10 ∨ j = 11 ∨ j = 12 ∨ j = 13 by omega) with rfl | rfl | rfl | rfl | rfl | rfl | rfl | rfl | rfl | rfl | rfl | rfl | rfl | rfl <;> rfl) (Nat.le_of_ble_eq_true rfl) (Nat.le_of_ble_eq_true rfl) dX11_init_141 (fun q42 H G => ?_)
  refine lv_dup hx hb dX11_init_144 rfl ?_
  refine lv_aload_n hx hb dX11_init_145 rfl (lv_at hl 1 rfl) ?_
  refine nn_get (k := 0) (j := 1) (ci := 10) (v := .ref q27) X G (Nat.le_of_ble_eq_true rfl) rfl rfl (by decide) inlX11 qw_1_17 rfl rfl dX11_init_146 ?_
  refine nn_callIN (rest := [.ref q42, .ref a]) (As := [.ref q27]) X hl.1 G rfl (mk_X6) rfl (by decide +kernel) cw_X6_init nm_12 qw_4_5 rfl rfl rfl (Nat.le_of_ble_eq_true rfl) ⟨(Nat.le_of_ble_eq_true rfl), (Nat.le_of_ble_eq_true rfl)⟩ ⟨(Nat.le_of_ble_eq_true rfl), (Nat.le_of_ble_eq_true rfl)⟩ dX11_init_149 (fun qd43 H locs hq G => ?_)
  subst hq
  refine nn_putF (k := 0) (j := 4) (ci := 10) X G hin (Nat.le_of_ble_eq_true rfl) rfl rfl (by decide) inlX11 tyX11 tyX11_ok nmX11 qw_2_17 rfl rfl (tyX11_ok 4 (by decide)) rfl rfl (Nat.le_of_ble_eq_true rfl) rfl dX11_init_152 (fun H locs G => ?_)
  refine lv_aload_n hx hb dX11_init_155 rfl (lv_at hl 1 rfl) ?_
  refine lv_iconst (v := 2) hx hb dX11_init_156 (by decide) ?_
  refine nn_newq (t := 4) (N' := 2) X G rfl X.2.2.2.2.2.1.2.2.2.1 qw_2_13 (by decide) (by decide) (by decide) (Nat.le_of_ble_eq_true rfl) (Nat.le_of_ble_eq_true rfl) dX11_init_157 (fun q44 H G => ?_)
  refine nn_putF (k := 0) (j := 5) (ci := 10) X G hin (Nat.le_of_ble_eq_true rfl) rfl rfl (by decide) inlX11 tyX11 tyX11_ok nmX11 qw_2_18 rfl rfl (tyX11_ok 5 (by decide)) rfl rfl (Nat.le_of_ble_eq_true rfl) rfl dX11_init_160 (fun H locs G => ?_)
  refine lv_iconst (v := 0) hx hb dX11_init_163 (by decide) ?_
  refine lv_istore_n (lv' := [(1, .int 0), (0, .ref a)]) hx hb dX11_init_164 rfl hl (by decide) rfl (fun ls hl => ?_)
  refine lv_iload_n hx hb dX11_init_165 rfl (lv_at hl 0 rfl) ?_
  refine lv_iconst (v := 2) hx hb dX11_init_166 (by decide) ?_
  refine lv_icmp_ge (tgt := 193) hx hb dX11_init_167 (by decide) (fun c45 => absurd c45 (by decide)) (fun c45 => ?_)
  refine lv_aload_n hx hb dX11_init_170 rfl (lv_at hl 1 rfl) ?_
  refine nn_get (k := 0) (j := 5) (ci := 10) (v := .ref q44) X G (Nat.le_of_ble_eq_true rfl) rfl rfl (by decide) inlX11 qw_2_18 rfl rfl dX11_init_171 ?_
  refine lv_iload_n hx hb dX11_init_174 rfl (lv_at hl 0 rfl) ?_
  refine nn_new (ci := 5) (C := RX6) (T := TX6) (Nf := 14) (fs := [.null, .null, .null, .null, .null, .null, .null, .int 0, .int 0, .int 0, .int 0, .int 0, .int 0, .int 0]) X G rfl inlX6 tyX6 tyX6_ok qw_2_13 qw_2_14 qw_2_15 (fun j hj => by rcases (show j = 0 ∨ j = 1 ∨ j = 2 ∨ j = 3 ∨ j = 4 ∨ j = 5 ∨ j = 6 ∨ j = 7 ∨ j = 8 ∨ j = 9 ∨ j = 10 ∨ j = 11 ∨ j = 12 ∨ j = 13 by omega) with rfl | rfl | rfl | rfl | rfl | rfl | rfl | rfl | rfl | rfl | rfl | rfl | rfl | rfl <;> rfl) (Nat.le_of_ble_eq_true rfl) (Nat.le_of_ble_eq_true rfl) dX11_init_175 (fun q46 H G => ?_)
  refine lv_dup hx hb dX11_init_178 rfl ?_
  refine lv_aload_n hx hb dX11_init_179 rfl (lv_at hl 1 rfl) ?_
  refine nn_get (k := 0) (j := 1) (ci := 10) (v := .ref q27) X G (Nat.le_of_ble_eq_true rfl) rfl rfl (by decide) inlX11 qw_1_17 rfl rfl dX11_init_180 ?_
  refine nn_callIN (rest := [.ref q46, .int 0, .ref q44]) (As := [.ref q27]) X hl.1 G rfl (mk_X6) rfl (by decide +kernel) cw_X6_init nm_12 qw_4_5 rfl rfl rfl (Nat.le_of_ble_eq_true rfl) ⟨(Nat.le_of_ble_eq_true rfl), (Nat.le_of_ble_eq_true rfl)⟩ ⟨(Nat.le_of_ble_eq_true rfl), (Nat.le_of_ble_eq_true rfl)⟩ dX11_init_183 (fun qd47 H locs hq G => ?_)
  subst hq
  refine nn_ast (q0 := 40) (qk := 41) (ci := 5) (t := 4) (j := 0) X G (Nat.le_of_ble_eq_true rfl) rfl rfl (Nat.le_of_ble_eq_true rfl) rfl rfl (vp_nI (n := 0) (by decide) (by decide)) rfl rfl (by decide) dX11_init_186 (fun H locs G => ?_)
  refine lv_iinc (v := 1) (lv' := [(1, .int 1), (0, .ref a)]) hx hb dX11_init_187 hl (k := 0) rfl (by decide) (by decide) rfl (fun ls hl => ?_)
  refine lv_goto (tgt := 165) hx hb dX11_init_190 (by decide) ?_
  refine lv_iload_n hx hb dX11_init_165 rfl (lv_at hl 0 rfl) ?_
  refine lv_iconst (v := 2) hx hb dX11_init_166 (by decide) ?_
  refine lv_icmp_ge (tgt := 193) hx hb dX11_init_167 (by decide) (fun c48 => absurd c48 (by decide)) (fun c48 => ?_)
  refine lv_aload_n hx hb dX11_init_170 rfl (lv_at hl 1 rfl) ?_
  refine nn_get (k := 0) (j := 5) (ci := 10) (v := .ref q44) X G (Nat.le_of_ble_eq_true rfl) rfl rfl (by decide) inlX11 qw_2_18 rfl rfl dX11_init_171 ?_
  refine lv_iload_n hx hb dX11_init_174 rfl (lv_at hl 0 rfl) ?_
  refine nn_new (ci := 5) (C := RX6) (T := TX6) (Nf := 14) (fs := [.null, .null, .null, .null, .null, .null, .null, .int 0, .int 0, .int 0, .int 0, .int 0, .int 0, .int 0]) X G rfl inlX6 tyX6 tyX6_ok qw_2_13 qw_2_14 qw_2_15 (fun j hj => by rcases (show j = 0 ∨ j = 1 ∨ j = 2 ∨ j = 3 ∨ j = 4 ∨ j = 5 ∨ j = 6 ∨ j = 7 ∨ j = 8 ∨ j = 9 ∨ j = 10 ∨ j = 11 ∨ j = 12 ∨ j = 13 by omega) with rfl | rfl | rfl | rfl | rfl | rfl | rfl | rfl | rfl | rfl | rfl | rfl | rfl | rfl <;> rfl) (Nat.le_of_ble_eq_true rfl) (Nat.le_of_ble_eq_true rfl) dX11_init_175 (fun q49 H G => ?_)
  refine lv_dup hx hb dX11_init_178 rfl ?_
  refine lv_aload_n hx hb dX11_init_179 rfl (lv_at hl 1 rfl) ?_
  refine nn_get (k := 0) (j := 1) (ci := 10) (v := .ref q27) X G (Nat.le_of_ble_eq_true rfl) rfl rfl (by decide) inlX11 qw_1_17 rfl rfl dX11_init_180 ?_
  refine nn_callIN (rest := [.ref q49, .int 1, .ref q44]) (As := [.ref q27]) X hl.1 G rfl (mk_X6) rfl (by decide +kernel) cw_X6_init nm_12 qw_4_5 rfl rfl rfl (Nat.le_of_ble_eq_true rfl) ⟨(Nat.le_of_ble_eq_true rfl), (Nat.le_of_ble_eq_true rfl)⟩ ⟨(Nat.le_of_ble_eq_true rfl), (Nat.le_of_ble_eq_true rfl)⟩ dX11_init_183 (fun qd50 H locs hq G => ?_)
  subst hq
  refine nn_ast (q0 := 40) (qk := 48) (ci := 5) (t := 4) (j := 1) X G (Nat.le_of_ble_eq_true rfl) rfl rfl (Nat.le_of_ble_eq_true rfl) rfl rfl (vp_nI (n := 1) (by decide) (by decide)) rfl rfl (by decide) dX11_init_186 (fun H locs G => ?_)
  refine lv_iinc (v := 2) (lv' := [(1, .int 2), (0, .ref a)]) hx hb dX11_init_187 hl (k := 0) rfl (by decide) (by decide) rfl (fun ls hl => ?_)
  refine lv_goto (tgt := 165) hx hb dX11_init_190 (by decide) ?_
  refine lv_iload_n hx hb dX11_init_165 rfl (lv_at hl 0 rfl) ?_
  refine lv_iconst (v := 2) hx hb dX11_init_166 (by decide) ?_
  refine lv_icmp_ge (tgt := 193) hx hb dX11_init_167 (by decide) (fun c51 => ?_) (fun c51 => absurd (by decide) c51)
  refine lv_aload_n hx hb dX11_init_193 rfl (lv_at hl 1 rfl) ?_
  refine nn_new (ci := 3) (C := RX4) (T := TX4) (Nf := 3) (fs := [.null, .null, .null]) X G rfl inlX4 tyX4 tyX4_ok qw_2_19 qw_2_20 qw_2_21 (fun j hj => by rcases (show j = 0 ∨ j = 1 ∨ j = 2 by omega) with rfl | rfl | rfl <;> rfl) (Nat.le_of_ble_eq_true rfl) (Nat.le_of_ble_eq_true rfl) dX11_init_194 (fun q52 H G => ?_)
  refine lv_dup hx hb dX11_init_197 rfl ?_
  refine lv_aload_n hx hb dX11_init_198 rfl (lv_at hl 1 rfl) ?_
  refine nn_get (k := 0) (j := 3) (ci := 10) (v := .ref (qd41 0)) X G (Nat.le_of_ble_eq_true rfl) rfl rfl (by decide) inlX11 qw_2_16 rfl rfl dX11_init_199 ?_
  refine lv_aload_n hx hb dX11_init_202 rfl (lv_at hl 1 rfl) ?_
  refine nn_get (k := 0) (j := 1) (ci := 10) (v := .ref q27) X G (Nat.le_of_ble_eq_true rfl) rfl rfl (by decide) inlX11 qw_1_17 rfl rfl dX11_init_203 ?_
  refine nn_callIN (rest := [.ref q52, .ref a]) (As := [.ref (qd41 0), .ref q27]) X hl.1 G rfl (mk_X4) rfl (by decide +kernel) cw_X4_init nm_13 qw_4_15 rfl rfl rfl (Nat.le_of_ble_eq_true rfl) ⟨(Nat.le_of_ble_eq_true rfl), (Nat.le_of_ble_eq_true rfl)⟩ ⟨(Nat.le_of_ble_eq_true rfl), (Nat.le_of_ble_eq_true rfl)⟩ dX11_init_206 (fun qd53 H locs hq G => ?_)
  subst hq
  refine nn_putF (k := 0) (j := 6) (ci := 10) X G hin (Nat.le_of_ble_eq_true rfl) rfl rfl (by decide) inlX11 tyX11 tyX11_ok nmX11 qw_2_22 rfl rfl (tyX11_ok 6 (by decide)) rfl rfl (Nat.le_of_ble_eq_true rfl) rfl dX11_init_209 (fun H locs G => ?_)
  refine lv_aload_n hx hb dX11_init_212 rfl (lv_at hl 1 rfl) ?_
  refine nn_new (ci := 0) (C := RX0) (T := TX0) (Nf := 5) (fs := [.null, .int 0, .int 0, .int 0, .int 0]) X G rfl inlX0 tyX0 tyX0_ok qw_2_23 qw_3_0 qw_3_1 (fun j hj => by rcases (show j = 0 ∨ j = 1 ∨ j = 2 ∨ j = 3 ∨ j = 4 by omega) with rfl | rfl | rfl | rfl | rfl <;> rfl) (Nat.le_of_ble_eq_true rfl) (Nat.le_of_ble_eq_true rfl) dX11_init_213 (fun q54 H G => ?_)
  refine lv_dup hx hb dX11_init_216 rfl ?_
  refine nn_callIN (rest := [.ref q54, .ref a]) (As := []) X hl.1 G rfl (mk_X0) rfl (by decide +kernel) cw_X0_init nm_15 qw_4_22 rfl rfl rfl (Nat.le_of_ble_eq_true rfl) ⟨(Nat.le_of_ble_eq_true rfl), (Nat.le_of_ble_eq_true rfl)⟩ ⟨(Nat.le_of_ble_eq_true rfl), (Nat.le_of_ble_eq_true rfl)⟩ dX11_init_217 (fun qd55 H locs hq G => ?_)
  subst hq
  refine nn_putF (k := 0) (j := 7) (ci := 10) X G hin (Nat.le_of_ble_eq_true rfl) rfl rfl (by decide) inlX11 tyX11 tyX11_ok nmX11 qw_3_2 rfl rfl (tyX11_ok 7 (by decide)) rfl rfl (Nat.le_of_ble_eq_true rfl) rfl dX11_init_220 (fun H locs G => ?_)
  refine lv_aload_n hx hb dX11_init_223 rfl (lv_at hl 1 rfl) ?_
  refine lv_bipush (v := 24) hx hb dX11_init_224 (by decide) ?_
  refine lv_bipush (v := 22) hx hb dX11_init_226 (by decide) ?_
  refine nn_mna (N' := 24) (K' := 22) X G qw_3_3 (by decide) (by decide) (by decide) (by decide) (by decide) (by decide) (by decide) (Nat.le_of_ble_eq_true rfl) (Nat.le_of_ble_eq_true rfl) (fun _ => arrV_new _ _ _) dX11_init_228 (fun q56 r57 H G => ?_)
  refine nn_putF (k := 0) (j := 8) (ci := 10) X G hin (Nat.le_of_ble_eq_true rfl) rfl rfl (by decide) inlX11 tyX11 tyX11_ok nmX11 qw_3_5 rfl rfl (tyX11_ok 8 (by decide)) rfl rfl (Nat.le_of_ble_eq_true rfl) rfl dX11_init_232 (fun H locs G => ?_)
  have G := G.rows (k := 1) (t := 5) (Nat.le_of_ble_eq_true rfl) rfl (fun ad i => some (ad (perm (2 + 2 * i)))) (fun j hj => by rcases (show j = 0 ∨ j = 1 ∨ j = 2 ∨ j = 3 ∨ j = 4 ∨ j = 5 ∨ j = 6 ∨ j = 7 by omega) with rfl | rfl | rfl | rfl | rfl | rfl | rfl | rfl <;> rfl)
  have G := G.rows (k := 18) (t := 3) (Nat.le_of_ble_eq_true rfl) rfl (fun ad i => if i = 0 then none else some (ad (perm (18 + i)))) (fun j hj => by rcases (show j = 0 ∨ j = 1 ∨ j = 2 ∨ j = 3 ∨ j = 4 ∨ j = 5 by omega) with rfl | rfl | rfl | rfl | rfl | rfl <;> rfl)
  have G := G.rows (k := 40) (t := 4) (Nat.le_of_ble_eq_true rfl) rfl (fun ad i => some (ad (perm (41 + 7 * i)))) (fun j hj => by rcases (show j = 0 ∨ j = 1 by omega) with rfl | rfl <;> rfl)
  have G := G.rows (k := 66) (t := 6) (Nat.le_of_ble_eq_true rfl) rfl (fun ad i => some (ad (perm (67 + i)))) (fun j hj => by rw [if_pos hj, perm_hi]; exact congrArg some (cat_hi (by omega)).symm)
  exact nn_ret X G hr rfl (by rfl) dX11_init_235
end
