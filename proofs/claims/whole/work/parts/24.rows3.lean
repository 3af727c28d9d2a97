theorem e_lift (b : Nat) (M : Mm) (K : Mm → Prop) : f_X7_lift b M K = K (gU (gU M b 1 (-1)) b 2 0) := by
  unfold f_X7_lift
  exact propext ⟨fun h => h _ rfl _ rfl, fun h _ e _ e' => by rw [e', e]; exact h⟩
theorem op_drop {Mc Mr : Mm} (hI : Inv Mc Mr) (a : Int32) : f_X11_drop a Mc (fun r Mc' => f_X12_drop a Mr (fun r' Mr' => r = r' ∧ Inv Mc' Mr')) := by
  simp only [f_X11_drop, f_X12_drop, e_rowAt, e_isRow, e_missing, br_eq, b2i_0, e_lift, e_sound, e_found, e_rfound, e_well]
  by_cases ha : 0 ≤ a.toInt ∧ a.toInt < 8
  · simp only [if_pos ha, not_true, if_false, ha, reduceCtorEq, false_implies, true_and, Option.some.injEq, forall_eq', and_self]
    obtain ⟨r, hr, rfl⟩ := of_arg (n := 8) (by decide) ha
    rw [nI_cl (by omega)]
    refine ⟨by unfold isRow; omega, ?_⟩
    have hv : vp_in (nI r) 8 := vp_nI hr (by decide)
    simp only [hv, true_and]
    rcases hI.1 r hr with ⟨m1, m2⟩ | ⟨L, S, hL, hS, m1, m2, m3, m4, m5⟩
    · simp only [m1, m2, not_true, if_false, if_true]
      first | exact hI.find 1 | exact ⟨trivial, hI.find 1⟩
    · have n1 : ¬ (nI L = (-1 : Int32)) := by rw [nI_neg (by omega) (by decide)]; exact id
      have n2 : ¬ (nI L = (-1000000 : Int32)) := by rw [nI_neg (by omega) (by decide)]; exact id
      simp only [m1, m2, n1, n2, not_false_eq_true, if_true, if_false, forall_eq]
      refine ⟨by rw [gU_cell (by omega), m3, m4], Inv.find ?_ 0⟩
      obtain ⟨h1, h2, h3⟩ := hI
      exact ⟨h1.one hr (fun k _ _ q1 q2 => by rw [gU_cell q1, gU_cell q1]) (fun j _ hj => by rw [gU_place hj]) (fun j _ _ => by rw [gU_cell (by omega)]) (fun j hj => by rw [gU_cell (by omega)]) (Or.inl ⟨by rw [gU_place (by omega), gU_same], by rw [gU_same]⟩), by rw [gU_cell (by omega), gU_cell (by omega), gU_cell (by omega)]; exact h2, h3.congr (fun j hj => by rw [gU_cell (by omega), gU_cell (by omega)]) (fun k hk => by rw [gU_cell (by omega), gU_cell (by omega)]) (fun j hj => by rw [gU_cell (by omega)]) (fun k hk => gU_cell (by omega))⟩
  · simp only [if_neg ha, ha, not_false_eq_true, if_true, true_implies, reduceCtorEq, false_implies, implies_true, and_true]
    first | exact hI | exact ⟨trivial, hI⟩
theorem s_rcopy {ra rb i j n : Nat} (ha : ra < 8) (hb : rb < 8) (hi : i + n ≤ 40) (hj : j + n ≤ 40) {M : Mm} {K : Int32 → Mm → Prop} (h : ∀ M' : Mm, (∀ k, k ≠ 3 → k ≠ 4 → M' k = M k) → (∀ q, M' 3 q = if 40 * rb + j ≤ q ∧ q < 40 * rb + j + n then M 3 (40 * ra + i + (q - (40 * rb + j))) else M 3 q) → K (nI n) (gU M' 0 4 0)) : ∃ z, l_X12_copy_98 K (nI ra) (nI i) (nI rb) (nI j) (nI n) z 0 M := by
  have ex : ∀ (r i k : Nat), (40 : Int32) * nI r + nI i + nI k = nI (40 * r + i + k) := by
    intro r i k
    rw [show (40 : Int32) = nI 40 from rfl, pk_mul, nI_add, nI_add]
  have L2 : ∀ (k q : Nat) (M1 : Mm), q + k = n → (∀ k, k ≠ 3 → k ≠ 4 → M1 k = M k) → (∀ t, t < n → M1 4 t = M 3 (40 * ra + i + t)) → (∀ t, M1 3 t = if 40 * rb + j ≤ t ∧ t < 40 * rb + j + q then M 3 (40 * ra + i + (t - (40 * rb + j))) else M 3 t) → l_X12_copy_135 K (nI rb) (nI j) (nI n) (k + 1) (nI q) M1 := by
    intro k
    induction k with
    | zero =>
      intro q M1 hq h1 h2 h3
      rw [l_X12_copy_135]
      refine br_t (show nI n ≤ nI q by rw [le_I, nI_I (by omega), nI_I (by omega)]; omega) ?_
      rw [e_well]
      refine h M1 h1 ?_
      rw [show n = q by omega]
      exact h3
    | succ k ih =>
      intro q M1 hq h1 h2 h3
      rw [l_X12_copy_135]
      refine br_f (show ¬ nI n ≤ nI q by rw [le_I, nI_I (by omega), nI_I (by omega)]; omega) ?_
      rw [ex, nI_cl (show 40 * rb + j + q < 2147483648 by omega), nI_cl (show q < 2147483648 by omega)]
      refine ⟨vp_nI (by omega) (by decide), vp_nI (by omega) (by decide), fun M6 e => ?_⟩
      rw [nI_1]
      refine ih (q + 1) M6 (by omega) (fun t q1 q2 => by rw [e, gU_cell q1]; exact h1 t q1 q2) (fun t ht => by rw [e, gU_cell (by omega)]; exact h2 t ht) (fun t => ?_)
      rw [e, gU_at]
      by_cases htq : t = 40 * rb + j + q
      · subst htq
        rw [if_pos ⟨rfl, rfl⟩, if_pos (by omega), h2 q (by omega)]
        congr 1; omega
      · rw [if_neg (by omega), h3 t]
        by_cases hin : 40 * rb + j ≤ t ∧ t < 40 * rb + j + q
        · rw [if_pos hin, if_pos (by omega)]
        · rw [if_neg hin, if_neg (by omega)]
  have L1 : ∀ (k q : Nat) (M1 : Mm), q + k = n → (∀ k, k ≠ 4 → M1 k = M k) → (∀ t, t < q → M1 4 t = M 3 (40 * ra + i + t)) → l_X12_copy_98 K (nI ra) (nI i) (nI rb) (nI j) (nI n) (k + 1) (nI q) M1 := by
    intro k
    induction k with
    | zero =>
      intro q M1 hq h1 h2
      rw [l_X12_copy_98]
      refine br_t (show nI n ≤ nI q by rw [le_I, nI_I (by omega), nI_I (by omega)]; omega) ?_
      exact ⟨n + 1, L2 n 0 M1 (by omega) (fun t q1 q2 => h1 t q2) (fun t ht => h2 t (by omega)) (fun t => by rw [h1 3 (by omega), if_neg (by omega)])⟩
    | succ k ih =>
      intro q M1 hq h1 h2
      rw [l_X12_copy_98]
      refine br_f (show ¬ nI n ≤ nI q by rw [le_I, nI_I (by omega), nI_I (by omega)]; omega) ?_
      rw [ex, nI_cl (show 40 * ra + i + q < 2147483648 by omega), nI_cl (show q < 2147483648 by omega)]
      refine ⟨vp_nI (by omega) (by decide), vp_nI (by omega) (by decide), fun M6 e => ?_⟩
      rw [nI_1]
      refine ih (q + 1) M6 (by omega) (fun t q1 => by rw [e, gU_cell q1]; exact h1 t q1) (fun t ht => ?_)
      rw [e, gU_at]
      by_cases htq : t = q
      · subst htq; rw [if_pos ⟨rfl, rfl⟩, h1 3 (by omega)]
      · rw [if_neg (by omega)]; exact h2 t (by omega)
  exact ⟨n + 1, L1 n 0 M (by omega) (fun _ _ => rfl) (fun t ht => absurd ht (Nat.not_lt_zero t))⟩
theorem op_copy {Mc Mr : Mm} (hI : Inv Mc Mr) (a b c d e : Int32) : f_X11_copy a b c d e Mc (fun r Mc' => f_X12_copy a b c d e Mr (fun r' Mr' => r = r' ∧ Inv Mc' Mr')) := by
  simp only [f_X11_copy, f_X12_copy, f_X11_copy_91, f_X11_copy_43, f_X12_copy_39, f_X12_copy_89, e_rowAt, e_isRow, e_missing, br_eq, b2i_0, e_sound, e_found, e_rfound]
  by_cases ha : 0 ≤ a.toInt ∧ a.toInt < 8
  · simp only [if_pos ha, not_true, if_false, ha, reduceCtorEq, false_implies, true_and, Option.some.injEq, forall_eq', and_self]
    by_cases hc : 0 ≤ c.toInt ∧ c.toInt < 8
    · simp only [if_pos hc, not_true, if_false, hc, reduceCtorEq, false_implies, true_and, Option.some.injEq, forall_eq', and_self]
      obtain ⟨ra, hra, rfl⟩ := of_arg (n := 8) (by decide) ha
      obtain ⟨rb, hrb, rfl⟩ := of_arg (n := 8) (by decide) hc
      rw [nI_cl (show ra < 2147483648 by omega), nI_cl (show rb < 2147483648 by omega)]
      have hva : vp_in (nI ra) 8 := vp_nI hra (by decide)
      have hvb : vp_in (nI rb) 8 := vp_nI hrb (by decide)
      have hwa : isRow (2 + 2 * ra) := by unfold isRow; omega
      have hwb : isRow (2 + 2 * rb) := by unfold isRow; omega
      simp only [hva, hvb, hwa, hwb, true_and]
      rcases hI.1 ra hra with ⟨m1, m2⟩ | ⟨L, S, hL, hS, m1, m2, m3, m4, m5⟩
      · simp only [m1, m2, not_true, if_false, if_true]
        first | exact hI.find 1 | exact ⟨trivial, hI.find 1⟩
      · have n1 : ¬ (nI L = (-1 : Int32)) := by rw [nI_neg (by omega) (by decide)]; exact id
        have n2 : ¬ (nI L = (-1000000 : Int32)) := by rw [nI_neg (by omega) (by decide)]; exact id
        simp only [m1, m2, n1, n2, not_false_eq_true, if_true, if_false]
        rcases hI.1 rb hrb with ⟨w1, w2⟩ | ⟨L', S', hL', hS', w1, w2, w3, w4, w5⟩
        · simp only [w1, w2, not_true, if_false, if_true]
          first | exact hI.find 1 | exact ⟨trivial, hI.find 1⟩
        · have n3 : ¬ (nI L' = (-1 : Int32)) := by rw [nI_neg (by omega) (by decide)]; exact id
          have n4 : ¬ (nI L' = (-1000000 : Int32)) := by rw [nI_neg (by omega) (by decide)]; exact id
          simp only [w1, w2, n3, n4, not_false_eq_true, if_true, if_false, nI_ne (show L < 2147483648 by omega) (show L' < 2147483648 by omega)]
          by_cases hLL : L = L'
          · simp only [if_pos hLL, e_has b e m3 hS, e_isIn hra b e m4 hS, e_has d e w3 hS', e_isIn hrb d e w4 hS', b2i_0]
            by_cases hp : 0 ≤ b.toInt ∧ 0 ≤ e.toInt ∧ b.toInt + e.toInt ≤ S
            · simp only [if_neg (not_not_intro hp)]
              by_cases hq : 0 ≤ d.toInt ∧ 0 ≤ e.toInt ∧ d.toInt + e.toInt ≤ S'
              · simp only [if_neg (not_not_intro hq)]
                obtain ⟨i, hi, rfl⟩ := of_arg (n := 41) (a := b) (by decide) (by omega)
                obtain ⟨j, hj, rfl⟩ := of_arg (n := 41) (a := d) (by decide) (by omega)
                obtain ⟨n, hn, rfl⟩ := of_arg (n := 41) (a := e) (by decide) (by omega)
                rw [nI_I (by omega), nI_I (by omega)] at hp hq
                rw [nI_cl (show i < 2147483648 by omega), nI_cl (show j < 2147483648 by omega), nI_cl (show n < 2147483648 by omega)]
                refine ⟨⟨by rw [lt_I, nI_I (by omega)]; show ¬ (i : Int) < 0; omega, by rw [lt_I, nI_I (by omega)]; show ¬ (j : Int) < 0; omega, by rw [lt_I, nI_I (by omega)]; show ¬ (n : Int) < 0; omega, by rw [nI_cl (by omega), nI_cl (by omega)]; omega, by rw [nI_cl (by omega), nI_cl (by omega)]; omega⟩, fun M27 e27 => s_rcopy hra hrb (by omega) (by omega) (fun M' k1 k2 => ⟨rfl, Inv.find ?_ 0⟩)⟩
                obtain ⟨h1, h2, h3⟩ := hI
                subst e27
                refine ⟨h1.one hrb (fun k _ _ q1 q2 => gCp_cell q2) (fun t _ ht => by rw [k1 1 (by omega) (by omega)]) (fun t _ ht => by rw [k1 2 (by omega) (by omega)]) (fun t ht => by rw [k2 t, if_neg (by omega)]) (Or.inr ⟨L', S', hL', hS', by rw [gCp_cell (by omega)]; exact w1, by rw [k1 1 (by omega) (by omega)]; exact w2, by rw [gCp_cell (by omega)]; exact w3, by rw [k1 2 (by omega) (by omega)]; exact w4, fun k hk => ?_⟩), by rw [gCp_cell (by omega), k1 0 (by omega) (by omega)]; exact h2, h3.congr (fun t ht => by rw [gCp_cell (by omega)]) (fun k hk => gCp_cell (by omega)) (fun t ht => by rw [k1 0 (by omega) (by omega)]) (fun k hk => k1 k (by omega) (by omega))⟩
                rw [gCp_at, k2 (40 * rb + k)]
                by_cases hin : j ≤ k ∧ k < j + n
                · rw [if_pos ⟨rfl, hin⟩, if_pos (by omega), m5 _ (by omega)]
                  congr 1; omega
                · rw [if_neg (by omega), if_neg (by omega)]
                  exact w5 k hk
              · simp only [if_pos hq]
                first | exact hI.find 2 | exact ⟨trivial, hI.find 2⟩
            · simp only [if_pos hp]
              first | exact hI.find 2 | exact ⟨trivial, hI.find 2⟩
          · simp only [if_neg hLL]
            first | exact hI.find 5 | exact ⟨trivial, hI.find 5⟩
    · simp only [if_neg hc, hc, not_false_eq_true, if_true, true_implies, reduceCtorEq, false_implies, implies_true, and_true]
      first | exact hI | exact ⟨trivial, hI⟩
  · simp only [if_neg ha, ha, not_false_eq_true, if_true, true_implies, reduceCtorEq, false_implies, implies_true, and_true]
    by_cases hc : 0 ≤ c.toInt ∧ c.toInt < 8
    · simp only [if_pos hc, reduceCtorEq, false_implies, true_and, Option.some.injEq, forall_eq']
      first | exact hI | exact ⟨trivial, hI⟩
    · simp only [if_neg hc, true_implies, reduceCtorEq, false_implies, implies_true, and_true]
      first | exact hI | exact ⟨trivial, hI⟩
/-- the part of the paper, where the paper, its acts and images stand -/
theorem PartP.but {Mc Mr Mc' Mr' : Mm} (h : PartP Mc Mr) (hf : Mc' 0 12 = Mr' 0 12) (ht : TapeRel Mc' Mr') (hr : TraceRel Mc' Mr') (c9 : Mc' 0 9 = Mc 0 9) (c10 : Mc' 0 10 = Mc 0 10) (ck : ∀ k, (26 ≤ k ∧ k ≤ 32) ∨ (41 ≤ k ∧ k ≤ 54) ∨ 67 ≤ k → Mc' k = Mc k) (r19 : Mr' 0 19 = Mr 0 19) (r20 : Mr' 0 20 = Mr 0 20) (rk : ∀ k, k = 7 ∨ k = 9 ∨ k = 11 ∨ k = 12 ∨ k = 13 ∨ k = 14 → Mr' k = Mr k) : PartP Mc' Mr' := by
  obtain ⟨a, b, c, A, d, e, f, g1, g2, g3⟩ := h
  refine ⟨hf, ht, hr, A, d.congr (fun k h1 h2 => ck k (by omega)), ?_, f.congr c9 c10 (fun k hk' => ck k (by omega)) r19 (rk 11 (by omega)), g1.congr (fun q h1 h2 => ck q (by omega)) (rk 14 (by omega)) (rk 12 (by omega)) (rk 13 (by omega)), g2.congr (fun q h1 h2 => ck q (by omega)) (rk 14 (by omega)) (rk 12 (by omega)) (rk 13 (by omega)), ?_⟩
  · rw [rk 7 (by omega), rk 9 (by omega)]; exact e
  · unfold ReadRel at g3 ⊢
    rw [r20, r19, rk 14 (by omega)]
    exact g3
theorem op_feed {Mc Mr : Mm} (hI : Inv Mc Mr) (a : Int32) : f_X11_feed a Mc (fun r Mc' => f_X12_feed a Mr (fun r' Mr' => r = r' ∧ Inv Mc' Mr')) := by
  have e0 : (0 : Int32).toInt = 0 := rfl
  have e255 : (255 : Int32).toInt = 255 := rfl
  have e90 : (90 : Int32).toInt = 90 := rfl
  have hI0 := hI
  obtain ⟨h1, h2, h3⟩ := hI
  obtain ⟨t, ht, t1, t2, t3⟩ := h3.2.1
  simp only [f_X11_feed, f_X9_add, f_X12_feed, e_in, br_eq, b2i_0, lt_I, le_I, e0, e255, t1, t2, nI_I (show t < 2147483648 by omega), e90]
  by_cases ha : 0 ≤ a.toInt ∧ a.toInt < 256
  · have g1 : ¬ a.toInt < 0 := by omega
    have g2 : a.toInt ≤ 255 := by omega
    have g3 : 0 ≤ a.toInt ∧ a.toInt ≤ 255 := by omega
    simp only [g1, g2, g3, not_true, if_false, if_true, and_self]
    by_cases htt : (t : Int) < 90
    · have g4 : ¬ (nI t = (90 : Int32)) := by
        rw [show (90 : Int32) = nI 90 from rfl, nI_eq (by omega) (by decide)]; omega
      simp only [htt, g4, if_true, if_false, nI_cl (show t < 2147483648 by omega)]
      refine ⟨vp_nI (by omega) (by decide), fun M3 e3 M5 e5 => ?_⟩
      rw [if_neg (show ¬ (1 : Int32) = 0 by decide)]
      have x3 : M3 24 1 = nI t := by rw [e3, gU_cell (by omega)]; exact t1
      rw [x3, nI_1] at e5
      refine ⟨vp_nI (by omega) (by decide), fun M6 e6 M8 e8 => ?_⟩
      have x6 : M6 0 6 = nI t := by rw [e6, gU_cell (by omega)]; exact t2
      rw [x6, nI_1] at e8
      obtain ⟨x, hx, rfl⟩ := of_arg (n := 256) (by decide) ha
      refine ⟨by rw [e5, gU_same, e8, gU_same], h1.congr (fun k _ _ => by rw [e5, gU_cell (by omega), e3, gU_cell (by omega)]) (by rw [e8, gU_cell (by omega), e6, gU_cell (by omega)]) (by rw [e8, gU_cell (by omega), e6, gU_cell (by omega)]) (by rw [e8, gU_cell (by omega), e6, gU_cell (by omega)]), ?_, h3.but ?_ ?_ ?_ ?_ ?_ ?_ ?_ ?_ ?_⟩
      · rw [e5, gU_cell (by omega), e3, gU_cell (by omega), e8, gU_place (by omega), e6, gU_cell (by omega)]; exact h2
      · rw [e5, gU_cell (by omega), e3, gU_cell (by omega), e8, gU_place (by omega), e6, gU_cell (by omega)]; exact h3.1
      · refine ⟨t + 1, by omega, by rw [e5, gU_same], by rw [e8, gU_same], fun j hj => ?_⟩
        have y1 : M5 25 j = gU Mc 25 t (nI x) 25 j := by rw [e5, gU_cell (by omega), e3]
        have y2 : M8 5 j = gU Mr 5 t (vp_nar .byte (nI x).toInt8.toInt32) 5 j := by rw [e8, gU_cell (by omega), e6]
        rw [y1, y2]
        by_cases hjt : j = t
        · refine ⟨x, hx, by rw [hjt, gU_same], ?_⟩
          rw [hjt, gU_same, vp_nar_byte]
          exact congrArg Int8.toInt32 (Int8.toInt8_toInt32 _)
        · rw [gU_place hjt, gU_place hjt]
          exact t3 j (by omega)
      · exact h3.2.2.1.congr (by rw [e5, gU_cell (by omega), e3, gU_cell (by omega)]) (by rw [e5, gU_cell (by omega), e3, gU_cell (by omega)]) (by rw [e8, gU_place (by omega), e6, gU_cell (by omega)]) (by rw [e8, gU_cell (by omega), e6, gU_cell (by omega)])
      · rw [e5, gU_cell (by omega), e3, gU_cell (by omega)]
      · rw [e5, gU_cell (by omega), e3, gU_cell (by omega)]
      · intro k hk; rw [e5, gU_cell (by omega), e3, gU_cell (by omega)]
      · rw [e8, gU_place (by omega), e6, gU_cell (by omega)]
      · rw [e8, gU_place (by omega), e6, gU_cell (by omega)]
      · intro k hk; rw [e8, gU_cell (by omega), e6, gU_cell (by omega)]
    · have g4 : nI t = (90 : Int32) := by rw [show t = 90 by omega]; rfl
      simp only [htt, g4, if_true, if_false]
      first | exact hI0 | exact ⟨trivial, hI0⟩
  · have g3 : ¬ (0 ≤ a.toInt ∧ a.toInt ≤ 255) := by omega
    simp only [g3, not_false_eq_true, if_true]
    by_cases g1 : a.toInt < 0
    · rw [if_pos g1]; first | exact hI0 | exact ⟨trivial, hI0⟩
    · rw [if_neg g1, if_neg (by omega)]; first | exact hI0 | exact ⟨trivial, hI0⟩
theorem op_trace {Mc Mr : Mm} (hI : Inv Mc Mr) (a : Int32) : f_X11_trace a Mc (fun r Mc' => f_X12_trace a Mr (fun r' Mr' => r = r' ∧ Inv Mc' Mr')) := by
  have e0 : (0 : Int32).toInt = 0 := rfl
  have e1 : (1 : Int32).toInt = 1 := rfl
  obtain ⟨n, hn, t1, t2, t3⟩ := hI.2.2.2.2.1
  simp only [f_X11_trace, f_X12_trace, e_in, br_eq, b2i_0, lt_I, le_I, e0, t1, t2, nI_I (show n < 2147483648 by omega)]
  rw [i_sub (by rw [nI_I (by omega), e1]; omega) (by rw [nI_I (by omega), e1]; omega), nI_I (by omega), e1]
  by_cases ha : 0 ≤ a.toInt ∧ a.toInt < n
  · have g1 : ¬ a.toInt < 0 := by omega
    have g2 : ¬ (n : Int) ≤ a.toInt := by omega
    have g3 : 0 ≤ a.toInt ∧ a.toInt ≤ (n : Int) - 1 := by omega
    obtain ⟨j, hj, rfl⟩ := of_arg (n := n) (a := a) (by omega) ha
    simp only [g1, g2, g3, not_true, if_false, and_self, nI_cl (show j < 2147483648 by omega)]
    exact ⟨vp_nI (by omega) (by decide), vp_nI (by omega) (by decide), t3 j hj, hI⟩
  · have g3 : ¬ (0 ≤ a.toInt ∧ a.toInt ≤ (n : Int) - 1) := by omega
    simp only [g3, not_false_eq_true, if_true]
    by_cases g1 : a.toInt < 0
    · rw [if_pos g1]; first | exact hI | exact ⟨trivial, hI⟩
    · rw [if_neg g1, if_pos (by omega)]; first | exact hI | exact ⟨trivial, hI⟩
