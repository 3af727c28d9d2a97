theorem e_found (v : Int32) (M : Mm) (K : Int32 → Mm → Prop) : f_X11_found v M K = K (-1000010 - v) (gU M 0 11 v) := by
  unfold f_X11_found
  exact propext ⟨fun h => h _ rfl, fun h _ e => by rw [e]; exact h⟩
theorem e_sound (v : Int32) (M : Mm) (K : Int32 → Mm → Prop) : f_X11_sound v M K = K v (gU M 0 11 0) := by
  unfold f_X11_sound
  exact propext ⟨fun h => h _ rfl, fun h _ e => by rw [e]; exact h⟩
theorem e_rfound (v : Int32) (M : Mm) (K : Int32 → Mm → Prop) : f_X12_found v M K = K (-1000010 - v) (gU M 0 4 v) := by
  unfold f_X12_found
  exact propext ⟨fun h => h _ rfl, fun h _ e => by rw [e]; exact h⟩
theorem e_well (v : Int32) (M : Mm) (K : Int32 → Mm → Prop) : f_X12_well v M K = K v (gU M 0 4 0) := by
  unfold f_X12_well
  exact propext ⟨fun h => h _ rfl, fun h _ e => by rw [e]; exact h⟩
theorem e_missing (b : Nat) (M : Mm) (K : Int32 → Mm → Prop) : f_X7_missing b M K = K (b2i (M b 1 = -1)) M := by
  unfold f_X7_missing
  rw [br_eq]
  by_cases h : M b 1 = -1
  · rw [if_pos h, b2i_t h]
  · rw [if_neg h, b2i_f h]
/-- only the finding changes: everything else stands -/
theorem Inv.find {Mc Mr : Mm} (hI : Inv Mc Mr) (v : Int32) : Inv (gU Mc 0 11 v) (gU Mr 0 4 v) := by
  obtain ⟨h1, h2, h3⟩ := hI
  refine ⟨h1.congr (fun k _ _ => gU_cell (by omega)) (gU_cell (by omega)) (gU_cell (by omega)) (gU_cell (by omega)), by rw [gU_same, gU_same], h3.congr (fun j hj => gU_place hj) (fun k hk => gU_cell (by omega)) (fun j hj => gU_place hj) (fun k hk => gU_cell (by omega))⟩
theorem s_fill {v0 nn : Nat} {v : Int32} {M : Mm} {K : Mm → Prop} (hn : nn < 2147483648) (h : K (va_up M v0 (fun i => if i < nn then v else M v0 i))) : f_J7_fill_53178 v0 nn v M K := by
  have L : ∀ (k i : Nat) (M1 : Mm), i + k = nn → M1 = va_up M v0 (fun j => if j < i then v else M v0 j) → l_J7_fill_53178_5 K nn v0 v (Int32.ofNat nn) (k + 1) (nI i) M1 := by
    intro k
    induction k with
    | zero =>
      intro i M1 hi hM
      rw [l_J7_fill_53178_5]
      refine br_t (show nI nn ≤ nI i by rw [le_I, nI_I (by omega), nI_I (by omega)]; omega) ?_
      rw [hM, show i = nn by omega]
      exact h
    | succ k ih =>
      intro i M1 hi hM
      rw [l_J7_fill_53178_5]
      refine br_f (show ¬ nI nn ≤ nI i by rw [le_I, nI_I (by omega), nI_I (by omega)]; omega) ⟨vp_nI (by omega) hn, fun M3 e => ?_⟩
      rw [nI_1]
      refine ih (i + 1) M3 (by omega) ?_
      rw [e, hM, nI_cl (by omega)]
      funext a j
      rw [gU_at]
      unfold va_up
      by_cases ha : a = v0
      · subst ha
        by_cases hj : j = i
        · subst hj; simp
        · have : (j < i + 1) ↔ j < i := by omega
          simp [hj, this]
      · simp [ha]
  exact ⟨nn + 1, L nn 0 M (by omega) (by funext a j; unfold va_up; by_cases ha : a = v0 <;> simp [ha])⟩
theorem s_lay {b : Nat} {v n : Int32} {M : Mm} {K : Mm → Prop} (h : ∀ M' : Mm, (∀ k, k ≠ b → k ≠ b + 1 → M' k = M k) → M' b 1 = v → M' b 2 = n → (∀ i, i < 40 → M' (b + 1) i = 0) → K M') : f_X7_lay b v n M K := by
  unfold f_X7_lay
  refine s_fill (by decide) ?_
  intro M2 e2 M4 e4
  refine h M4 ?_ ?_ ?_ ?_
  · intro k h1 h2
    rw [e4, gU_cell h1, e2, gU_cell h1]
    unfold va_up
    simp [h2]
  · rw [e4, gU_place (by omega), e2, gU_same]
  · rw [e4, gU_same]
  · intro i hi
    rw [e4, gU_cell (by omega), e2, gU_cell (by omega)]
    simp [va_up, hi]
theorem s_rrow {r : Nat} (hr : r < 8) {n : Int32} {M : Mm} {K : Int32 → Mm → Prop} (h : ∀ M' : Mm, (∀ k, k ≠ 3 → M' k = M k) → (∀ i, (i < 40 * r ∨ 40 * r + 40 ≤ i) → M' 3 i = M 3 i) → (∀ i, i < 40 → M' 3 (40 * r + i) = 0) → K n (gU M' 0 4 0)) : ∃ z, l_X12_row_52 K (nI r) n z 0 M := by
  have L : ∀ (k i : Nat) (M1 : Mm), i + k = 40 → (∀ k, k ≠ 3 → M1 k = M k) → (∀ i, (i < 40 * r ∨ 40 * r + 40 ≤ i) → M1 3 i = M 3 i) → (∀ j, j < i → M1 3 (40 * r + j) = 0) → l_X12_row_52 K (nI r) n (k + 1) (nI i) M1 := by
    intro k
    induction k with
    | zero =>
      intro i M1 hi h1 h2 h3
      rw [l_X12_row_52]
      refine br_t (show (40 : Int32) ≤ nI i by rw [le_I, nI_I (by omega)]; show (40 : Int) ≤ _; omega) ?_
      rw [e_well]
      exact h M1 h1 h2 (fun j hj => h3 j (by omega))
    | succ k ih =>
      intro i M1 hi h1 h2 h3
      rw [l_X12_row_52]
      have e1 : (40 : Int32) * nI r + nI i = nI (40 * r + i) := by
        rw [show (40 : Int32) = nI 40 from rfl, pk_mul, nI_add]
      refine br_f (show ¬ (40 : Int32) ≤ nI i by rw [le_I, nI_I (by omega)]; show ¬ (40 : Int) ≤ _; omega) ?_
      rw [e1, nI_cl (by omega)]
      refine ⟨vp_nI (by omega) (by decide), fun M5 e => ?_⟩
      rw [nI_1]
      refine ih (i + 1) M5 (by omega) (fun k hk => by rw [e, gU_cell hk]; exact h1 k hk) (fun j hj => by rw [e, gU_place (by omega)]; exact h2 j hj) (fun j hj => ?_)
      rw [e, gU_at]
      by_cases hji : j = i
      · subst hji; simp
      · rw [if_neg (by omega)]; exact h3 j (by omega)
  exact ⟨41, L 40 0 M rfl (fun _ _ => rfl) (fun _ _ => rfl) (fun j hj => absurd hj (Nat.not_lt_zero j))⟩
/-- one row has changed -/
theorem RowsRel.one {Mc Mr Mc' Mr' : Mm} (h : RowsRel Mc Mr) {r : Nat} (hr : r < 8) (e : ∀ k, 2 ≤ k → k ≤ 17 → k ≠ 2 + 2 * r → k ≠ 2 + 2 * r + 1 → Mc' k = Mc k) (e1 : ∀ i, i < 8 → i ≠ r → Mr' 1 i = Mr 1 i) (e2 : ∀ i, i < 8 → i ≠ r → Mr' 2 i = Mr 2 i) (e3 : ∀ i, (i < 40 * r ∨ 40 * r + 40 ≤ i) → Mr' 3 i = Mr 3 i) (h1 : RowOne Mc' Mr' r) : RowsRel Mc' Mr' := by
  intro q hq
  by_cases hqr : q = r
  · subst hqr; exact h1
  · have h := h q hq
    unfold RowOne at h ⊢
    rw [e (2 + 2 * q) (by omega) (by omega) (by omega) (by omega), e (2 + 2 * q + 1) (by omega) (by omega) (by omega) (by omega), e1 q hq hqr, e2 q hq hqr]
    rcases h with h | ⟨L, S, a1, a2, a3, a4, a5, a6, a7⟩
    · exact Or.inl h
    · exact Or.inr ⟨L, S, a1, a2, a3, a4, a5, a6, fun k hk => by rw [a7 k hk, e3 _ (by omega)]⟩
theorem of_arg {a : Int32} {n : Nat} (hn : n < 2147483648) (h : 0 ≤ a.toInt ∧ a.toInt < n) : ∃ r : Nat, r < n ∧ a = nI r := by
  rcases arg a n hn with q | q | q
  · omega
  · omega
  · exact q
theorem op_row {Mc Mr : Mm} (hI : Inv Mc Mr) (a b c : Int32) : f_X11_row a b c Mc (fun r Mc' => f_X12_row a b c Mr (fun r' Mr' => r = r' ∧ Inv Mc' Mr')) := by
  have e0 : (0 : Int32).toInt = 0 := rfl
  have e2 : (2 : Int32).toInt = 2 := rfl
  have e3 : (3 : Int32).toInt = 3 := rfl
  have e40 : (40 : Int32).toInt = 40 := rfl
  simp only [f_X11_row, f_X12_row, e_rowAt, e_isRow, e_in, e_sound, e_found, e_rfound, br_eq, lt_I, le_I, e0, e2, e3, e40, b2i_0]
  by_cases ha : 0 ≤ a.toInt ∧ a.toInt < 8
  · simp only [if_pos ha, not_true, if_false, ha, reduceCtorEq, false_implies, true_and, Option.some.injEq, forall_eq', and_self]
    obtain ⟨r, hr, rfl⟩ := of_arg (n := 8) (by decide) ha
    rw [nI_cl (by omega)]
    by_cases hb : 0 ≤ b.toInt ∧ b.toInt ≤ 2
    · have hb1 : ¬ b.toInt < 0 := by omega
      have hb2 : ¬ 3 ≤ b.toInt := by omega
      simp only [if_neg hb1, if_neg hb2, hb, not_true, if_false, and_self]
      by_cases hc : c.toInt ≤ 40
      · simp only [if_pos hc]
        by_cases hc0 : 0 ≤ c.toInt
        · simp only [if_pos hc0]
          refine ⟨by unfold isRow; omega, s_lay (fun M' k1 k2 k3 k4 => ⟨vp_nI hr (by decide), fun M16 e16 M18 e18 => s_rrow hr (fun M'' g1 g2 g3 => ⟨rfl, ?_⟩)⟩)⟩
          obtain ⟨h1, h2, h3⟩ := hI
          have z1 : M'' 1 = gU Mr 1 r b 1 := by rw [g1 1 (by omega), e18, gU_cell (by omega), e16]
          have z2 : M'' 2 = gU Mr 2 r c 2 := by rw [g1 2 (by omega), e18, e16]; unfold gU va_up; simp
          have z3 : ∀ k, k ≠ 1 → k ≠ 2 → k ≠ 3 → M'' k = Mr k := fun k q1 q2 q3 => by rw [g1 k q3, e18, gU_cell q2, e16, gU_cell q1]
          have z33 : ∀ i, (i < 40 * r ∨ 40 * r + 40 ≤ i) → M'' 3 i = Mr 3 i := fun i hi => by rw [g2 i hi, e18, gU_cell (by omega), e16, gU_cell (by omega)]
          obtain ⟨L, hL, rfl⟩ := of_arg (n := 3) (a := b) (by decide) (by omega)
          obtain ⟨S, hS, rfl⟩ := of_arg (n := 41) (a := c) (by decide) (by omega)
          refine ⟨h1.one hr (fun k _ _ q1 q2 => by rw [gU_cell (by omega)]; exact k1 k q1 q2) (fun i _ hi => by rw [gU_cell (by omega), z1, gU_place hi]) (fun i _ hi => by rw [gU_cell (by omega), z2, gU_place hi]) (fun i hi => by rw [gU_cell (by omega)]; exact z33 i hi) (Or.inr ⟨L, S, hL, by omega, by rw [gU_cell (by omega)]; exact k2, by rw [gU_cell (by omega), z1, gU_same], by rw [gU_cell (by omega)]; exact k3, by rw [gU_cell (by omega), z2, gU_same], fun k hk => by rw [gU_cell (by omega), gU_cell (by omega), k4 k hk, g3 k hk]⟩), by rw [gU_same, gU_same], h3.congr (fun j hj => by rw [gU_place hj, k1 0 (by omega) (by omega)]) (fun k hk => by rw [gU_cell (by omega)]; exact k1 k (by omega) (by omega)) (fun j hj => by rw [gU_place hj, z3 0 (by omega) (by omega) (by omega)]) (fun k hk => by rw [gU_cell (by omega)]; exact z3 k (by omega) (by omega) (by omega))⟩
        · simp only [if_neg hc0]
          exact hI.find 4
      · simp only [if_neg hc]
        first | exact hI | exact ⟨trivial, hI⟩
    · simp only [hb, not_false_eq_true, if_true]
      by_cases hb1 : b.toInt < 0
      · rw [if_pos hb1]; first | exact hI | exact ⟨trivial, hI⟩
      · rw [if_neg hb1, if_pos (by omega)]; first | exact hI | exact ⟨trivial, hI⟩
  · simp only [if_neg ha, ha, not_false_eq_true, if_true, true_implies, reduceCtorEq, false_implies, implies_true, and_true]
    first | exact hI | exact ⟨trivial, hI⟩
