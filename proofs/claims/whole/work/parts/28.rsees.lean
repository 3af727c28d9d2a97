theorem e_firstOf {c h : Nat} {M : Mm} {A : AP} (p : PapR (M 7) (M c) A) (hh : h ≤ A 2) (s2 : A 2 ≤ 5) (K : Int32 → Mm → Prop) : f_X12_firstOf c (nI h) M K = K (nI (stO A h)) M := by
  simp only [f_X12_firstOf, br_eq, nI_is0 (show h < 2147483648 by omega)]
  by_cases h0 : h = 0
  · subst h0; rw [if_pos rfl]; rfl
  · obtain ⟨k, rfl⟩ : ∃ k, h = k + 1 := ⟨h - 1, by omega⟩
    rw [if_neg h0, c_add (c := 1) (n := 1) rfl, show 1 + (k + 1) = (k + 1) + 1 by omega, nI_pred, nI_cl (by omega), p.2 (k + 1) (by omega), stO_s (by omega), show 33 + (k + 1) = 34 + k by omega]
    exact propext ⟨fun q => q.2, fun q => ⟨vp_nI (by omega) (by decide), q⟩⟩
theorem e_endOf {c h : Nat} {M : Mm} {A : AP} (p : PapR (M 7) (M c) A) (hh : h ≤ A 2) (s2 : A 2 ≤ 5) (K : Int32 → Mm → Prop) : f_X12_endOf c (nI h) M K = K (nI (stO A (h + 1))) M := by
  have t2 : M 7 (2 : Int32).toNatClampNeg = nI (A 2) := p.1 2 (by omega)
  have t0 : M 7 (0 : Int32).toNatClampNeg = nI (A 0) := p.1 0 (by omega)
  simp only [f_X12_endOf, br_eq, t2, t0, nI_ne (show h < 2147483648 by omega) (show A 2 < 2147483648 by omega)]
  by_cases h0 : h = A 2
  · rw [if_pos h0, stO_e (by omega)]
  · rw [if_neg h0, c_add (c := 1) (n := 1) rfl, nI_cl (by omega), p.2 (1 + h) (by omega), stO_s (by omega), show 33 + (1 + h) = 34 + h by omega]
    exact propext ⟨fun q => q.2, fun q => ⟨vp_nI (by omega) (by decide), q⟩⟩
/-- what the reference strikes out -/
def less (A : AP) (k c : Nat) : Bool := (decide (k = 3) && decide (c % 2 = 1)) || (decide (4 ≤ k) && !rise A c)
theorem e_less {c k x : Nat} {M : Mm} {A : AP} (p : PapR (M 7) (M c) A) {D : Nat} (w : WFb D A) (hk : k ≤ 5) (hx : x < A 0) (K : Int32 → Mm → Prop) (k105 : Int32 → Int32 → Mm → Prop) (v4 : Int32) (h : k105 (v4 &&& (if less A k x then (nI (2 ^ x) ^^^ (-1)) else -1)) (nI (x + 1)) M) : ((((nI k : Int32) = 3 : Prop) → ((((nI x - nI x / 2 * 2 : Int32) = 1 : Prop) → f_X12_sees_134 K k105 c (nI k) v4 (nI x) (1) M) ∧ (¬ ((nI x - nI x / 2 * 2 : Int32) = 1 : Prop) → f_X12_sees_133 K k105 c (nI k) v4 (nI x) M))) ∧ (¬ ((nI k : Int32) = 3 : Prop) → f_X12_sees_133 K k105 c (nI k) v4 (nI x) M)) := by
  have s0 := w.1.2
  have hr : nI x - nI x / 2 * 2 = nI (x % 2) := by
    rw [show (2 : Int32) = nI 2 from rfl]; exact pk_rem (by omega) (by omega) (by omega)
  have a1 : less A k x = true → f_X12_sees_179 K k105 c (nI k) v4 (nI x) 1 M := by
    intro hl
    rw [hl, if_pos rfl] at h
    unfold f_X12_sees_179
    refine br_f (by decide) ?_
    rw [nI_shl1 (by omega), nI_1]
    exact h
  have a0 : less A k x = false → f_X12_sees_179 K k105 c (nI k) v4 (nI x) 0 M := by
    intro hl
    rw [hl, if_neg (by decide)] at h
    unfold f_X12_sees_179
    refine br_t rfl ?_
    rw [nI_1]
    exact h
  have z3 : ((nI k : Int32) = 3) = (k = 3) := by rw [show (3 : Int32) = nI 3 from rfl]; exact nI_ne (by omega) (by decide)
  have g133 : ¬ (k = 3 ∧ x % 2 = 1) → f_X12_sees_133 K k105 c (nI k) v4 (nI x) M := by
    intro hn
    unfold f_X12_sees_133 f_X12_sees_134 f_X12_sees_178 f_X12_sees_174
    refine br_t rfl ?_
    by_cases h4 : k < 4
    · refine br_t (show nI k < 4 by rw [lt_I, nI_I (by omega)]; show (k : Int) < 4; omega) (a0 ?_)
      unfold less
      simp [show ¬ 4 ≤ k by omega]
      intro h3; have := hn; omega
    · refine br_f (show ¬ nI k < 4 by rw [lt_I, nI_I (by omega)]; show ¬ (k : Int) < 4; omega) ?_
      by_cases hx0 : x = 0
      · refine br_t (show nI x ≤ 0 by rw [le_I, nI_I (by omega)]; show (x : Int) ≤ 0; omega) (a0 ?_)
        subst hx0
        unfold less rise
        simp
      · refine br_f (show ¬ nI x ≤ 0 by rw [le_I, nI_I (by omega)]; show ¬ (x : Int) ≤ 0; omega) ?_
        obtain ⟨y, rfl⟩ : ∃ y, x = y + 1 := ⟨x - 1, by omega⟩
        rw [c_add (c := 4) (n := 4) rfl, show 4 + (y + 1) = (4 + y) + 1 by omega, nI_pred, nI_cl (by omega), nI_cl (by omega), p.1 (4 + y) (by omega), p.1 ((4 + y) + 1) (by omega)]
        have f1 := w.2.2.2.2.1 y (by omega)
        have f2 := w.2.2.2.2.1 (y + 1) (by omega)
        rw [show 4 + (y + 1) = 4 + y + 1 by omega] at f2
        refine ⟨vp_nI (by omega) (by decide), vp_nI (by omega) (by decide), br_c (fun q => a0 ?_) (fun q => a1 ?_)⟩
        · rw [lt_I, nI_I (by omega), nI_I (by omega)] at q
          unfold less rise
          have : A (4 + y) < A (4 + (y + 1)) := by rw [show 4 + (y + 1) = 4 + y + 1 by omega]; omega
          simp [this]
          intro h3; omega
        · rw [lt_I, nI_I (by omega), nI_I (by omega)] at q
          unfold less rise
          have : ¬ A (4 + y) < A (4 + (y + 1)) := by rw [show 4 + (y + 1) = 4 + y + 1 by omega]; omega
          simp [this, show 4 ≤ k by omega]
  rw [z3, hr, show (1 : Int32) = nI 1 from rfl, nI_ne (show x % 2 < 2147483648 by omega) (by decide)]
  refine br_c (fun q3 => br_c (fun q1 => ?_) (fun q1 => g133 (by omega))) (fun q3 => g133 (by omega))
  unfold f_X12_sees_134 f_X12_sees_174
  refine br_f (by decide) (a1 ?_)
  unfold less
  simp [q3, q1]
theorem s_rsees2 {c k : Nat} {M : Mm} {A : AP} (p : PapR (M 7) (M c) A) {D : Nat} (w : WFb D A) (hk : k ≤ 5) (Y : Nat) (hY : ∀ i, A 0 ≤ i → Y.testBit i = false) (K : Int32 → Mm → Prop) (h : ∀ Z : Nat, (∀ i, Z.testBit i = (Y.testBit i && !less A k i && (decide (k = 5) || !(A 39).testBit i))) → K (nI Z) M) : f_X12_sees_102 K c (nI k) (nI Y) M := by
  have s0 := w.1.2
  have t0 : M 7 (0 : Int32).toNatClampNeg = nI (A 0) := p.1 0 (by omega)
  have t6 : M c (6 : Int32).toNatClampNeg = nI (A 39) := p.2 6 (by omega)
  have L : ∀ (j x : Nat) (X : Nat), x + j = A 0 → (∀ i, X.testBit i = (Y.testBit i && !(decide (i < x) && less A k i))) → l_X12_sees_105 K c (nI k) (j + 1) (nI X) (nI x) M := by
    intro j
    induction j with
    | zero =>
      intro x X hx hX
      rw [l_X12_sees_105, t0, t6]
      refine br_t (show nI (A 0) ≤ nI x by rw [le_I, nI_I (by omega), nI_I (by omega)]; omega) ?_
      rw [show (5 : Int32) = nI 5 from rfl, nI_ne (show k < 2147483648 by omega) (by decide), nI_m1, nI_xor, nI_and]
      refine br_c (fun q => h X (fun i => ?_)) (fun q => h _ (fun i => ?_))
      · rw [hX i]
        by_cases hi : i < x
        · simp [hi, q]
        · rw [hY i (by omega)]; simp
      · rw [Nat.testBit_and, not_bit, hX i]
        by_cases hi : i < x
        · simp [hi, q, show i < 32 by omega]
        · rw [hY i (by omega)]; simp
    | succ j ih =>
      intro x X hx hX
      rw [l_X12_sees_105, t0, t6]
      refine br_f (show ¬ nI (A 0) ≤ nI x by rw [le_I, nI_I (by omega), nI_I (by omega)]; omega) ?_
      refine e_less p w hk (by omega) K _ _ ?_
      by_cases hl : less A k x = true
      · rw [if_pos hl, nI_m1, nI_xor, nI_and]
        refine ih (x + 1) _ (by omega) (fun i => ?_)
        rw [Nat.testBit_and, not_bit, hX i, Nat.testBit_two_pow]
        by_cases hix : i = x
        · subst hix; simp [hl]; intro _; omega
        · by_cases hi : i < x
          · simp [hi, show i < x + 1 by omega, show i < 32 by omega, Ne.symm hix]
          · by_cases hi2 : i < A 0
            · simp [hi, show ¬ i < x + 1 by omega, show i < 32 by omega, Ne.symm hix]
            · rw [hY i (by omega)]; simp
      · rw [if_neg hl, nI_m1, nI_and]
        refine ih (x + 1) _ (by omega) (fun i => ?_)
        rw [Nat.testBit_and, hX i, show (4294967295 : Nat) = 2 ^ 32 - 1 from rfl, Nat.testBit_two_pow_sub_one]
        by_cases hix : i = x
        · subst hix; simp [hl]; intro _; omega
        · by_cases hi : i < x
          · simp [hi, show i < x + 1 by omega, show i < 32 by omega]
          · by_cases hi2 : i < A 0
            · simp [hi, show ¬ i < x + 1 by omega, show i < 32 by omega]
            · rw [hY i (by omega)]; simp
  exact ⟨A 0 + 1, L (A 0) 0 Y (by omega) (fun i => by simp)⟩
theorem msk_or {p : Nat → Bool} {n : Nat} (h : p n = true) : msk p n ||| 2 ^ n = msk p (n + 1) := by
  apply Nat.eq_of_testBit_eq
  intro i
  rw [Nat.testBit_or, msk_bit, msk_bit, Nat.testBit_two_pow]
  by_cases hi : i = n
  · subst hi; simp [h]
  · have : (i < n + 1) ↔ i < n := by omega
    simp [this, Ne.symm hi]
theorem e_rsees {c k h : Nat} {M : Mm} {A : AP} (p : PapR (M 7) (M c) A) {D : Nat} (w : WFb D A) (hk : 1 ≤ k ∧ k ≤ 5) (hh : h ≤ A 2) (K : Int32 → Mm → Prop) (hK : K (nI (sees A k h)) M) : f_X12_sees c (nI h) (nI k) M K := by
  have s0 := w.1.2
  have s2 := w.2.2.1
  have t0 : M 7 (0 : Int32).toNatClampNeg = nI (A 0) := p.1 0 (by omega)
  have l1 := stO_le w h
  have l2 := stO_le w (h + 1)
  have l3 := stO_lt w hh
  generalize hs : stO A h = s at *
  generalize he : stO A (h + 1) = e at *
  have hin : ∀ i, inH A h i = (decide (s ≤ i) && decide (i < e)) := fun i => by unfold inH; rw [hs, he]
  -- the end: the set Y of the cells, k = 2 with one more on both sides
  have fin : ∀ Y : Nat, (∀ i, Y.testBit i = ((decide (s ≤ i) && decide (i < e)) || (decide (k = 2) && (decide (i + 1 = s) || (decide (i = e) && decide (e < A 0)))))) → f_X12_sees_102 K c (nI k) (nI Y) M := by
    intro Y hY
    refine s_rsees2 p w hk.2 Y (fun i hi => ?_) K (fun Z hZ => ?_)
    · rw [hY i]
      have a1 : ¬ i < e := by omega
      have a2 : ¬ i + 1 = s := by omega
      by_cases a3 : i = e
      · simp [a1, a2, show ¬ e < A 0 by omega]
      · simp [a1, a2, a3]
    · have : Z = sees A k h := by
        apply Nat.eq_of_testBit_eq
        intro i
        rw [hZ i, hY i, sees_bit]
        unfold seP less
        rw [hin, hin, hin]
        by_cases hi : i < A 0
        · have hkk : k = 1 ∨ k = 2 ∨ k = 3 ∨ k = 4 ∨ k = 5 := by omega
          rcases hkk with rfl | rfl | rfl | rfl | rfl
          · simp [hi]
          · simp only [hi, decide_true, Bool.true_and, if_true]
            have e1 : (decide (s ≤ i) && decide (i < e) || (decide (i + 1 = s) || decide (i = e) && decide (e < A 0))) = (decide (s ≤ i) && decide (i < e) || decide (s ≤ i + 1) && decide (i + 1 < e) || decide (1 ≤ i) && (decide (s ≤ i - 1) && decide (i - 1 < e))) := by
              rw [Bool.eq_iff_iff]
              simp only [Bool.or_eq_true, Bool.and_eq_true, decide_eq_true_eq]
              omega
            rw [e1]
            simp
          · have : (!decide (i % 2 = 1)) = decide (i % 2 = 0) := by
              rcases Nat.mod_two_eq_zero_or_one i with q | q <;> simp [q]
            simp [hi, this]
          · simp [hi]
          · simp [hi]
        · have a1 : ¬ i < e := by omega
          have a2 : ¬ i + 1 = s := by omega
          by_cases a3 : i = e
          · simp [hi, a1, a2, show ¬ e < A 0 by omega]
          · simp [hi, a1, a2, a3]
      rw [this]
      exact hK
  have f99 : ∀ X0 X1 : Nat, (∀ i, (X1 ||| X0).testBit i = ((decide (s ≤ i) && decide (i < e)) || (decide (k = 2) && (decide (i + 1 = s) || (decide (i = e) && decide (e < A 0)))))) → f_X12_sees_99 K c (nI k) (nI X0) (nI X1) M := by
    intro X0 X1 hX
    unfold f_X12_sees_99
    rw [nI_or]
    exact fin _ hX
  have f67 : ∀ X0 X1 : Nat, k = 2 → (∀ i, (X1 ||| X0).testBit i = ((decide (s ≤ i) && decide (i < e)) || decide (i + 1 = s))) → f_X12_sees_67 K c (nI h) (nI k) (nI X0) (nI X1) M := by
    intro X0 X1 hk2 hX
    unfold f_X12_sees_67
    rw [e_endOf p hh s2, he, t0]
    refine br_c (fun q => ?_) (fun q => ?_)
    · rw [le_I, nI_I (by omega), nI_I (by omega)] at q
      rw [nI_or, show (0 : Int32) = nI 0 from rfl]
      refine f99 0 _ (fun i => ?_)
      rw [Nat.or_zero, hX i]
      by_cases a3 : i = e
      · simp [hk2, show ¬ e < A 0 by omega]
      · simp [hk2, a3]
    · rw [le_I, nI_I (by omega), nI_I (by omega)] at q
      rw [e_endOf p hh s2, he, nI_or, nI_shl1 (by omega)]
      refine f99 _ _ (fun i => ?_)
      rw [Nat.testBit_or, hX i, Nat.testBit_two_pow]
      by_cases a3 : i = e
      · simp [hk2, a3, show e < A 0 by omega]
      · simp [hk2, a3, Ne.symm a3]
  have L : ∀ (j x : Nat), x + j = e → s ≤ x → l_X12_sees_11 K c (nI h) (nI k) (j + 1) (nI (msk (fun i => decide (s ≤ i)) x)) (nI x) M := by
    intro j
    induction j with
    | zero =>
      intro x hx hsx
      rw [l_X12_sees_11, e_endOf p hh s2, he]
      have hxe : x = e := by omega
      subst hxe
      refine br_t (show nI x ≤ nI x by rw [le_I]; exact Int.le_refl _) ?_
      rw [show (2 : Int32) = nI 2 from rfl, nI_ne (show k < 2147483648 by omega) (by decide)]
      refine br_c (fun q => ?_) (fun q => ?_)
      · rw [e_firstOf p hh s2, hs]
        refine br_c (fun q0 => ?_) (fun q0 => ?_)
        · rw [le_I, nI_I (by omega)] at q0
          have q0 : (s : Int) ≤ 0 := q0
          refine f67 0 _ q (fun i => ?_)
          rw [Nat.or_zero, msk_bit, Bool.and_comm]
          simp [show ¬ i + 1 = s by omega]
        · rw [le_I, nI_I (by omega)] at q0
          have q0 : ¬ (s : Int) ≤ 0 := q0
          obtain ⟨y, hy⟩ : ∃ y, s = y + 1 := ⟨s - 1, by omega⟩
          rw [e_firstOf p hh s2, hs, hy, nI_pred, nI_shl1 (by omega), ← hy]
          refine f67 _ _ q (fun i => ?_)
          rw [Nat.testBit_or, msk_bit, Nat.testBit_two_pow, Bool.and_comm]
          by_cases a3 : i = y
          · simp [a3, hy]
          · simp [Ne.symm a3, show ¬ i + 1 = s by omega]
      · refine fin _ (fun i => ?_)
        rw [msk_bit, Bool.and_comm]
        simp [q]
    | succ j ih =>
      intro x hx hsx
      rw [l_X12_sees_11, e_endOf p hh s2, he]
      refine br_f (show ¬ nI e ≤ nI x by rw [le_I, nI_I (by omega), nI_I (by omega)]; omega) ?_
      rw [nI_shl1 (by omega), nI_or, nI_1, msk_or (by simpa using hsx)]
      exact ih (x + 1) (by omega) (by omega)
  unfold f_X12_sees
  rw [e_firstOf p hh s2, hs]
  refine ⟨e - s + 1, ?_⟩
  have := L (e - s) s (by omega) (Nat.le_refl _)
  rw [msk_zero (fun i hi => by simp; omega)] at this
  exact this
