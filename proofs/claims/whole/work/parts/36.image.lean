theorem s_become {b o : Nat} (hd : b + 6 < o ∨ o + 6 < b) {M : Mm} {A : AP} (p : PapC M o A) (s : Sm A) {K : Mm → Prop} (h : ∀ M' : Mm, (∀ q, ¬ (b ≤ q ∧ q ≤ b + 6) → M' q = M q) → PapC M' b A → K M') : f_X6_become b o M K := by
  have s0 := s.1
  have s2 := s.2.2.1
  have s3 := s.2.2.2
  unfold f_X6_become
  simp only [c_0, c_5, c_24]
  intro M1 e1 M3 e3 M5 e5 M7 e7 M9 e9 M11 e11 M13 e13 M15 e15 M17 e17 M19 e19 M21 e21 M23 e23 M25 e25
  have o1 : ∀ q, q ≠ b → M1 q = M q := fun q hq => by rw [e1, gU_cell hq]
  have o3 : ∀ q, q ≠ b → M3 q = M q := fun q hq => by rw [e3, gU_cell hq, o1 q hq]
  have o5 : ∀ q, q ≠ b → M5 q = M q := fun q hq => by rw [e5, gU_cell hq, o3 q hq]
  have o7 : ∀ q, q ≠ b → M7 q = M q := fun q hq => by rw [e7, gU_cell hq, o5 q hq]
  have o9 : ∀ q, q ≠ b → M9 q = M q := fun q hq => by rw [e9, gU_cell hq, o7 q hq]
  have o11 : ∀ q, q ≠ b → M11 q = M q := fun q hq => by rw [e11, gU_cell hq, o9 q hq]
  have o13 : ∀ q, q ≠ b → M13 q = M q := fun q hq => by rw [e13, gU_cell hq, o11 q hq]
  have o15 : ∀ q, q ≠ b → q ≠ b + 1 → M15 q = M q := fun q q0 q1 => by rw [e15, gCp_cell q1, o13 q q0]
  have o17 : ∀ q, q ≠ b → q ≠ b + 1 → q ≠ b + 2 → M17 q = M q := fun q q0 q1 q2 => by rw [e17, gCp_cell q2, o15 q q0 q1]
  have o19 : ∀ q, q ≠ b → q ≠ b + 1 → q ≠ b + 2 → q ≠ b + 3 → M19 q = M q := fun q q0 q1 q2 q3 => by rw [e19, gCp_cell q3, o17 q q0 q1 q2]
  have o21 : ∀ q, q ≠ b → q ≠ b + 1 → q ≠ b + 2 → q ≠ b + 3 → q ≠ b + 4 → M21 q = M q := fun q q0 q1 q2 q3 q4 => by rw [e21, gCp_cell q4, o19 q q0 q1 q2 q3]
  have o23 : ∀ q, q ≠ b → q ≠ b + 1 → q ≠ b + 2 → q ≠ b + 3 → q ≠ b + 4 → q ≠ b + 5 → M23 q = M q := fun q q0 q1 q2 q3 q4 q5 => by rw [e23, gCp_cell q5, o21 q q0 q1 q2 q3 q4]
  refine h M25 (fun q hq => by rw [e25, gCp_cell (by omega)]; exact o23 q (by omega) (by omega) (by omega) (by omega) (by omega) (by omega)) ?_
  have ob : M25 b = M13 b := by rw [e25, gCp_cell (by omega), e23, gCp_cell (by omega), e21, gCp_cell (by omega), e19, gCp_cell (by omega), e17, gCp_cell (by omega), e15, gCp_cell (by omega)]
  obtain ⟨⟨p7, p8, p9, p10, p11, p12, p13⟩, pf, pw, po⟩ := p
  refine ⟨⟨?_, ?_, ?_, ?_, ?_, ?_, ?_⟩, fun c hc => ?_, fun u hu => ?_, fun f hf => ⟨?_, ?_, ?_, ?_⟩⟩
  · rw [ob, e13, gU_place (by omega), e11, gU_place (by omega), e9, gU_place (by omega), e7, gU_place (by omega), e5, gU_place (by omega), e3, gU_place (by omega), e1, gU_same]; exact p7
  · rw [ob, e13, gU_place (by omega), e11, gU_place (by omega), e9, gU_place (by omega), e7, gU_place (by omega), e5, gU_place (by omega), e3, gU_same, o1 o (by omega)]; exact p8
  · rw [ob, e13, gU_place (by omega), e11, gU_place (by omega), e9, gU_place (by omega), e7, gU_place (by omega), e5, gU_same, o3 o (by omega)]; exact p9
  · rw [ob, e13, gU_place (by omega), e11, gU_place (by omega), e9, gU_place (by omega), e7, gU_same, o5 o (by omega)]; exact p10
  · rw [ob, e13, gU_place (by omega), e11, gU_place (by omega), e9, gU_same, o7 o (by omega)]; exact p11
  · rw [ob, e13, gU_place (by omega), e11, gU_same, o9 o (by omega)]; exact p12
  · rw [ob, e13, gU_same, o11 o (by omega)]; exact p13
  · rw [e25, gCp_cell (by omega), e23, gCp_cell (by omega), e21, gCp_cell (by omega), e19, gCp_cell (by omega), e17, gCp_cell (by omega), e15, gCp_at, if_pos (by omega), o13 _ (by omega), show 0 + (c - 0) = c by omega]; exact pf c hc
  · rw [e25, gCp_cell (by omega), e23, gCp_cell (by omega), e21, gCp_cell (by omega), e19, gCp_cell (by omega), e17, gCp_at, if_pos (by omega), o15 _ (by omega) (by omega), show 0 + (u - 0) = u by omega]; exact pw u hu
  · rw [e25, gCp_cell (by omega), e23, gCp_cell (by omega), e21, gCp_cell (by omega), e19, gCp_at, if_pos (by omega), o17 _ (by omega) (by omega) (by omega), show 0 + (f - 0) = f by omega]; exact (po f hf).1
  · rw [e25, gCp_cell (by omega), e23, gCp_cell (by omega), e21, gCp_at, if_pos (by omega), o19 _ (by omega) (by omega) (by omega) (by omega), show 0 + (f - 0) = f by omega]; exact (po f hf).2.1
  · rw [e25, gCp_cell (by omega), e23, gCp_at, if_pos (by omega), o21 _ (by omega) (by omega) (by omega) (by omega) (by omega), show 0 + (f - 0) = f by omega]; exact (po f hf).2.2.1
  · rw [e25, gCp_at, if_pos (by omega), o23 _ (by omega) (by omega) (by omega) (by omega) (by omega) (by omega), show 0 + (f - 0) = f by omega]; exact (po f hf).2.2.2
theorem e_imageAt (v : Int32) (M : Mm) (K : Option Nat → Mm → Prop) : f_X11_imageAt v M K = if 0 ≤ v.toInt ∧ v.toInt < 2 then K (some (41 + 7 * v.toNatClampNeg)) M else K none M := by
  unfold f_X11_imageAt
  simp only [br_eq, lt_I, le_I, vp_I]
  have e0 : (0 : Int32).toInt = 0 := rfl
  have e8 : (2 : Int32).toInt = 2 := rfl
  rw [e0, e8]
  by_cases h1 : v.toInt < 0
  · rw [if_pos h1, if_neg (by omega)]
  · rw [if_neg h1]
    by_cases h2 : (2 : Int) ≤ v.toInt
    · rw [if_pos h2, if_neg (by omega)]
    · rw [if_neg h2, if_pos (by omega)]
      simp [show 0 ≤ v.toInt ∧ v.toInt < 2 by omega]
/-- a plain copy loop's numbers -/
theorem ix2 (m k i : Nat) {c : Int32} (hc : c = nI m) : c * nI k + nI i = nI (m * k + i) := by rw [hc, pk_mul, nI_add]
theorem s_rimage {k : Nat} (hk : k < 2) {M : Mm} {K : Int32 → Mm → Prop} (h : ∀ M' : Mm, (∀ q, q ≠ 12 → q ≠ 13 → q ≠ 14 → M' q = M q) → (∀ i, M' 12 i = if 33 * k ≤ i ∧ i < 33 * k + 33 then M 7 (i - 33 * k) else M 12 i) → (∀ i, M' 13 i = if 22 * k ≤ i ∧ i < 22 * k + 22 then M 9 (i - 22 * k) else M 13 i) → (∀ i, M' 14 i = if i = k then 1 else M 14 i) → K 1 M') : ∃ z, l_X12_image_24 K (nI k) z 0 M := by
  have L2 : ∀ (n i : Nat) (M1 : Mm), i + n = 22 → (∀ q, q ≠ 12 → q ≠ 13 → M1 q = M q) → (∀ i, M1 12 i = if 33 * k ≤ i ∧ i < 33 * k + 33 then M 7 (i - 33 * k) else M 12 i) → (∀ j, M1 13 j = if 22 * k ≤ j ∧ j < 22 * k + i then M 9 (j - 22 * k) else M 13 j) → l_X12_image_55 K (nI k) (n + 1) (nI i) M1 := by
    intro n
    induction n with
    | zero =>
      intro i M1 hi h1 h2 h3
      rw [l_X12_image_55, nI_leL (x := 22) (n := 22) (by omega) (by decide) rfl, nI_cl (show k < 2147483648 by omega)]
      refine br_t (by omega) ⟨vp_nI (by omega) (by decide), fun M3 e3 => ?_⟩
      refine h M3 (fun q q1 q2 q3 => by rw [e3, gU_cell q3]; exact h1 q q1 q2) (fun i => by rw [e3, gU_cell (by omega)]; exact h2 i) (fun j => ?_) (fun j => ?_)
      · rw [e3, gU_cell (by omega), h3 j, show i = 22 by omega]
      · rw [e3, gU_now, h1 14 (by omega) (by omega)]; rfl
    | succ n ih =>
      intro i M1 hi h1 h2 h3
      rw [l_X12_image_55, nI_leL (x := 22) (n := 22) (by omega) (by decide) rfl, ix2 (c := 22) 22 k i rfl, nI_cl (show i < 2147483648 by omega), nI_cl (show 22 * k + i < 2147483648 by omega)]
      refine br_f (by omega) ⟨vp_nI (by omega) (by decide), vp_nI (by omega) (by decide), fun M7 e7 => ?_⟩
      rw [nI_1]
      refine ih (i + 1) M7 (by omega) (fun q q1 q2 => by rw [e7, gU_cell q2]; exact h1 q q1 q2) (fun i => by rw [e7, gU_cell (by omega)]; exact h2 i) (fun j => ?_)
      rw [e7, gU_now]
      by_cases hj : j = 22 * k + i
      · rw [if_pos hj, if_pos (by omega), h1 9 (by omega) (by omega)]; congr 1; omega
      · rw [if_neg hj, h3 j]
        by_cases hin : 22 * k ≤ j ∧ j < 22 * k + i
        · rw [if_pos hin, if_pos (by omega)]
        · rw [if_neg hin, if_neg (by omega)]
  have L1 : ∀ (n i : Nat) (M1 : Mm), i + n = 33 → (∀ q, q ≠ 12 → M1 q = M q) → (∀ j, M1 12 j = if 33 * k ≤ j ∧ j < 33 * k + i then M 7 (j - 33 * k) else M 12 j) → l_X12_image_24 K (nI k) (n + 1) (nI i) M1 := by
    intro n
    induction n with
    | zero =>
      intro i M1 hi h1 h2
      rw [l_X12_image_24, nI_leL (x := 33) (n := 33) (by omega) (by decide) rfl]
      refine br_t (by omega) ⟨23, L2 22 0 M1 rfl (fun q q1 _ => h1 q q1) (fun j => by rw [h2 j, show i = 33 by omega]) (fun j => by rw [h1 13 (by omega), if_neg (by omega)])⟩
    | succ n ih =>
      intro i M1 hi h1 h2
      rw [l_X12_image_24, nI_leL (x := 33) (n := 33) (by omega) (by decide) rfl, ix2 (c := 33) 33 k i rfl, nI_cl (show i < 2147483648 by omega), nI_cl (show 33 * k + i < 2147483648 by omega)]
      refine br_f (by omega) ⟨vp_nI (by omega) (by decide), vp_nI (by omega) (by decide), fun M7 e7 => ?_⟩
      rw [nI_1]
      refine ih (i + 1) M7 (by omega) (fun q q1 => by rw [e7, gU_cell q1]; exact h1 q q1) (fun j => ?_)
      rw [e7, gU_now]
      by_cases hj : j = 33 * k + i
      · rw [if_pos hj, if_pos (by omega), h1 7 (by omega)]; congr 1; omega
      · rw [if_neg hj, h2 j]
        by_cases hin : 33 * k ≤ j ∧ j < 33 * k + i
        · rw [if_pos hin, if_pos (by omega)]
        · rw [if_neg hin, if_neg (by omega)]
  exact ⟨34, L1 33 0 M rfl (fun _ _ => rfl) (fun j => by rw [if_neg (by omega)])⟩
theorem op_image {Mc Mr : Mm} (hI : Inv Mc Mr) (a : Int32) : f_X11_image a Mc (fun r Mc' => f_X12_image a Mr (fun r' Mr' => r = r' ∧ Inv Mc' Mr')) := by
  obtain ⟨h1, h2, p1, p2, p3, A, hC, hR, hAc, g1, g2, hr⟩ := id hI
  have s := hr.sm
  simp only [f_X11_image, f_X12_image, e_imageAt, e_in, bit01, e_noPaper hC s, read_0 hr, br_eq, b2i_0]
  by_cases ha : 0 ≤ a.toInt ∧ a.toInt < 2
  · simp only [if_pos ha, if_neg (not_not_intro ha), reduceCtorEq, false_implies, true_and, Option.some.injEq, forall_eq']
    by_cases h0 : A 0 = 0
    · simp only [if_pos h0, if_neg (not_not_intro h0)]
      first | exact hI | exact ⟨trivial, hI⟩
    · simp only [if_pos h0, if_neg h0]
      obtain ⟨k, hk, rfl⟩ := of_arg (n := 2) (a := a) (by decide) ha
      obtain ⟨w, rd⟩ := hr.wf h0
      rw [nI_cl (by omega)]
      refine ⟨by unfold isPap; omega, s_become (by omega) hC s (fun M' c1 pc => s_rimage hk (fun N d1 d2 d3 d4 => ⟨rfl, ?_⟩))⟩
      have same : ImgRel M' N k := by
        refine Or.inr ⟨by rw [d4 k, if_pos rfl], A, w, pc, fun i hi => ?_, fun j hj => ?_⟩
        · rw [d2, if_pos (by omega), show 33 * k + i - 33 * k = i by omega]; exact hR.1 i hi
        · rw [d3, if_pos (by omega), show 22 * k + j - 22 * k = j by omega]; exact hR.2 j hj
      have other : ∀ q, q < 2 → q ≠ k → ImgRel Mc Mr q → ImgRel M' N q := by
        intro q hq hqk hi
        unfold ImgRel at hi ⊢
        rw [d4 q, if_neg hqk]
        rcases hi with ⟨i1, i2⟩ | ⟨i1, B, i2, i3, i4, i5⟩
        · exact Or.inl ⟨i1, by rw [c1 _ (by omega)]; exact i2⟩
        · refine Or.inr ⟨i1, B, i2, i3.congr (fun z z1 z2 => c1 z (by omega)), fun i hi => ?_, fun j hj => ?_⟩
          · rw [d2, if_neg (by omega)]; exact i4 i hi
          · rw [d3, if_neg (by omega)]; exact i5 j hj
      have all : ∀ q, q < 2 → ImgRel Mc Mr q → ImgRel M' N q := fun q hq hi => by
        by_cases hqk : q = k
        · subst hqk; exact same
        · exact other q hq hqk hi
      have n0 : N 0 = Mr 0 := d1 0 (by omega) (by omega) (by omega)
      have m0 : M' 0 = Mc 0 := c1 0 (by omega)
      refine ⟨h1.congr (fun q _ _ => c1 q (by omega)) (d1 1 (by omega) (by omega) (by omega)) (d1 2 (by omega) (by omega) (by omega)) (d1 3 (by omega) (by omega) (by omega)), by rw [m0, n0]; exact h2, by rw [m0, n0]; exact p1, p2.congr (by rw [c1 24 (by omega)]) (c1 25 (by omega)) (by rw [n0]) (d1 5 (by omega) (by omega) (by omega)), p3.congr (by rw [c1 64 (by omega)]) (c1 65 (by omega)) (by rw [n0]) (d1 16 (by omega) (by omega) (by omega)), A, hC.congr (fun q _ _ => c1 q (by omega)), by rw [d1 7 (by omega) (by omega) (by omega), d1 9 (by omega) (by omega) (by omega)]; exact hR, hAc.congr (by rw [m0]) (by rw [m0]) (fun q hq => c1 q (by omega)) (by rw [n0]) (d1 11 (by omega) (by omega) (by omega)), all 0 (by omega) g1, all 1 (by omega) g2, Or.inr ⟨by rw [n0]; exact rd, w⟩⟩
  · simp only [if_neg ha, if_pos ha, true_implies, reduceCtorEq, false_implies, implies_true, and_true]
    first | exact hI | exact ⟨trivial, hI⟩
theorem s_rrestore {k : Nat} (hk : k < 2) {M : Mm} {K : Int32 → Mm → Prop} (h : ∀ M' : Mm, (∀ q, q ≠ 0 → q ≠ 7 → q ≠ 9 → M' q = M q) → (∀ j, j ≠ 19 → M' 0 j = M 0 j) → M' 0 19 = 0 → (∀ i, i < 33 → M' 7 i = M 12 (33 * k + i)) → (∀ i, i < 22 → M' 9 i = M 13 (22 * k + i)) → K 1 M') : ∃ z, l_X12_restore_26 K (nI k) z 0 M := by
  have L2 : ∀ (n i : Nat) (M1 : Mm), i + n = 22 → (∀ q, q ≠ 7 → q ≠ 9 → M1 q = M q) → (∀ i, i < 33 → M1 7 i = M 12 (33 * k + i)) → (∀ j, j < i → M1 9 j = M 13 (22 * k + j)) → l_X12_restore_57 K (nI k) (n + 1) (nI i) M1 := by
    intro n
    induction n with
    | zero =>
      intro i M1 hi h1 h2 h3
      rw [l_X12_restore_57, nI_leL (x := 22) (n := 22) (by omega) (by decide) rfl]
      refine br_t (by omega) (fun M3 e3 => ?_)
      exact h M3 (fun q q1 q2 q3 => by rw [e3, gU_cell q1]; exact h1 q q2 q3) (fun j hj => by rw [e3, gU_place hj, h1 0 (by omega) (by omega)]) (by rw [e3, gU_same]) (fun i hi => by rw [e3, gU_cell (by omega)]; exact h2 i hi) (fun j hj => by rw [e3, gU_cell (by omega)]; exact h3 j (by omega))
    | succ n ih =>
      intro i M1 hi h1 h2 h3
      rw [l_X12_restore_57, nI_leL (x := 22) (n := 22) (by omega) (by decide) rfl, ix2 (c := 22) 22 k i rfl, nI_cl (show i < 2147483648 by omega), nI_cl (show 22 * k + i < 2147483648 by omega)]
      refine br_f (by omega) ⟨vp_nI (by omega) (by decide), vp_nI (by omega) (by decide), fun M7 e7 => ?_⟩
      rw [nI_1]
      refine ih (i + 1) M7 (by omega) (fun q q1 q2 => by rw [e7, gU_cell q2]; exact h1 q q1 q2) (fun i hi => by rw [e7, gU_cell (by omega)]; exact h2 i hi) (fun j hj => ?_)
      rw [e7, gU_now]
      by_cases hji : j = i
      · subst hji; rw [if_pos rfl, h1 13 (by omega) (by omega)]
      · rw [if_neg hji]; exact h3 j (by omega)
  have L1 : ∀ (n i : Nat) (M1 : Mm), i + n = 33 → (∀ q, q ≠ 7 → M1 q = M q) → (∀ j, j < i → M1 7 j = M 12 (33 * k + j)) → l_X12_restore_26 K (nI k) (n + 1) (nI i) M1 := by
    intro n
    induction n with
    | zero =>
      intro i M1 hi h1 h2
      rw [l_X12_restore_26, nI_leL (x := 33) (n := 33) (by omega) (by decide) rfl]
      exact br_t (by omega) ⟨23, L2 22 0 M1 rfl (fun q q1 _ => h1 q q1) (fun j hj => h2 j (by omega)) (fun j hj => absurd hj (Nat.not_lt_zero j))⟩
    | succ n ih =>
      intro i M1 hi h1 h2
      rw [l_X12_restore_26, nI_leL (x := 33) (n := 33) (by omega) (by decide) rfl, ix2 (c := 33) 33 k i rfl, nI_cl (show i < 2147483648 by omega), nI_cl (show 33 * k + i < 2147483648 by omega)]
      refine br_f (by omega) ⟨vp_nI (by omega) (by decide), vp_nI (by omega) (by decide), fun M7 e7 => ?_⟩
      rw [nI_1]
      refine ih (i + 1) M7 (by omega) (fun q q1 => by rw [e7, gU_cell q1]; exact h1 q q1) (fun j hj => ?_)
      rw [e7, gU_now]
      by_cases hji : j = i
      · subst hji; rw [if_pos rfl, h1 12 (by omega)]
      · rw [if_neg hji]; exact h2 j (by omega)
  exact ⟨34, L1 33 0 M rfl (fun _ _ => rfl) (fun j hj => absurd hj (Nat.not_lt_zero j))⟩
theorem op_restore {Mc Mr : Mm} (hI : Inv Mc Mr) (a : Int32) : f_X11_restore a Mc (fun r Mc' => f_X12_restore a Mr (fun r' Mr' => r = r' ∧ Inv Mc' Mr')) := by
  obtain ⟨h1, h2, p1, p2, p3, A, hC, hR, hAc, g1, g2, hr⟩ := id hI
  simp only [f_X11_restore, f_X12_restore, e_imageAt, e_in, bit01, br_eq, b2i_0]
  by_cases ha : 0 ≤ a.toInt ∧ a.toInt < 2
  · simp only [if_pos ha, if_neg (not_not_intro ha), reduceCtorEq, false_implies, true_and, Option.some.injEq, forall_eq']
    obtain ⟨k, hk, rfl⟩ := of_arg (n := 2) (a := a) (by decide) ha
    rw [nI_cl (by omega)]
    refine ⟨by unfold isPap; omega, ?_⟩
    have hv : vp_in (nI k) 2 := vp_nI hk (by decide)
    simp only [hv, true_and]
    have gk : ImgRel Mc Mr k := by
      rcases (show k = 0 ∨ k = 1 by omega) with rfl | rfl
      · exact g1
      · exact g2
    rcases gk with ⟨i1, i2⟩ | ⟨i1, B, wB, pB, rB, sB⟩
    · simp only [i1, i2, if_true]
      first | exact hI | exact ⟨trivial, hI⟩
    · have hB0 := wB.1.1
      have hB1 := wB.1.2
      have z1 : ¬ (nI (B 0) = (0 : Int32)) := by rw [nI_is0 (by omega)]; omega
      have z2 : ¬ ((1 : Int32) = 0) := by decide
      simp only [i1, pB.1.2.1, z1, z2, if_false]
      have rd : Mr 0 20 = 1 := by
        rcases hr with ⟨_, _, q0, q1, _⟩ | ⟨q, _⟩
        · rcases (show k = 0 ∨ k = 1 by omega) with rfl | rfl
          · rw [q0] at i1; exact absurd i1 (by decide)
          · rw [q1] at i1; exact absurd i1 (by decide)
        · exact q
      refine s_become (by omega) pB wB.sm (fun M' c1 pc M1 e1 M3 e3 => s_rrestore hk (fun N d1 d2 d3 d4 d5 => ⟨rfl, ?_⟩))
      have o3 : ∀ q, q ≠ 0 → M3 q = M' q := fun q hq => by rw [e3, gU_cell hq, e1, gU_cell hq]
      refine hI.act ?_ ?_ ?_ ?_ rd wB (pc.congr (fun q q1 q2 => o3 q (by omega))) ⟨fun i hi => by rw [d4 i hi]; exact rB i hi, fun j hj => by rw [d5 j hj]; exact sB j hj⟩ ?_
      · intro j hj; rw [e3, gU_place (by omega), e1, gU_place (by omega), c1 0 (by omega)]
      · intro q hq; rw [o3 q (by omega)]; exact c1 q (by omega)
      · intro j hj; exact d2 j (by omega)
      · intro q hq; exact d1 q (by omega) (by omega) (by omega)
      · exact ⟨0, 0, by omega, by omega, by rw [e3, gU_place (by omega), e1, gU_same]; rfl, by rw [e3, gU_same]; rfl, by rw [d3]; rfl, fun j hj => absurd hj (Nat.not_lt_zero j)⟩
  · simp only [if_neg ha, if_pos ha, true_implies, reduceCtorEq, false_implies, implies_true, and_true]
    first | exact hI | exact ⟨trivial, hI⟩
