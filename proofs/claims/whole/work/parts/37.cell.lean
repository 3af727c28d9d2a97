theorem wl_mono {D : Nat} {A : AP} (w : WFb D A) : ∀ (n k : Nat), k + 1 + n < A 2 → A (34 + k) < A (34 + (k + 1 + n))
  | 0, k, h => w.2.2.2.2.2.2.2.2.1 k (by omega)
  | n + 1, k, h => by
    have h1 := wl_mono w n k (by omega)
    have h2 := w.2.2.2.2.2.2.2.2.1 (k + 1 + n) (by omega)
    have : k + 1 + (n + 1) = k + 1 + n + 1 := by omega
    rw [this]
    omega
theorem wl_lt {D : Nat} {A : AP} (w : WFb D A) {k v : Nat} (hk : k < v) (hv : v < A 2) : A (34 + k) < A (34 + v) := by
  have := wl_mono w (v - k - 1) k (by omega)
  rw [show k + 1 + (v - k - 1) = v by omega] at this
  exact this
/-- h is the house of the cell c -/
def HouseIs (A : AP) (c h : Nat) : Prop := h ≤ A 2 ∧ (∀ u, u < h → A (34 + u) ≤ c) ∧ (h < A 2 → c < A (34 + h))
theorem HouseIs.uniq {A : AP} {c h g : Nat} (a : HouseIs A c h) (b : HouseIs A c g) : h = g := by
  rcases Nat.lt_trichotomy h g with q | q | q
  · have := b.2.1 h q
    have := a.2.2 (by have := b.1; omega)
    omega
  · exact q
  · have := a.2.1 g q
    have := b.2.2 (by have := a.1; omega)
    omega
theorem e_houseOf {D b c : Nat} {M : Mm} {A : AP} (p : PapC M b A) (w : WFb D A) (hc : c < A 0) {K : Int32 → Mm → Prop} (h : ∀ g, HouseIs A c g → K (nI g) M) : f_X6_houseOf b (nI c) M K := by
  have s0 := w.1.2
  have s2 := w.2.2.1
  have L : ∀ (j v k : Nat), v + j = A 2 → k ≤ v → (∀ u, u < k → A (34 + u) ≤ c) → (k < v → c < A (34 + k)) → l_X6_houseOf_4 K b (nI c) (j + 1) (nI k) (nI v) M := by
    intro j
    induction j with
    | zero =>
      intro v k hv hk h1 h2
      rw [l_X6_houseOf_4, p.1.2.2.1]
      exact br_t (by rw [le_I, nI_I (by omega), nI_I (by omega)]; omega) (h k ⟨by omega, h1, fun q => h2 (by omega)⟩)
    | succ j ih =>
      intro v k hv hk h1 h2
      have wv := (w.2.2.2.2.2.2.2.1 v (by omega)).2
      rw [l_X6_houseOf_4, p.1.2.2.1, nI_cl (by omega), p.2.2.1 v (by omega), nI_1, nI_1]
      refine br_f (by rw [le_I, nI_I (by omega), nI_I (by omega)]; omega) ⟨vp_nI (by omega) (by decide), br_c (fun q => ?_) (fun q => ?_)⟩
      · rw [lt_I, nI_I (by omega), nI_I (by omega)] at q
        refine ih (v + 1) k (by omega) (by omega) h1 (fun q2 => ?_)
        by_cases hkv : k = v
        · subst hkv; omega
        · exact h2 (by omega)
      · rw [lt_I, nI_I (by omega), nI_I (by omega)] at q
        have hkv : k = v := by
          by_cases hkv : k = v
          · exact hkv
          · have a1 := h2 (by omega)
            have a2 := wl_lt w (show k < v by omega) (by omega)
            omega
        subst hkv
        refine ih (k + 1) (k + 1) (by omega) (Nat.le_refl _) (fun u hu => ?_) (fun q2 => absurd q2 (Nat.lt_irrefl _))
        by_cases huk : u = k
        · subst huk; omega
        · exact h1 u (by omega)
  exact ⟨A 2 + 1, L (A 2) 0 0 (by omega) (Nat.le_refl _) (fun u hu => absurd hu (Nat.not_lt_zero u)) (fun q => absurd q (Nat.lt_irrefl _))⟩
theorem e_rhouseOf {D c : Nat} {M : Mm} {A : AP} (p : PapR (M 7) (M 9) A) (w : WFb D A) (hc : c < A 0) {K : Int32 → Mm → Prop} (h : ∀ g, HouseIs A c g → K (nI g) M) : f_X12_houseOf (nI c) M K := by
  have s0 := w.1.2
  have s2 := w.2.2.1
  have L : ∀ (j g : Nat), g + j = A 2 → (∀ u, u < g → A (34 + u) ≤ c) → l_X12_houseOf_2 K (nI c) (j + 1) (nI g) M := by
    intro j
    induction j with
    | zero =>
      intro g hg h1
      rw [l_X12_houseOf_2, e_endOf p (by omega) s2, stO_e (by omega)]
      exact br_t (by rw [lt_I, nI_I (by omega), nI_I (by omega)]; omega) (h g ⟨by omega, h1, fun q => by omega⟩)
    | succ j ih =>
      intro g hg h1
      have wv := (w.2.2.2.2.2.2.2.1 g (by omega)).2
      rw [l_X12_houseOf_2, e_endOf p (by omega) s2, stO_s (by omega), nI_1]
      refine br_c (fun q => ?_) (fun q => ?_)
      · rw [lt_I, nI_I (by omega), nI_I (by omega)] at q
        exact h g ⟨by omega, h1, fun _ => by omega⟩
      · rw [lt_I, nI_I (by omega), nI_I (by omega)] at q
        refine ih (g + 1) (by omega) (fun u hu => ?_)
        by_cases hug : u = g
        · subst hug; omega
        · exact h1 u (by omega)
  exact ⟨A 2 + 1, L (A 2) 0 (by omega) (fun u hu => absurd hu (Nat.not_lt_zero u))⟩
theorem msk_orI {p : Nat → Bool} {n : Nat} : msk p n ||| (if p n then 2 ^ n else 0) = msk p (n + 1) := by
  by_cases h : p n = true
  · rw [if_pos h, msk_or h]
  · rw [if_neg h, Nat.or_zero]
    show msk p n = msk p n + if p n then 2 ^ n else 0
    rw [if_neg h]; rfl
theorem e_folkWho {b c : Nat} {M : Mm} {A : AP} (p : PapC M b A) (w : WF A) (hc : c < A 0) {K : Int32 → Mm → Prop} (h : K (nI (msk (fun f => (A (50 + f)).testBit c) (A 3))) M) : f_X6_folkWhoKnow b (nI c) M K := by
  have s0 := w.1.2
  have s3 := w.2.2.2.1
  have L : ∀ (j n : Nat), n + j = A 3 → l_X6_folkWhoKnow_4 K b (nI c) (j + 1) (nI (msk (fun f => (A (50 + f)).testBit c) n)) (nI n) M := by
    intro j
    induction j with
    | zero =>
      intro n hn
      rw [l_X6_folkWhoKnow_4, p.1.2.2.2.1]
      refine br_t (by rw [le_I, nI_I (by omega), nI_I (by omega)]; omega) ?_
      rw [show n = A 3 by omega]; exact h
    | succ j ih =>
      intro n hn
      have hl := (w.2.2.2.2.2.2.2.2.2.2 n (by omega)).2.2
      have hl2 : A (50 + n) < 16777216 := Nat.lt_of_lt_of_le hl (show 2 ^ A 0 ≤ 2 ^ 24 from Nat.pow_le_pow_right (by omega) (by omega))
      rw [l_X6_folkWhoKnow_4, p.1.2.2.2.1, nI_cl (by omega), (p.2.2.2 n (by omega)).2.2.2, e_bitOf (by omega) (by omega)]
      refine br_f (by rw [le_I, nI_I (by omega), nI_I (by omega)]; omega) ⟨vp_nI (by omega) (by decide), ?_⟩
      have h2n : 2 ^ n < 2 ^ 32 := Nat.pow_lt_pow_right (by omega) (by omega)
      rw [nI_shl (by omega) (by rw [bit_mod]; split <;> omega), nI_or, nI_1]
      have e : (A (50 + n) / 2 ^ c % 2 * 2 ^ n) = if (A (50 + n)).testBit c then 2 ^ n else 0 := by
        rw [bit_mod]
        split <;> simp
      rw [e, msk_orI (p := fun f => (A (50 + f)).testBit c)]
      exact ih (n + 1) (by omega)
  exact ⟨A 3 + 1, L (A 3) 0 (by omega)⟩
theorem e_rfolkWho {c : Nat} {M : Mm} {A : AP} (p : PapR (M 7) (M 9) A) (w : WF A) (hc : c < A 0) {K : Int32 → Mm → Prop} (h : K (nI (msk (fun f => (A (50 + f)).testBit c) (A 3))) M) : ∃ z, l_X12_cell_82 K (nI c) z 0 0 M := by
  have s0 := w.1.2
  have s3 := w.2.2.2.1
  have t3 : M 7 (3 : Int32).toNatClampNeg = nI (A 3) := p.1 3 (by omega)
  have L : ∀ (j n : Nat), n + j = A 3 → l_X12_cell_82 K (nI c) (j + 1) (nI (msk (fun f => (A (50 + f)).testBit c) n)) (nI n) M := by
    intro j
    induction j with
    | zero =>
      intro n hn
      rw [l_X12_cell_82, t3]
      refine br_t (by rw [le_I, nI_I (by omega), nI_I (by omega)]; omega) ?_
      rw [show n = A 3 by omega]; exact h
    | succ j ih =>
      intro n hn
      have hl := (w.2.2.2.2.2.2.2.2.2.2 n (by omega)).2.2
      have hl2 : A (50 + n) < 16777216 := Nat.lt_of_lt_of_le hl (show 2 ^ A 0 ≤ 2 ^ 24 from Nat.pow_le_pow_right (by omega) (by omega))
      rw [l_X12_cell_82, t3, c_add (c := 17) (n := 17) rfl, nI_cl (by omega), p.2 (17 + n) (by omega), show 33 + (17 + n) = 50 + n by omega, e_rhas (by omega) (by omega)]
      refine br_f (by rw [le_I, nI_I (by omega), nI_I (by omega)]; omega) ⟨vp_nI (by omega) (by decide), ?_⟩
      have := ih (n + 1) (by omega)
      rw [← msk_orI] at this
      rw [nI_is0 (by omega), bit_mod, nI_shl1 (by omega), nI_or, nI_1, show (0 : Int32) = nI 0 from rfl, nI_or]
      by_cases hb : (A (50 + n)).testBit c = true
      · rw [if_pos hb] at this ⊢
        exact br_f (by omega) this
      · rw [if_neg hb] at this ⊢
        exact br_t rfl this
  exact ⟨A 3 + 1, L (A 3) 0 (by omega)⟩
theorem op_cell {Mc Mr : Mm} (hI : Inv Mc Mr) (a b : Int32) : f_X11_cell a b Mc (fun r Mc' => f_X12_cell a b Mr (fun r' Mr' => r = r' ∧ Inv Mc' Mr')) := by
  obtain ⟨-, -, -, -, -, A, hC, hR, hAc, -, -, hr⟩ := id hI
  have s := hr.sm
  have s0 := s.1
  have c12 := hC.1.2.2.2.2.2.1
  have r6 : Mr 9 (6 : Int32).toNatClampNeg = nI (A 39) := hR.2 6 (by omega)
  simp only [f_X11_cell, f_X12_cell, e_hasCell hC s, e_isCell hR hr, br_eq, b2i_0, c12, r6]
  by_cases ha : 0 ≤ a.toInt ∧ a.toInt < A 0
  · simp only [if_neg (not_not_intro ha)]
    obtain ⟨c, hc, rfl⟩ := of_arg (n := A 0) (a := a) (by omega) ha
    obtain ⟨w, rd⟩ := hr.wf (by omega)
    have fl := w.2.2.2.2.2.2.2.2.2.1
    have fl2 : A 39 < 16777216 := Nat.lt_of_lt_of_le fl (show 2 ^ A 0 ≤ 2 ^ 24 from Nat.pow_le_pow_right (by omega) (by omega))
    by_cases h0 : b = 0
    · simp only [if_pos h0]
      rw [c_add (c := 4) (n := 4) rfl, nI_cl (by omega), nI_cl (by omega)]
      exact ⟨vp_nI (by omega) (by decide), vp_nI (by omega) (by decide), by rw [hC.2.1 c hc, hR.1 (4 + c) (by omega)], hI⟩
    · simp only [if_neg h0]
      by_cases h1 : b = 1
      · simp only [if_pos h1]
        rw [e_bitOf (by omega) (by omega), e_rhas (by omega) (by omega)]
        have : A 39 / 2 ^ c % 2 = 0 ∨ A 39 / 2 ^ c % 2 = 1 := by omega
        rcases this with q | q
        · rw [q, if_pos (show nI 0 = 0 from rfl)]; exact ⟨rfl, hI⟩
        · rw [q, if_neg (show ¬ nI 1 = 0 by decide)]; exact ⟨rfl, hI⟩
      · simp only [if_neg h1]
        by_cases h2 : b = 2
        · simp only [if_pos h2]
          exact e_houseOf hC w hc (fun g hg => e_rhouseOf hR w hc (fun g' hg' => ⟨by rw [hg.uniq hg'], hI⟩))
        · simp only [if_neg h2]
          by_cases h3 : b = 3
          · simp only [if_pos h3]
            exact e_folkWho hC w hc (e_rfolkWho hR w hc ⟨rfl, hI⟩)
          · simp only [if_neg h3]
            first | exact hI | exact ⟨trivial, hI⟩
  · simp only [if_pos ha]
    first | exact hI | exact ⟨trivial, hI⟩
theorem e_folkIn {b h : Nat} {M : Mm} {A : AP} (p : PapC M b A) (w : WF A) (hh : h ≤ A 2) {K : Int32 → Mm → Prop} (hK : K (nI (msk (fun f => decide (A (40 + f) = h)) (A 3))) M) : f_X6_folkIn b (nI h) M K := by
  have s2 := w.2.2.1
  have s3 := w.2.2.2.1
  have L : ∀ (j n : Nat), n + j = A 3 → l_X6_folkIn_4 K b (nI h) (j + 1) (nI (msk (fun f => decide (A (40 + f) = h)) n)) (nI n) M := by
    intro j
    induction j with
    | zero =>
      intro n hn
      rw [l_X6_folkIn_4, p.1.2.2.2.1]
      refine br_t (by rw [le_I, nI_I (by omega), nI_I (by omega)]; omega) ?_
      rw [show n = A 3 by omega]; exact hK
    | succ j ih =>
      intro n hn
      have hl := (w.2.2.2.2.2.2.2.2.2.2 n (by omega)).1
      have := ih (n + 1) (by omega)
      rw [← msk_orI] at this
      rw [l_X6_folkIn_4, p.1.2.2.2.1, nI_cl (by omega), (p.2.2.2 n (by omega)).2.1, nI_ne (by omega) (by omega), nI_shl1 (by omega), nI_or, nI_1]
      refine br_f (by rw [le_I, nI_I (by omega), nI_I (by omega)]; omega) ⟨vp_nI (by omega) (by decide), br_c (fun q => ?_) (fun q => ?_)⟩
      · rw [if_pos (by simpa using q)] at this; exact this
      · rw [if_neg (by simpa using q), Nat.or_zero] at this; exact this
  exact ⟨A 3 + 1, L (A 3) 0 (by omega)⟩
theorem e_rfolkIn {h : Nat} {M : Mm} {A : AP} (p : PapR (M 7) (M 9) A) (w : WF A) (hh : h ≤ A 2) {K : Int32 → Mm → Prop} (hK : K (nI (msk (fun f => decide (A (40 + f) = h)) (A 3))) M) : ∃ z, l_X12_house_73 K (nI h) z 0 0 M := by
  have s2 := w.2.2.1
  have s3 := w.2.2.2.1
  have t3 : M 7 (3 : Int32).toNatClampNeg = nI (A 3) := p.1 3 (by omega)
  have L : ∀ (j n : Nat), n + j = A 3 → l_X12_house_73 K (nI h) (j + 1) (nI (msk (fun f => decide (A (40 + f) = h)) n)) (nI n) M := by
    intro j
    induction j with
    | zero =>
      intro n hn
      rw [l_X12_house_73, t3]
      refine br_t (by rw [le_I, nI_I (by omega), nI_I (by omega)]; omega) ?_
      rw [show n = A 3 by omega]; exact hK
    | succ j ih =>
      intro n hn
      have hl := (w.2.2.2.2.2.2.2.2.2.2 n (by omega)).1
      have := ih (n + 1) (by omega)
      rw [← msk_orI] at this
      rw [l_X12_house_73, t3, c_add (c := 7) (n := 7) rfl, nI_cl (by omega), p.2 (7 + n) (by omega), show 33 + (7 + n) = 40 + n by omega, nI_ne (by omega) (by omega), nI_shl1 (by omega), nI_or, nI_1, show (0 : Int32) = nI 0 from rfl, nI_or]
      refine br_f (by rw [le_I, nI_I (by omega), nI_I (by omega)]; omega) ⟨vp_nI (by omega) (by decide), br_c (fun q => ?_) (fun q => ?_)⟩
      · rw [if_pos (by simpa using q)] at this; exact this
      · rw [if_neg (by simpa using q)] at this; exact this
  exact ⟨A 3 + 1, L (A 3) 0 (by omega)⟩
theorem op_house {Mc Mr : Mm} (hI : Inv Mc Mr) (a b : Int32) : f_X11_house a b Mc (fun r Mc' => f_X12_house a b Mr (fun r' Mr' => r = r' ∧ Inv Mc' Mr')) := by
  obtain ⟨-, -, -, -, -, A, hC, hR, hAc, -, -, hr⟩ := id hI
  have s := hr.sm
  have s2 := s.2.2.1
  simp only [f_X11_house, f_X12_house, e_hasHouse hC s, e_isHouse hR hr, br_eq, b2i_0]
  by_cases ha : 0 < A 0 ∧ 0 ≤ a.toInt ∧ a.toInt ≤ A 2
  · simp only [if_neg (not_not_intro ha)]
    obtain ⟨h, hh, rfl⟩ := of_arg (n := A 2 + 1) (a := a) (by omega) (by omega)
    obtain ⟨w, rd⟩ := hr.wf (by omega)
    by_cases h0 : b = 0
    · simp only [if_pos h0]
      rw [e_startOf hC s (by omega), e_firstOf hR (by omega) s2]
      exact ⟨rfl, hI⟩
    · simp only [if_neg h0]
      by_cases h1 : b = 1
      · simp only [if_pos h1]
        have := stO_lt w (show h ≤ A 2 by omega)
        rw [e_cellsIn hC w (by omega), e_endOf hR (by omega) s2, e_firstOf hR (by omega) s2, pk_sub (by omega)]
        exact ⟨rfl, hI⟩
      · simp only [if_neg h1]
        by_cases h2 : b = 2
        · simp only [if_pos h2]
          exact e_folkIn hC w (by omega) (e_rfolkIn hR w (by omega) ⟨rfl, hI⟩)
        · simp only [if_neg h2]
          first | exact hI | exact ⟨trivial, hI⟩
  · simp only [if_pos ha]
    first | exact hI | exact ⟨trivial, hI⟩
theorem op_count {Mc Mr : Mm} (hI : Inv Mc Mr) (a : Int32) : f_X11_count a Mc (fun r Mc' => f_X12_count a Mr (fun r' Mr' => r = r' ∧ Inv Mc' Mr')) := by
  obtain ⟨hrows, -, -, ht, -, A, hC, hR, hAc, -, -, hr⟩ := id hI
  have s := hr.sm
  have s3 := s.2.2.2
  obtain ⟨c7, c8, c9, c10, c11, c12, c13⟩ := hC.1
  obtain ⟨t, _, t1, t2, _⟩ := ht
  obtain ⟨k, x, _, _, k1, _, k2, _⟩ := hAc
  have q0 : Mr 7 (0 : Int32).toNatClampNeg = nI (A 0) := hR.1 0 (by omega)
  have q1 : Mr 7 (1 : Int32).toNatClampNeg = nI (A 1) := hR.1 1 (by omega)
  have q2 : Mr 7 (2 : Int32).toNatClampNeg = nI (A 2) := hR.1 2 (by omega)
  have q3 : Mr 7 (3 : Int32).toNatClampNeg = nI (A 3) := hR.1 3 (by omega)
  have q4 : Mr 9 (0 : Int32).toNatClampNeg = nI (A 33) := hR.2 0 (by omega)
  have q6 : Mr 9 (6 : Int32).toNatClampNeg = nI (A 39) := hR.2 6 (by omega)
  simp only [f_X11_count, f_X12_count, br_eq, c7, c8, c9, c10, c12, c13, t1, t2, k1, k2, q0, q1, q2, q3, q4, q6]
  by_cases h0 : a = 0
  · simp only [if_pos h0]
    have cnt : ∀ (j n : Nat), n + j = 8 → ∀ m : Nat, ∃ e : Nat, l_X12_count_58 (fun r' Mr' => nI e = r' ∧ Inv Mc Mr') (j + 1) (nI m) (nI n) Mr ∧ ∀ K : Int32 → Mm → Prop, K (nI e) Mc → l_X11_rowsThere_4 K (j + 1) (nI m) (nI n) Mc := by
      intro j
      induction j with
      | zero =>
        intro n hn m
        refine ⟨m, ?_, fun K hK => ?_⟩
        · rw [l_X12_count_58, nI_leL (x := 8) (n := 8) (by omega) (by decide) rfl]
          exact br_t (by omega) ⟨rfl, hI⟩
        · rw [l_X11_rowsThere_4, nI_leL (x := 8) (n := 8) (by omega) (by decide) rfl]
          exact br_t (by omega) hK
      | succ j ih =>
        intro n hn m
        have hrn := hrows n (by omega)
        have vn : vp_in (nI n) 8 := vp_nI (by omega) (by decide)
        have cn : (nI n).toNatClampNeg = n := nI_cl (by omega)
        rcases hrn with ⟨m1, m2⟩ | ⟨L, S, hL, hS, m1, m2, _⟩
        · obtain ⟨e, e1, e2⟩ := ih (n + 1) (by omega) m
          refine ⟨e, ?_, fun K hK => ?_⟩
          · rw [l_X12_count_58, nI_leL (x := 8) (n := 8) (by omega) (by decide) rfl, cn, m2, nI_1, show nI m + 0 = nI m by rw [show (0 : Int32) = nI 0 from rfl, nI_add, Nat.add_zero]]
            exact br_f (by omega) ⟨vn, br_t rfl e1⟩
          · rw [l_X11_rowsThere_4, nI_leL (x := 8) (n := 8) (by omega) (by decide) rfl, cn, e_missing, m1, nI_1, nI_1]
            refine br_f (by omega) ⟨vn, br_f (by rw [b2i_t rfl]; decide) (e2 K hK)⟩
        · obtain ⟨e, e1, e2⟩ := ih (n + 1) (by omega) (m + 1)
          have n1 : ¬ (nI L = (-1 : Int32)) := by rw [nI_neg (by omega) (by decide)]; exact id
          have n2 : ¬ (nI L = (-1000000 : Int32)) := by rw [nI_neg (by omega) (by decide)]; exact id
          refine ⟨e, ?_, fun K hK => ?_⟩
          · rw [l_X12_count_58, nI_leL (x := 8) (n := 8) (by omega) (by decide) rfl, cn, m2, nI_1, nI_1]
            exact br_f (by omega) ⟨vn, br_f n2 e1⟩
          · rw [l_X11_rowsThere_4, nI_leL (x := 8) (n := 8) (by omega) (by decide) rfl, cn, e_missing, m1, nI_1, nI_1]
            refine br_f (by omega) ⟨vn, br_t (b2i_f n1) (e2 K hK)⟩
    obtain ⟨e, e1, e2⟩ := cnt 8 0 rfl 0
    exact ⟨9, e2 _ ⟨9, e1⟩⟩
  · simp only [if_neg h0]
    by_cases h1 : a = 1
    · simp only [if_pos h1]; (first | exact hI | exact ⟨trivial, hI⟩ | exact ⟨rfl, hI⟩)
    · simp only [if_neg h1]
      by_cases h2 : a = 2
      · simp only [if_pos h2]; (first | exact hI | exact ⟨trivial, hI⟩ | exact ⟨rfl, hI⟩)
      · simp only [if_neg h2]
        by_cases h3 : a = 3
        · simp only [if_pos h3]; (first | exact hI | exact ⟨trivial, hI⟩ | exact ⟨rfl, hI⟩)
        · simp only [if_neg h3]
          by_cases h4 : a = 4
          · simp only [if_pos h4]; (first | exact hI | exact ⟨trivial, hI⟩ | exact ⟨rfl, hI⟩)
          · simp only [if_neg h4]
            by_cases h5 : a = 5
            · simp only [if_pos h5]; (first | exact hI | exact ⟨trivial, hI⟩ | exact ⟨rfl, hI⟩)
            · simp only [if_neg h5]
              by_cases h6 : a = 6
              · simp only [if_pos h6]; (first | exact hI | exact ⟨trivial, hI⟩ | exact ⟨rfl, hI⟩)
              · simp only [if_neg h6]
                by_cases h7 : a = 7
                · simp only [if_pos h7]
                  exact e_known hC s3 (e_anybody hR s3 ⟨rfl, hI⟩)
                · simp only [if_neg h7]
                  by_cases h8 : a = 8
                  · simp only [if_pos h8]; (first | exact hI | exact ⟨trivial, hI⟩ | exact ⟨rfl, hI⟩)
                  · simp only [if_neg h8]
                    by_cases h9 : a = 9
                    · simp only [if_pos h9]; (first | exact hI | exact ⟨trivial, hI⟩ | exact ⟨rfl, hI⟩)
                    · simp only [if_neg h9]; (first | exact hI | exact ⟨trivial, hI⟩ | exact ⟨rfl, hI⟩)
