def parK (A : AP) (P : Nat) : Nat → Nat
  | 0 => 0
  | n + 1 => parK A P n ||| (if P.testBit n = true then A (50 + n) else 0)
theorem parK_lt {A : AP} {D : Nat} (w : WFb D A) (P : Nat) : ∀ n, n ≤ A 3 → parK A P n < 2 ^ A 0
  | 0, _ => Nat.two_pow_pos _
  | n + 1, h => by
    unfold parK
    refine pow_or (parK_lt w P n (by omega)) ?_
    by_cases q : P.testBit n = true
    · rw [if_pos q]; exact (w.2.2.2.2.2.2.2.2.2.2 n (by omega)).2.2
    · rw [if_neg q]; exact Nat.two_pow_pos _
theorem s_party {b P D : Nat} {M : Mm} {A : AP} (pc : PapC M b A) (w : WFb D A) (hP : P < 64) {K : Int32 → Mm → Prop} (h : K (nI (parK A P (A 3))) M) : f_X6_knownByParty b (nI P) M K := by
  have s3 := w.2.2.2.1
  have L : ∀ (j n : Nat), n + j = A 3 → l_X6_knownByParty_4 K b (nI P) (j + 1) (nI (parK A P n)) (nI n) M := by
    intro j
    induction j with
    | zero =>
      intro n hn
      rw [l_X6_knownByParty_4, pc.1.2.2.2.1]
      refine br_t (by rw [le_I, nI_I (by omega), nI_I (by omega)]; omega) ?_
      rw [show n = A 3 by omega]; exact h
    | succ j ih =>
      intro n hn
      have := ih (n + 1) (by omega)
      unfold parK at this
      rw [l_X6_knownByParty_4, pc.1.2.2.2.1, e_bitOf (by omega) (by omega), bit_mod, nI_cl (by omega), (pc.2.2.2 n (by omega)).2.2.2, nI_or, nI_1]
      refine br_f (by rw [le_I, nI_I (by omega), nI_I (by omega)]; omega) ?_
      by_cases q : P.testBit n = true
      · rw [if_pos q] at this ⊢
        exact br_t rfl ⟨vp_nI (by omega) (by decide), this⟩
      · rw [if_neg q, Nat.or_zero] at this
        rw [if_neg q]
        exact br_f (by decide) this
  exact ⟨A 3 + 1, L (A 3) 0 (by omega)⟩
/-- the best party among those below m -/
def bst (A : AP) : Nat → Nat
  | 0 => 0
  | m + 1 => if parK A m (A 3) = 2 ^ A 0 - 1 ∧ (bst A m = 0 ∨ bc m 24 < bc (bst A m) 24) then m else bst A m
theorem bst_le (A : AP) : ∀ m, bst A m ≤ m
  | 0 => Nat.le_refl _
  | m + 1 => by
    have := bst_le A m
    unfold bst
    split <;> omega
theorem bc5 : ∀ m, m < 32 → bc m 24 ≤ 5 := by decide +kernel
theorem pow5 {n : Nat} (h : n ≤ 5) : 2 ^ n ≤ 32 := Nat.pow_le_pow_right (by omega) (show n ≤ 5 from h)
theorem s_fewest {b D : Nat} {M : Mm} {A : AP} (pc : PapC M b A) (w : WFb D A) {K : Int32 → Mm → Prop} (h : K (nI (bst A (2 ^ A 3))) M) : f_X6_fewestWhoKnowAll b M K := by
  have s3 := w.2.2.2.1
  have s0 := w.1.2
  have p5 := pow5 s3
  have p24 : 2 ^ A 0 ≤ 16777216 := Nat.pow_le_pow_right (by omega) s0
  have pp := Nat.two_pow_pos (A 3)
  have L : ∀ (j m : Nat), m + j = 2 ^ A 3 → 1 ≤ m → l_X6_fewestWhoKnowAll_7 K b (j + 1) (nI (bst A m)) (nI (if bst A m = 0 then 6 else bc (bst A m) 24)) (nI m) M := by
    intro j
    induction j with
    | zero =>
      intro m hm _
      rw [l_X6_fewestWhoKnowAll_7, pc.1.2.2.2.1, nI_shl1 (by omega)]
      refine br_t (by rw [le_I, nI_I (by omega), nI_I (by omega)]; omega) ?_
      rw [show m = 2 ^ A 3 by omega]; exact h
    | succ j ih =>
      intro m hm h1
      have hb := bst_le A m
      have b1 := bc5 m (by omega)
      have b2 := bc5 (bst A m) (by omega)
      have lt : parK A m (A 3) < 2 ^ A 0 := parK_lt w m (A 3) (Nat.le_refl _)
      have nx := ih (m + 1) (by omega) (by omega)
      rw [l_X6_fewestWhoKnowAll_7, pc.1.2.2.2.1, nI_shl1 (by omega), e_bitCount (by omega), nI_1]
      refine br_f (by rw [le_I, nI_I (by omega), nI_I (by omega)]; omega) ?_
      have c1 : (nI (if bst A m = 0 then 6 else bc (bst A m) 24) ≤ nI (bc m 24)) = ¬ (bst A m = 0 ∨ bc m 24 < bc (bst A m) 24) := by
        apply propext
        by_cases q : bst A m = 0
        · rw [if_pos q, le_I, nI_I (by omega), nI_I (by omega)]; omega
        · rw [if_neg q, le_I, nI_I (by omega), nI_I (by omega)]; omega
      rw [c1]
      have same : bst A (m + 1) = bst A m → l_X6_fewestWhoKnowAll_7 K b (j + 1) (nI (bst A m)) (nI (if bst A m = 0 then 6 else bc (bst A m) 24)) (nI (m + 1)) M := by
        intro e
        rw [e] at nx
        exact nx
      refine br_c (fun q => same ?_) (fun q => s_party pc w (by omega) ?_)
      · show (if _ then m else bst A m) = _
        rw [if_neg (fun z => q z.2)]
      · rw [e_allCells pc w.sm, e_bitCount (by omega), nI_ne (by omega) (by omega)]
        have q := Classical.not_not.mp q
        refine br_c (fun z => ?_) (fun z => same ?_)
        · have e : bst A (m + 1) = m := by
            show (if _ then m else bst A m) = _
            rw [if_pos ⟨z, q⟩]
          rw [e, if_neg (by omega)] at nx
          exact nx
        · show (if _ then m else bst A m) = _
          rw [if_neg (fun y => z y.1)]
  have := L (2 ^ A 3 - 1) 1 (by omega) (Nat.le_refl _)
  have e1 : bst A 1 = 0 := by
    show (if _ then 0 else bst A 0) = 0
    split <;> rfl
  rw [e1] at this
  exact ⟨_, this⟩
theorem e_rall {M : Mm} {A : AP} {st : Nat → Int32} (p : PapR (M 7) st A) (s0 : A 0 ≤ 24) (K : Int32 → Mm → Prop) : f_X12_allCells M K = K (nI (2 ^ A 0 - 1)) M := by
  unfold f_X12_allCells
  rw [show M 7 (0 : Int32).toNatClampNeg = nI (A 0) from p.1 0 (by omega), nI_shl1 (by omega), show (1 : Int32) = nI 1 from rfl, pk_sub (Nat.two_pow_pos _)]
theorem s_rtogether {D t : Nat} {M : Mm} {A : AP} (pr : PapR (M 7) (M 9) A) (w : WFb D A) (ht : t < 2) {K : Int32 → Mm → Prop} (h : K (if bst A (2 ^ A 3) = 0 then -1000000 else if t = 1 then nI (bst A (2 ^ A 3)) else nI (bc (bst A (2 ^ A 3)) 24)) M) : ∃ z, l_X12_together_27 K (nI t) z (-1000000) 0 M := by
  have s3 := w.2.2.2.1
  have s0 := w.1.2
  have s00 := w.1.1
  have p5 := pow5 s3
  have p24 : 2 ^ A 0 ≤ 16777216 := Nat.pow_le_pow_right (by omega) s0
  have p6 : 2 ^ 6 ≤ 2 ^ A 0 := Nat.pow_le_pow_right (by omega) s00
  have pp := Nat.two_pow_pos (A 3)
  have t3 : M 7 (3 : Int32).toNatClampNeg = nI (A 3) := pr.1 3 (by omega)
  have L45 : ∀ (k27 : Int32 → Int32 → Mm → Prop) (m : Nat) (v2 : Int32), m < 32 → v2 = (if bst A m = 0 then -1000000 else nI (bst A m)) → k27 (if bst A (m + 1) = 0 then -1000000 else nI (bst A (m + 1))) (nI (m + 1)) M → ∀ (j n : Nat), n + j = A 3 → l_X12_together_45 K k27 (nI t) v2 (nI m) (j + 1) (nI (parK A m n)) (nI n) M := by
    intro k27 m v2 hm hv hk j
    induction j with
    | zero =>
      intro n hn
      have hb := bst_le A m
      have b1 := bc5 m (by omega)
      have b2 := bc5 (bst A m) (by omega)
      have lt : parK A m (A 3) < 2 ^ A 0 := parK_lt w m (A 3) (Nat.le_refl _)
      have c20 : bst A (m + 1) = bst A m → f_X12_together_120 K k27 (nI t) v2 (nI m) M := by
        intro e
        rw [e, ← hv] at hk
        unfold f_X12_together_120 f_X12_together_121
        rw [nI_1]
        exact br_t rfl hk
      have c16 : bst A (m + 1) = m → m ≠ 0 → f_X12_together_116 K k27 (nI t) v2 (nI m) M := by
        intro e h0
        rw [e, if_neg h0] at hk
        unfold f_X12_together_116 f_X12_together_121
        rw [nI_1]
        exact br_f (by decide) hk
      rw [l_X12_together_45, t3, e_rall pr s0, show n = A 3 by omega, nI_ne (by omega) (by omega)]
      refine br_t (by rw [le_I, nI_I (by omega)]; exact Int.le_refl _) (br_c (fun q => ?_) (fun q => ?_))
      · have m0 : m ≠ 0 := by
          intro e
          subst e
          have : ∀ n, parK A 0 n = 0 := by
            intro n
            induction n with
            | zero => rfl
            | succ n ih => unfold parK; rw [ih]; simp
          rw [this] at q
          omega
        by_cases z : bst A m = 0
        · rw [if_pos z] at hv
          refine br_t hv (c16 ?_ m0)
          show (if _ then m else bst A m) = m
          rw [if_pos ⟨q, Or.inl z⟩]
        · rw [if_neg z] at hv
          refine br_f (by rw [hv, nI_neg (by omega) (by decide)]; exact id) (e_bitsOf (by omega) _ _ ?_)
          rw [hv]
          refine e_bitsOf (by omega) _ _ ?_
          rw [← hv]
          refine br_c (fun y => c20 ?_) (fun y => c16 ?_ m0)
          · rw [le_I, nI_I (by omega), nI_I (by omega)] at y
            show (if _ then m else bst A m) = _
            rw [if_neg (fun x => x.2.elim z (fun x => by omega))]
          · rw [le_I, nI_I (by omega), nI_I (by omega)] at y
            show (if _ then m else bst A m) = m
            rw [if_pos ⟨q, Or.inr (by omega)⟩]
      · refine c20 ?_
        show (if _ then m else bst A m) = _
        rw [if_neg (fun x => q x.1)]
    | succ j ih =>
      intro n hn
      have := ih (n + 1) (by omega)
      unfold parK at this
      rw [l_X12_together_45, t3, e_rhas (by omega) (by omega), bit_mod, nI_1, c_add (c := 17) (n := 17) rfl, nI_cl (by omega), pr.2 (17 + n) (by omega), show 33 + (17 + n) = 50 + n by omega, nI_or, show (0 : Int32) = nI 0 from rfl, nI_or]
      refine br_f (by rw [le_I, nI_I (by omega), nI_I (by omega)]; omega) ?_
      by_cases q : m.testBit n = true
      · rw [if_pos q] at this ⊢
        exact br_f (by decide) ⟨vp_nI (by omega) (by decide), this⟩
      · rw [if_neg q] at this ⊢
        exact br_t rfl this
  have L : ∀ (j m : Nat), m + j = 2 ^ A 3 → l_X12_together_27 K (nI t) (j + 1) (if bst A m = 0 then -1000000 else nI (bst A m)) (nI m) M := by
    intro j
    induction j with
    | zero =>
      intro m hm
      have hb := bst_le A m
      rw [l_X12_together_27, t3, nI_shl1 (by omega)]
      rw [show 2 ^ A 3 = m by omega] at h
      refine br_t (by rw [le_I, nI_I (by omega), nI_I (by omega)]; omega) ?_
      by_cases z : bst A m = 0
      · rw [if_pos z] at h ⊢
        exact br_t rfl h
      · rw [if_neg z] at h ⊢
        refine br_f (by rw [nI_neg (by omega) (by decide)]; exact id) ?_
        rw [nI_is1 (by omega)]
        refine br_c (fun y => ?_) (fun y => ?_)
        · rw [if_pos y] at h; exact h
        · rw [if_neg y] at h; exact e_bitsOf (by omega) _ _ h
    | succ j ih =>
      intro m hm
      rw [l_X12_together_27, t3, nI_shl1 (by omega)]
      refine br_f (by rw [le_I, nI_I (by omega), nI_I (by omega)]; omega) ⟨_, L45 _ m _ (by omega) rfl (ih (m + 1) (by omega)) (A 3) 0 (by omega)⟩
  exact ⟨_, L (2 ^ A 3) 0 (by omega)⟩
theorem op_together {Mc Mr : Mm} (hI : Inv Mc Mr) (a : Int32) : f_X11_together a Mc (fun r Mc' => f_X12_together a Mr (fun r' Mr' => r = r' ∧ Inv Mc' Mr')) := by
  obtain ⟨-, -, -, -, -, A, hC, hR, -, -, -, hr⟩ := id hI
  have s := hr.sm
  simp only [f_X11_together, f_X12_together, e_noPaper hC s, e_isBit, e_in, bit01, br_eq, b2i_0, read_0 hr]
  by_cases h0 : A 0 = 0
  · simp only [if_neg (not_not_intro h0), if_pos h0]; first | exact hI | exact ⟨trivial, hI⟩
  · simp only [if_pos h0, if_neg h0]
    have w := (hr.wf h0).1
    by_cases ha : 0 ≤ a.toInt ∧ a.toInt < 2
    · simp only [if_neg (not_not_intro ha)]
      obtain ⟨t, ht, rfl⟩ := of_arg (n := 2) (a := a) (by decide) ha
      have p5 := pow5 w.2.2.2.1
      have hb := bst_le A (2 ^ A 3)
      have R := fun {K : Int32 → Mm → Prop} h => s_rtogether (K := K) hR w ht h
      refine s_fewest hC w ?_
      simp only [nI_is0 (show bst A (2 ^ A 3) < 2147483648 by omega), nI_is0 (show t < 2147483648 by omega), e_bitCount (show bst A (2 ^ A 3) < 16777216 by omega)]
      by_cases z : bst A (2 ^ A 3) = 0
      · rw [if_pos z]
        refine R ?_
        rw [if_pos z]; exact ⟨rfl, hI⟩
      · rw [if_neg z]
        by_cases y : t = 0
        · rw [if_pos y]
          refine R ?_
          rw [if_neg z, if_neg (by omega)]; exact ⟨rfl, hI⟩
        · rw [if_neg y]
          refine R ?_
          rw [if_neg z, if_pos (by omega)]; exact ⟨rfl, hI⟩
    · simp only [if_pos ha]; first | exact hI | exact ⟨trivial, hI⟩
