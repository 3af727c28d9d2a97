theorem act_done {Mc Mr M7 N7 Mc' Mr' : Mm} {A B : AP} (hI : Inv Mc Mr) (w : WF A) (rd : Mr 0 20 = 1) (hR : PapR (Mr 7) (Mr 9) A) {k x : Nat} (hk : k ≤ 24) (hx : x < 24) (hs : ∀ j, j < k → ∃ S : AP, WF (joinA A S) ∧ SceneC Mc (67 + (x + 24 - k + j) % 24) A S ∧ ∀ i, i < 22 → Mr 11 (22 * j + i) = nI (S i)) (c1 : ∀ q, q ≠ 0 → q ≠ 67 + x → M7 q = Mc q) (c2 : ∀ j, j ≠ 9 → j ≠ 10 → M7 0 j = Mc 0 j) (c3 : M7 0 9 = nI (if k < 24 then k + 1 else 24)) (c4 : M7 0 10 = nI ((x + 1) % 24)) (c5 : SceneC M7 (67 + x) A (fun i => A (33 + i))) (kr : KnowR Mr N7 k) (d : ∀ q, ¬ (26 ≤ q ∧ q ≤ 32) → Mc' q = M7 q) (e : ∀ q, q ≠ 9 → Mr' q = N7 q) (wB : WF B) (t : Told A B) (pc : PapC Mc' 26 B) (pr : PapR (N7 7) (Mr' 9) B) : Inv Mc' Mr' := by
  obtain ⟨n1, n2, n3, n4, n5⟩ := id kr
  refine hI.act ?_ ?_ ?_ ?_ rd wB pc (by rw [e 7 (by omega)]; exact pr) ?_
  · intro j hj; rw [d 0 (by omega)]; exact c2 j (by omega) (by omega)
  · intro q hq; rw [d q (by omega)]; exact c1 q (by omega) (by omega)
  · intro j hj; rw [e 0 (by omega)]; exact n2 j (by omega)
  · intro q hq; rw [e q (by omega)]; exact n1 q (by omega) (by omega)
  · have ac : ActsRel M7 N7 A := ActsRel.more hk hx w hs hR.2 c1 c3 c4 c5 kr
    refine (ac.told t).congr ?_ ?_ ?_ ?_ ?_
    · rw [d 0 (by omega)]
    · rw [d 0 (by omega)]
    · intro q hq; rw [d q (by omega)]
    · rw [e 0 (by omega)]
    · rw [e 11 (by omega)]
theorem WFb.faded {D : Nat} {A : AP} (w : WFb D A) {v : Nat} (hv : v < 2 ^ A 0) : WFb D (setA A 39 v) := by
  have s3 := w.2.2.2.1
  have s2 := w.2.2.1
  have s0 := w.1.2
  have n : ∀ {j : Nat}, j ≠ 39 → setA A 39 v j = A j := fun q => setA_n q
  obtain ⟨w1, w2, w3, w4, w5, w6, w7, w8, w9, w10, w11⟩ := w
  unfold WFb
  rw [n (j := 0) (by omega), n (j := 1) (by omega), n (j := 2) (by omega), n (j := 3) (by omega), n (j := 33) (by omega), setA_s]
  refine ⟨w1, w2, w3, w4, fun c hc => by rw [n (by omega)]; exact w5 c hc, fun g hg => by rw [n (by omega)]; exact w6 g hg, w7, fun u hu => by rw [n (by omega)]; exact w8 u hu, fun u hu => by rw [n (by omega), n (by omega)]; exact w9 u hu, hv, fun g hg => by rw [n (by omega), n (by omega), n (by omega)]; exact w11 g hg⟩
theorem e_bitOf {a k : Nat} (hk : k < 32) (ha : a < 2147483648) (M : Mm) (K : Int32 → Mm → Prop) : f_X11_bitOf (nI a) (nI k) M K = K (nI (a / 2 ^ k % 2)) M := by
  unfold f_X11_bitOf
  rw [nI_bit hk ha]
theorem e_rhas {a k : Nat} (hk : k < 32) (ha : a < 2147483648) (M : Mm) (K : Int32 → Mm → Prop) : f_X12_has (nI a) (nI k) M K = K (nI (a / 2 ^ k % 2)) M := by
  unfold f_X12_has
  rw [nI_bit hk ha, nI_is1 (by omega), br_eq]
  by_cases h : a / 2 ^ k % 2 = 1
  · rw [if_pos h, h]; rfl
  · rw [if_neg h, show a / 2 ^ k % 2 = 0 by omega]; rfl
theorem xor_lt {a b n : Nat} (ha : a < 2 ^ n) (hb : b < 2 ^ n) : a ^^^ b < 2 ^ n := Nat.xor_lt_two_pow ha hb
theorem op_fade {Mc Mr : Mm} (hI : Inv Mc Mr) (a b : Int32) : f_X11_fade a b Mc (fun r Mc' => f_X12_fade a b Mr (fun r' Mr' => r = r' ∧ Inv Mc' Mr')) := by
  obtain ⟨-, -, -, -, -, A, hC, hR, hAc, -, -, hr⟩ := id hI
  have s := hr.sm
  have s0 := s.1
  have c12 := hC.1.2.2.2.2.2.1
  have r6 : Mr 9 (6 : Int32).toNatClampNeg = nI (A 39) := hR.2 6 (by omega)
  simp only [f_X11_fade, f_X12_fade, f_X12_fade_41, e_hasCell hC s, e_isCell hR hr, e_isBit, e_in, bit01, br_eq, b2i_0, c12, r6]
  by_cases ha : 0 ≤ a.toInt ∧ a.toInt < A 0
  · simp only [if_neg (not_not_intro ha)]
    by_cases hb : 0 ≤ b.toInt ∧ b.toInt < 2
    · simp only [if_neg (not_not_intro hb)]
      obtain ⟨c, hc, rfl⟩ := of_arg (n := A 0) (a := a) (by omega) ha
      obtain ⟨o, ho, rfl⟩ := of_arg (n := 2) (a := b) (by decide) hb
      obtain ⟨w, rd⟩ := hr.wf (by omega)
      have fl := w.2.2.2.2.2.2.2.2.2.1
      have fl2 : A 39 < 16777216 := Nat.lt_of_lt_of_le fl (show 2 ^ A 0 ≤ 2 ^ 24 from Nat.pow_le_pow_right (by omega) (by omega))
      have cl : 2 ^ c < 2 ^ A 0 := Nat.pow_lt_pow_right (by omega) hc
      simp only [e_bitOf (show c < 32 by omega) (show A 39 < 2147483648 by omega), e_rhas (show c < 32 by omega) (show A 39 < 2147483648 by omega), nI_is1 (show o < 2147483648 by omega), nI_ne (show A 39 / 2 ^ c % 2 < 2147483648 by omega) (show o < 2147483648 by omega), nI_is1 (show A 39 / 2 ^ c % 2 < 2147483648 by omega), nI_is0 (show A 39 / 2 ^ c % 2 < 2147483648 by omega)]
      by_cases hq : A 39 / 2 ^ c % 2 = o
      · rw [if_pos hq]
        by_cases ho1 : o = 1
        · rw [if_pos ho1, if_pos (by omega)]; first | exact hI | exact ⟨trivial, hI⟩
        · rw [if_neg ho1, if_pos (by omega)]; first | exact hI | exact ⟨trivial, hI⟩
      · rw [if_neg hq]
        obtain ⟨k, x, hk, hx, m9, m10, m19, hs⟩ := hAc
        refine s_keepAct hC s hk hx m9 m10 (fun M7 c1 c2 c3 c4 c5 => ?_)
        intro M11 e11
        have hC7 : PapC M7 26 A := hC.congr (fun q h1 h2 => c1 q (by omega) (by omega))
        rw [hC7.1.2.2.2.2.2.1, nI_shl1 (by omega), nI_xor] at e11
        have wB := w.faded (xor_lt fl cl)
        have main : f_X12_know Mr (fun M2 => ∀ M3 : Mm, M3 = gU M2 9 (6 : Int32).toNatClampNeg ((M2 9 (6 : Int32).toNatClampNeg) ^^^ (1 <<< (nI c &&& 31))) → M11 26 12 = M3 9 (6 : Int32).toNatClampNeg ∧ Inv M11 M3) := by
          refine s_know hk m19 (fun N7 kr M3 e3 => ?_)
          have n9 : N7 9 = Mr 9 := kr.1 9 (by omega) (by omega)
          rw [n9, r6, nI_shl1 (by omega), nI_xor, c_6] at e3
          refine ⟨by rw [e11, gU_same, e3, c_6, gU_same], act_done hI w rd hR hk hx hs c1 c2 c3 c4 c5 kr (fun q hq => by rw [e11, gU_cell (by omega)]) (fun q hq => by rw [e3, gU_cell hq]) wB (Told.set (by omega)) (hC7.uFaded s e11) ?_⟩
          rw [kr.1 7 (by omega) (by omega)]
          refine (show PapR (Mr 7) (M3 9) (setA A (33 + 6) _) from hR.up (by omega) (fun i => ?_))
          rw [e3, gU_now, n9]
        by_cases ho1 : o = 1
        · rw [if_pos ho1, if_neg (by omega)]; exact main
        · rw [if_neg ho1, if_neg (by omega)]; exact main
    · simp only [if_pos hb]
      first | exact hI | exact ⟨trivial, hI⟩
  · simp only [if_pos ha]
    first | exact hI | exact ⟨trivial, hI⟩
def Free (A : AP) (t : Nat) : Prop := 1 ≤ t ∧ t < A 0 ∧ ∀ u, u < A 2 → A (34 + u) ≠ t
theorem s_free {b t : Nat} {M : Mm} {A : AP} (p : PapC M b A) (s : Sm A) (w8 : ∀ u, u < A 2 → A (34 + u) < A 0) (ht : t ≤ 30) {K : Int32 → Mm → Prop} (h1 : Free A t → K 1 M) (h0 : ¬ Free A t → K 0 M) : f_X6_freeForWall b (nI t) M K := by
  have s0 := s.1
  have s2 := s.2.2.1
  unfold f_X6_freeForWall
  rw [p.1.2.1]
  refine br_c (fun q => ?_) (fun q => ?_)
  · rw [lt_I, nI_I (by omega)] at q
    have q : (t : Int) < 1 := q
    exact h0 (fun g => by have := g.1; omega)
  · rw [lt_I, nI_I (by omega)] at q
    have q : ¬ (t : Int) < 1 := q
    refine br_c (fun q2 => ?_) (fun q2 => ?_)
    · rw [lt_I, nI_I (by omega), nI_I (by omega)] at q2
      have L : ∀ (n u : Nat), u + n = A 2 → (∀ v, v < u → A (34 + v) ≠ t) → l_X6_freeForWall_17 K b (nI t) (n + 1) (nI u) M := by
        intro n
        induction n with
        | zero =>
          intro u hu hv
          rw [l_X6_freeForWall_17, p.1.2.2.1]
          refine br_t (by rw [le_I, nI_I (by omega), nI_I (by omega)]; omega) (h1 ⟨by omega, by omega, fun v hv' => hv v (by omega)⟩)
        | succ n ih =>
          intro u hu hv
          rw [l_X6_freeForWall_17, p.1.2.2.1]
          refine br_f (by rw [le_I, nI_I (by omega), nI_I (by omega)]; omega) ⟨vp_nI (by omega) (by decide), ?_⟩
          have := w8 u (by omega)
          rw [nI_cl (by omega), p.2.2.1 u (by omega), nI_ne (by omega) (by omega)]
          refine br_c (fun q3 => h0 (fun g => g.2.2 u (by omega) q3)) (fun q3 => ?_)
          rw [nI_1]
          refine ih (u + 1) (by omega) (fun v hv' => ?_)
          by_cases hvu : v = u
          · subst hvu; exact q3
          · exact hv v (by omega)
      exact ⟨A 2 + 1, L (A 2) 0 (by omega) (fun v hv => absurd hv (Nat.not_lt_zero v))⟩
    · rw [lt_I, nI_I (by omega), nI_I (by omega)] at q2
      exact h0 (fun g => by have := g.2.1; omega)
theorem s_mayMove {c v t : Nat} {by' : Int32} {M : Mm} {A : AP} (p : PapR (M 7) (M c) A) (s : Sm A) (w8 : ∀ u, u < A 2 → A (34 + u) < A 0) (hv : v < A 2) (ht : nI (A (34 + v)) + by' = nI t) (htn : t ≤ 30) (hne : A (34 + v) ≠ t) {K : Int32 → Mm → Prop} (h1 : Free A t → K 1 M) (h0 : ¬ Free A t → K 0 M) : f_X12_mayMove c (nI v) by' M K := by
  have s0 := s.1
  have s2 := s.2.2.1
  have t0 : M 7 (0 : Int32).toNatClampNeg = nI (A 0) := p.1 0 (by omega)
  have t2 : M 7 (2 : Int32).toNatClampNeg = nI (A 2) := p.1 2 (by omega)
  unfold f_X12_mayMove
  rw [c_add (c := 1) (n := 1) rfl, nI_cl (by omega), p.2 (1 + v) (by omega), show 33 + (1 + v) = 34 + v by omega, ht, e_in, t0, i_sub (by rw [nI_I (by omega)]; show (-2147483648 : Int) ≤ _ - 1; omega) (by rw [nI_I (by omega)]; show _ - 1 < (2147483648 : Int); omega), nI_I (by omega), nI_I (by omega)]
  refine ⟨vp_nI (by omega) (by decide), ?_⟩
  have L : ∀ (n u : Nat) (g : Int32), u + n = A 2 → (g = 0 ∨ g = 1) → (g = 1 ↔ (1 ≤ t ∧ t < A 0 ∧ ∀ y, y < u → A (34 + y) ≠ t)) → l_X12_mayMove_28 K c (nI v) (nI t) (n + 1) g (nI u) M := by
    intro n
    induction n with
    | zero =>
      intro u g hu hg hgi
      rw [l_X12_mayMove_28, t2]
      refine br_t (by rw [le_I, nI_I (by omega), nI_I (by omega)]; omega) ⟨hg, ?_⟩
      rcases hg with rfl | rfl
      · refine h0 (fun fr => ?_)
        have := hgi.mpr ⟨fr.1, fr.2.1, fun y hy => fr.2.2 y (by omega)⟩
        exact absurd this (by decide)
      · have := hgi.mp rfl
        exact h1 ⟨this.1, this.2.1, fun y hy => this.2.2 y (by omega)⟩
    | succ n ih =>
      intro u g hu hg hgi
      have hwu := w8 u (by omega)
      rw [l_X12_mayMove_28, t2]
      refine br_f (by rw [le_I, nI_I (by omega), nI_I (by omega)]; omega) ?_
      rw [nI_1]
      rcases hg with rfl | rfl
      · refine br_t rfl (ih (u + 1) 0 (by omega) (Or.inl rfl) ⟨fun q => absurd q (by decide), fun q => ?_⟩)
        exact hgi.mpr ⟨q.1, q.2.1, fun y hy => q.2.2 y (by omega)⟩
      · have hg1 := hgi.mp rfl
        refine br_f (by decide) ?_
        rw [nI_ne (show u < 2147483648 by omega) (show v < 2147483648 by omega), c_add (c := 1) (n := 1) rfl, nI_cl (by omega), p.2 (1 + u) (by omega), show 33 + (1 + u) = 34 + u by omega, nI_ne (by omega) (by omega)]
        have yes : A (34 + u) ≠ t → l_X12_mayMove_28 K c (nI v) (nI t) (n + 1) 1 (nI (u + 1)) M := by
          intro hne2
          refine ih (u + 1) 1 (by omega) (Or.inr rfl) ⟨fun _ => ⟨hg1.1, hg1.2.1, fun y hy => ?_⟩, fun _ => rfl⟩
          by_cases hyu : y = u
          · subst hyu; exact hne2
          · exact hg1.2.2 y (by omega)
        refine br_c (fun q => yes (by rw [q]; exact hne)) (fun q => ⟨vp_nI (by omega) (by decide), br_c (fun q2 => ?_) (fun q2 => yes q2)⟩)
        exact ih (u + 1) 0 (by omega) (Or.inl rfl) ⟨fun z => absurd z (by decide), fun z => absurd q2 (z.2.2 u (by omega))⟩
  refine ⟨A 2 + 1, L (A 2) 0 _ (by omega) b2i_01 ?_⟩
  rw [b2i_1]
  show ((1 : Int) ≤ (t : Int) ∧ (t : Int) ≤ (A 0 : Int) - 1) ↔ _
  exact ⟨fun q => ⟨by omega, by omega, fun y hy => absurd hy (Nat.not_lt_zero y)⟩, fun q => ⟨by omega, by omega⟩⟩
