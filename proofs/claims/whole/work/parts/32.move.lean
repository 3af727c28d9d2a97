theorem WFb.wall {D : Nat} {A : AP} (w : WFb D A) {v t : Nat} (hv : v < A 2) (fr : Free A t) (ht : t = A (34 + v) + 1 ∨ t + 1 = A (34 + v)) : WFb D (setA A (34 + v) t) := by
  have s3 := w.2.2.2.1
  have s2 := w.2.2.1
  have s0 := w.1.2
  have n : ∀ {j : Nat}, j ≠ 34 + v → setA A (34 + v) t j = A j := fun q => setA_n q
  obtain ⟨w1, w2, w3, w4, w5, w6, w7, w8, w9, w10, w11⟩ := w
  obtain ⟨f1, f2, f3⟩ := fr
  unfold WFb
  rw [n (j := 0) (by omega), n (j := 1) (by omega), n (j := 2) (by omega), n (j := 3) (by omega), n (j := 33) (by omega), n (j := 39) (by omega)]
  refine ⟨w1, w2, w3, w4, fun c hc => by rw [n (by omega)]; exact w5 c hc, fun g hg => by rw [n (by omega)]; exact w6 g hg, w7, fun u hu => ?_, fun u hu => ?_, w10, fun g hg => by rw [n (by omega), n (by omega), n (by omega)]; exact w11 g hg⟩
  · by_cases huv : u = v
    · subst huv; rw [setA_s]; exact ⟨f1, f2⟩
    · rw [n (by omega)]; exact w8 u hu
  · have h9 := w9 u hu
    by_cases huv : u = v
    · subst huv
      have := f3 (u + 1) hu
      rw [setA_s, n (by omega)]; omega
    · by_cases huv2 : u + 1 = v
      · subst huv2
        have := f3 u (by omega)
        rw [setA_s, n (by omega)]; omega
      · rw [n (by omega), n (by omega)]; exact h9
theorem op_move {Mc Mr : Mm} (hI : Inv Mc Mr) (a b : Int32) : f_X11_move a b Mc (fun r Mc' => f_X12_move a b Mr (fun r' Mr' => r = r' ∧ Inv Mc' Mr')) := by
  obtain ⟨-, -, -, -, -, A, hC, hR, hAc, -, -, hr⟩ := id hI
  have s := hr.sm
  have s2 := s.2.2.1
  have s0 := s.1
  have t2 : Mr 7 (2 : Int32).toNatClampNeg = nI (A 2) := hR.1 2 (by omega)
  have hin : b2i ((0 : Int32).toInt ≤ a.toInt ∧ a.toInt ≤ (nI (A 2) - 1).toInt) = b2i (0 ≤ a.toInt ∧ a.toInt < A 2) := by
    apply b2i_c
    rw [i_sub (by rw [nI_I (by omega)]; show (-2147483648 : Int) ≤ _ - 1; omega) (by rw [nI_I (by omega)]; show _ - 1 < (2147483648 : Int); omega), nI_I (by omega)]
    show (0 : Int) ≤ a.toInt ∧ a.toInt ≤ (A 2 : Int) - 1 ↔ _
    omega
  simp only [f_X11_move, f_X12_move, e_hasWall hC s, e_isBit, e_in, bit01, br_eq, b2i_0, t2, hin, read_0 hr]
  by_cases ha : 0 ≤ a.toInt ∧ a.toInt < A 2
  · have h0 : ¬ A 0 = 0 := fun q => by have := (read_01 hr q).1; omega
    simp only [if_neg (not_not_intro ha), if_neg h0]
    by_cases hb : 0 ≤ b.toInt ∧ b.toInt < 2
    · simp only [if_neg (not_not_intro hb)]
      obtain ⟨v, hv, rfl⟩ := of_arg (n := A 2) (a := a) (by omega) ha
      obtain ⟨o, ho, rfl⟩ := of_arg (n := 2) (a := b) (by decide) hb
      obtain ⟨w, rd⟩ := hr.wf h0
      have w8 : ∀ u, u < A 2 → A (34 + u) < A 0 := fun u hu => (w.2.2.2.2.2.2.2.1 u hu).2
      have wv := w.2.2.2.2.2.2.2.1 v hv
      refine ⟨vp_nI (by omega) (by decide), ?_⟩
      simp only [nI_is1 (show o < 2147483648 by omega), nI_cl (show v < 2147483648 by omega), hC.2.2.1 v hv]
      -- both sides by the step z, to the place t
      have main : ∀ (z : Int32) (t : Nat), nI (A (34 + v)) + z = nI t → (t = A (34 + v) + 1 ∨ t + 1 = A (34 + v)) → f_X11_move_40 (fun r Mc' => f_X12_move_45 (fun r' Mr' => r = r' ∧ Inv Mc' Mr') (nI v) z Mr) (nI v) z (nI (A (34 + v))) Mc := by
        intro z t hz ht
        have htn : t ≤ 30 := by omega
        have hne : A (34 + v) ≠ t := by omega
        unfold f_X11_move_40
        rw [hz]
        refine s_free hC s w8 htn (fun fr => br_f (by decide) ?_) (fun fr => br_t rfl ?_)
        · obtain ⟨k, x, hk, hx, m9, m10, m19, hs⟩ := hAc
          refine s_keepAct hC s hk hx m9 m10 (fun M7 c1 c2 c3 c4 c5 => ⟨vp_nI (by omega) (by decide), fun M6 e6 => ?_⟩)
          have hC7 : PapC M7 26 A := hC.congr (fun q h1 h2 => c1 q (by omega) (by omega))
          rw [nI_cl (by omega)] at e6
          unfold f_X12_move_45
          refine s_mayMove hR s w8 hv hz htn hne (fun _ => br_f (by decide) ?_) (fun nf => absurd fr nf)
          refine s_know hk m19 (fun N7 kr => ?_)
          have n9 : N7 9 = Mr 9 := kr.1 9 (by omega) (by omega)
          rw [c_add (c := 1) (n := 1) rfl, nI_cl (by omega), n9, hR.2 (1 + v) (by omega), show 33 + (1 + v) = 34 + v by omega, hz]
          refine ⟨vp_nI (by omega) (by decide), fun M3 e3 => ⟨by rw [e3, gU_same], act_done hI w rd hR hk hx hs c1 c2 c3 c4 c5 kr (fun q hq => by rw [e6, gU_cell (by omega)]) (fun q hq => by rw [e3, gU_cell hq]) (w.wall hv fr ht) (Told.set (by omega)) (hC7.uWall s e6 hv) ?_⟩⟩
          rw [kr.1 7 (by omega) (by omega), show 34 + v = 33 + (1 + v) by omega]
          refine hR.up (by omega) (fun i => ?_)
          rw [e3, gU_now, n9]
        · unfold f_X12_move_45
          exact s_mayMove hR s w8 hv hz htn hne (fun fr2 => absurd fr2 fr) (fun _ => br_t rfl ⟨rfl, hI⟩)
      by_cases ho1 : o = 1
      · simp only [if_pos ho1]
        exact main 1 (A (34 + v) + 1) (nI_1 _) (Or.inl rfl)
      · simp only [if_neg ho1]
        obtain ⟨y, hy⟩ : ∃ y, A (34 + v) = y + 1 := ⟨A (34 + v) - 1, by omega⟩
        exact main (-1) y (by rw [hy]; exact pk_m1 y) (Or.inr hy.symm)
    · simp only [if_pos hb]
      first | exact hI | exact ⟨trivial, hI⟩
  · simp only [if_pos ha]
    by_cases h0 : A 0 = 0
    · rw [if_pos h0]; first | exact hI | exact ⟨trivial, hI⟩
    · rw [if_neg h0]; first | exact hI | exact ⟨trivial, hI⟩
theorem s_setScene {a : Nat} (ha : 67 ≤ a) {M : Mm} {A S : AP} (p : PapC M 26 A) (s : Sm A) (sc : SceneC M a A S) {K : Mm → Prop} (h : ∀ M' : Mm, (∀ k, ¬ (26 ≤ k ∧ k ≤ 32) → M' k = M k) → PapC M' 26 (joinA A S) → K M') : f_X6_setScene 26 a M K := by
  have s2 := s.2.2.1
  have s3 := s.2.2.2
  have jn : ∀ i, 33 ≤ i → joinA A S i = S (i - 33) := fun i hi => by unfold joinA; rw [if_neg (by omega)]
  unfold f_X6_setScene
  simp only [c_0, c_1, c_2, c_5, c_7, c_12, c_17]
  intro M2 e2 M4 e4 M6 e6 M8 e8 M10 e10 M12 e12
  have k2 : M2 a = M a := by rw [e2, gU_cell (by omega)]
  have k4 : M4 a = M a := by rw [e4, gU_cell (by omega), k2]
  have k6 : M6 a = M a := by rw [e6, gCp_cell (by omega), k4]
  have k8 : M8 a = M a := by rw [e8, gCp_cell (by omega), k6]
  have k10 : M10 a = M a := by rw [e10, gCp_cell (by omega), k8]
  refine h M12 (fun k hk => by rw [e12, gCp_cell (by omega), e10, gCp_cell (by omega), e8, gCp_cell (by omega), e6, gCp_cell (by omega), e4, gU_cell (by omega), e2, gU_cell (by omega)]) ?_
  have o26 : M12 26 = M4 26 := by rw [e12, gCp_cell (by omega), e10, gCp_cell (by omega), e8, gCp_cell (by omega), e6, gCp_cell (by omega)]
  refine p.up (fun i hi => by unfold joinA; rw [if_pos hi]) s ?_ ?_ ?_ ?_ ?_ ?_ ?_
  · rw [o26, e4, gU_same, k2, jn 39 (by omega)]; exact sc.2.1
  · rw [o26, e4, gU_place (by omega), e2, gU_same, jn 33 (by omega)]; exact sc.1
  · intro j h1 h2; rw [o26, e4, gU_place h1, e2, gU_place h2]
  · rw [e12, gCp_cell (by omega), e10, gCp_cell (by omega), e8, gCp_cell (by omega), e6, gCp_cell (by omega), e4, gU_cell (by omega), e2, gU_cell (by omega)]
  · rw [e12, gCp_cell (by omega), e10, gCp_cell (by omega), e8, gCp_cell (by omega), e6, gCp_cell (by omega), e4, gU_cell (by omega), e2, gU_cell (by omega)]
  · intro u hu
    rw [e12, gCp_cell (by omega), e10, gCp_cell (by omega), e8, gCp_cell (by omega), e6, gCp_at, if_pos (by omega), k4, show 2 + (u - 0) = 2 + u by omega, sc.2.2.1 u hu, jn _ (by omega), show 34 + u - 33 = 1 + u by omega]
  · intro g hg
    have y := sc.2.2.2 g hg
    refine ⟨?_, ?_, ?_⟩
    · rw [e12, gCp_cell (by omega), e10, gCp_cell (by omega), e8, gCp_at, if_pos (by omega), k6, show 7 + (g - 0) = 7 + g by omega, y.1, jn _ (by omega), show 40 + g - 33 = 7 + g by omega]
    · rw [e12, gCp_cell (by omega), e10, gCp_at, if_pos (by omega), k8, show 12 + (g - 0) = 12 + g by omega, y.2.1, jn _ (by omega), show 45 + g - 33 = 12 + g by omega]
    · rw [e12, gCp_at, if_pos (by omega), k10, show 17 + (g - 0) = 17 + g by omega, y.2.2, jn _ (by omega), show 50 + g - 33 = 17 + g by omega]
theorem s_rundo {M : Mm} {k : Nat} (hk : k < 24) (m19 : M 0 19 = nI k) {K : Int32 → Mm → Prop} (h : ∀ M' : Mm, (∀ q, q ≠ 9 → M' q = M q) → (∀ i, i < 22 → M' 9 i = M 11 (22 * k + i)) → K (nI k) M') : ∃ z, l_X12_undo_22 K z 0 M := by
  have L : ∀ (n i : Nat) (M1 : Mm), i + n = 22 → (∀ q, q ≠ 9 → M1 q = M q) → (∀ j, j < i → M1 9 j = M 11 (22 * k + j)) → l_X12_undo_22 K (n + 1) (nI i) M1 := by
    intro n
    induction n with
    | zero =>
      intro i M1 hi h1 h2
      rw [l_X12_undo_22, nI_leL (x := 22) (n := 22) (by omega) (by decide) rfl, h1 0 (by omega), m19]
      exact br_t (by omega) (h M1 h1 (fun j hj => h2 j (by omega)))
    | succ n ih =>
      intro i M1 hi h1 h2
      have ex : (22 : Int32) * nI k + nI i = nI (22 * k + i) := by rw [show (22 : Int32) = nI 22 from rfl, pk_mul, nI_add]
      rw [l_X12_undo_22, nI_leL (x := 22) (n := 22) (by omega) (by decide) rfl, h1 0 (by omega), m19, ex, nI_cl (show i < 2147483648 by omega), nI_cl (show 22 * k + i < 2147483648 by omega)]
      refine br_f (by omega) ⟨vp_nI (by omega) (by decide), vp_nI (by omega) (by decide), fun M6 e6 => ?_⟩
      rw [nI_1]
      refine ih (i + 1) M6 (by omega) (fun q hq => by rw [e6, gU_cell hq]; exact h1 q hq) (fun j hj => ?_)
      rw [e6, gU_now]
      by_cases hji : j = i
      · subst hji; rw [if_pos rfl, h1 11 (by omega)]
      · rw [if_neg hji]; exact h2 j (by omega)
  exact ⟨23, L 22 0 M rfl (fun _ _ => rfl) (fun j hj => absurd hj (Nat.not_lt_zero j))⟩
theorem op_undo {Mc Mr : Mm} (hI : Inv Mc Mr) : f_X11_undo Mc (fun r Mc' => f_X12_undo Mr (fun r' Mr' => r = r' ∧ Inv Mc' Mr')) := by
  obtain ⟨-, -, -, -, -, A, hC, hR, hAc, -, -, hr⟩ := id hI
  have s := hr.sm
  obtain ⟨k, x, hk, hx, m9, m10, m19, hs⟩ := hAc
  simp only [f_X11_undo, f_X12_undo, br_eq, m9, m10, m19, nI_is0 (show k < 2147483648 by omega), nI_is0 (show x < 2147483648 by omega)]
  by_cases hk0 : k = 0
  · simp only [if_pos hk0]
    first | exact hI | exact ⟨trivial, hI⟩
  · simp only [if_neg hk0]
    obtain ⟨y, rfl⟩ : ∃ y, k = y + 1 := ⟨k - 1, by omega⟩
    have h0 : A 0 ≠ 0 := by
      intro q
      rcases hr with ⟨_, _, _, _, q2⟩ | ⟨_, w⟩
      · rw [m19, nI_is0 (by omega)] at q2; omega
      · have := w.1.1; omega
    obtain ⟨w, rd⟩ := hr.wf h0
    obtain ⟨S, wS, sc, rS⟩ := hs y (by omega)
    have go : ∀ x' : Nat, x' < 24 → (x + 24 - (y + 1) + y) % 24 = x' → f_X11_undo_29 (fun r Mc' => ∀ M7 : Mm, M7 = gU Mr 0 19 (nI (y + 1) - 1) → ∃ z, l_X12_undo_22 (fun r' Mr' => r = r' ∧ Inv Mc' Mr') z 0 M7) (nI x') 0 Mc := by
      intro x' hx' hxx M1 e1 M3 e3
      rw [e1, gU_place (by omega), ← e1, m9, nI_pred] at e3
      have m310 : M3 0 10 = nI x' := by rw [e3, gU_place (by omega), e1, gU_same]
      rw [m310, nI_cl (by omega)]
      have o3 : ∀ q, q ≠ 0 → M3 q = Mc q := fun q hq => by rw [e3, gU_cell hq, e1, gU_cell hq]
      have hC3 : PapC M3 26 A := hC.congr (fun q h1 h2 => o3 q (by omega))
      rw [hxx] at sc
      refine ⟨vp_nI (by omega) (by decide), s_setScene (by omega) hC3 s (sc.congr (o3 _ (by omega))) (fun M' d1 pc M7 e7 => ?_)⟩
      rw [nI_pred] at e7
      have g19 : M7 0 19 = nI y := by rw [e7, gU_same]
      refine s_rundo (by omega) g19 (fun N q1 q2 => ?_)
      have z9 : M' 0 9 = nI y := by rw [d1 0 (by omega), e3, gU_same]
      have o7 : ∀ q, q ≠ 0 → M7 q = Mr q := fun q hq => by rw [e7, gU_cell hq]
      refine ⟨by rw [z9], hI.act ?_ ?_ ?_ ?_ rd wS pc ?_ ?_⟩
      · intro j hj; rw [d1 0 (by omega), e3, gU_place (by omega), e1, gU_place (by omega)]
      · intro q hq; rw [d1 q (by omega)]; exact o3 q (by omega)
      · intro j hj; rw [q1 0 (by omega), e7, gU_place (by omega)]
      · intro q hq; rw [q1 q (by omega)]; exact o7 q (by omega)
      · refine ⟨fun i hi => by rw [q1 7 (by omega), o7 7 (by omega)]; unfold joinA; rw [if_pos hi]; exact hR.1 i hi, fun j hj => ?_⟩
        rw [q2 j hj, o7 11 (by omega), rS j hj]
        unfold joinA
        rw [if_neg (by omega), show 33 + j - 33 = j by omega]
      · have tj : Told A (joinA A S) := fun i hi => by unfold joinA; rw [if_pos hi]
        refine ActsRel.told ?_ tj
        refine ⟨y, x', by omega, hx', z9, by rw [d1 0 (by omega)]; exact m310, by rw [q1 0 (by omega)]; exact g19, fun j hj => ?_⟩
        obtain ⟨S2, b1, b2, b3⟩ := hs j (by omega)
        refine ⟨S2, b1, ?_, fun i hi => by rw [q1 11 (by omega), o7 11 (by omega)]; exact b3 i hi⟩
        rw [show (x' + 24 - y + j) % 24 = (x + 24 - (y + 1) + j) % 24 by omega]
        exact b2.congr (by rw [d1 _ (by omega), o3 _ (by omega)])
    by_cases hx0 : x = 0
    · simp only [if_pos hx0]
      exact go 23 (by omega) (by omega)
    · simp only [if_neg hx0]
      obtain ⟨u, hu⟩ : ∃ u, x = u + 1 := ⟨x - 1, by omega⟩
      rw [show nI x - 1 = nI u by rw [hu]; exact nI_pred u]
      exact go u (by omega) (by omega)
