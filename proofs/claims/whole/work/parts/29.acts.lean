def setA (A : AP) (i v : Nat) : AP := fun j => if j = i then v else A j
theorem setA_s {A : AP} {i v : Nat} : setA A i v i = v := if_pos rfl
theorem setA_n {A : AP} {i v j : Nat} (h : j ≠ i) : setA A i v j = A j := if_neg h
theorem msk_congr {p q : Nat → Bool} : ∀ {n : Nat}, (∀ c, c < n → p c = q c) → msk p n = msk q n
  | 0, _ => rfl
  | n + 1, h => by unfold msk; rw [msk_congr (fun c hc => h c (by omega)), h n (by omega)]
/-- two papers of which the told part is the same -/
def Told (A B : AP) : Prop := ∀ i, i < 33 → B i = A i
theorem Told.rising {A B : AP} (t : Told A B) (s : A 0 ≤ 24) : rising B = rising A := by
  unfold _root_.Jvm.Pilot.CPaperHousesLaw_law_r9707_3cab56.rising
  rw [t 0 (by omega)]
  exact msk_congr (fun c hc => by rw [t (4 + (c - 1)) (by omega), t (4 + c) (by omega)])
theorem Told.set {A : AP} {i v : Nat} (h : 33 ≤ i) : Told A (setA A i v) := fun j hj => setA_n (by omega)
theorem Told.rfl' {A : AP} : Told A A := fun _ _ => rfl
theorem Told.trans {A B C : AP} (h : Told A B) (g : Told B C) : Told A C := fun i hi => (g i hi).trans (h i hi)
theorem Told.join {A B S : AP} (t : Told A B) : joinA B S = joinA A S := by
  funext i
  unfold joinA
  by_cases h : i < 33
  · rw [if_pos h, if_pos h, t i h]
  · rw [if_neg h, if_neg h]
theorem ActsRel.told {Mc Mr : Mm} {A B : AP} (h : ActsRel Mc Mr A) (t : Told A B) : ActsRel Mc Mr B := by
  obtain ⟨k, x, h1, h2, h3, h4, h5, h6⟩ := h
  refine ⟨k, x, h1, h2, h3, h4, h5, fun j hj => ?_⟩
  obtain ⟨S, a, b, c⟩ := h6 j hj
  refine ⟨S, by rw [t.join]; exact a, ?_, c⟩
  unfold SceneC at b ⊢
  rw [t 2 (by omega), t 3 (by omega)]
  exact b
theorem c_0 : (0 : Int32).toNatClampNeg = 0 := rfl
theorem c_1 : (1 : Int32).toNatClampNeg = 1 := rfl
theorem c_2 : (2 : Int32).toNatClampNeg = 2 := rfl
theorem c_3 : (3 : Int32).toNatClampNeg = 3 := rfl
theorem c_5 : (5 : Int32).toNatClampNeg = 5 := rfl
theorem c_6 : (6 : Int32).toNatClampNeg = 6 := rfl
theorem c_7 : (7 : Int32).toNatClampNeg = 7 := rfl
theorem c_12 : (12 : Int32).toNatClampNeg = 12 := rfl
theorem c_17 : (17 : Int32).toNatClampNeg = 17 := rfl
theorem c_24 : (24 : Int32).toNatClampNeg = 24 := rfl
theorem nI_is {a n : Nat} (ha : a < 2147483648) (hn : n < 2147483648) {x : Int32} (hx : x = nI n) : (nI a = x) = (a = n) := by rw [hx]; exact nI_ne ha hn
theorem nI_leL {a n : Nat} (ha : a < 2147483648) (hn : n < 2147483648) {x : Int32} (hx : x = nI n) : (x ≤ nI a) = (n ≤ a) := by rw [hx]; exact propext (nI_leI hn ha)
theorem s_getScene {b a : Nat} (ha : 67 ≤ a) (hb : b + 6 < 67) {M : Mm} {A : AP} (p : PapC M b A) (s : Sm A) {K : Mm → Prop} (h : ∀ M' : Mm, (∀ k, k ≠ a → M' k = M k) → SceneC M' a A (fun i => A (33 + i)) → K M') : f_X6_getScene b a M K := by
  have s2 := s.2.2.1
  have s3 := s.2.2.2
  unfold f_X6_getScene
  simp only [c_0, c_1, c_2, c_5, c_7, c_12, c_17]
  intro M2 e2 M4 e4 M6 e6 M8 e8 M10 e10 M12 e12
  have o2 : ∀ k, k ≠ a → M2 k = M k := fun k hk => by rw [e2, gU_cell hk]
  have o4 : ∀ k, k ≠ a → M4 k = M k := fun k hk => by rw [e4, gU_cell hk, o2 k hk]
  have o6 : ∀ k, k ≠ a → M6 k = M k := fun k hk => by rw [e6, gCp_cell hk, o4 k hk]
  have o8 : ∀ k, k ≠ a → M8 k = M k := fun k hk => by rw [e8, gCp_cell hk, o6 k hk]
  have o10 : ∀ k, k ≠ a → M10 k = M k := fun k hk => by rw [e10, gCp_cell hk, o8 k hk]
  refine h M12 (fun k hk => by rw [e12, gCp_cell hk, o10 k hk]) ⟨?_, ?_, fun w hw => ?_, fun f hf => ⟨?_, ?_, ?_⟩⟩
  · rw [e12, gCp_at, if_neg (by omega), e10, gCp_at, if_neg (by omega), e8, gCp_at, if_neg (by omega), e6, gCp_at, if_neg (by omega), e4, gU_place (by omega), e2, gU_same]
    exact p.1.2.2.2.2.2.2
  · rw [e12, gCp_at, if_neg (by omega), e10, gCp_at, if_neg (by omega), e8, gCp_at, if_neg (by omega), e6, gCp_at, if_neg (by omega), e4, gU_same, o2 b (by omega)]
    exact p.1.2.2.2.2.2.1
  · rw [e12, gCp_at, if_neg (by omega), e10, gCp_at, if_neg (by omega), e8, gCp_at, if_neg (by omega), e6, gCp_at, if_pos (by omega), o4 _ (by omega), show 0 + (2 + w - 2) = w by omega, p.2.2.1 w hw]
    show nI _ = nI (A (33 + (1 + w)))
    rw [show 33 + (1 + w) = 34 + w by omega]
  · rw [e12, gCp_at, if_neg (by omega), e10, gCp_at, if_neg (by omega), e8, gCp_at, if_pos (by omega), o6 _ (by omega), show 0 + (7 + f - 7) = f by omega, (p.2.2.2 f hf).2.1]
    show nI _ = nI (A (33 + (7 + f)))
    rw [show 33 + (7 + f) = 40 + f by omega]
  · rw [e12, gCp_at, if_neg (by omega), e10, gCp_at, if_pos (by omega), o8 _ (by omega), show 0 + (12 + f - 12) = f by omega, (p.2.2.2 f hf).2.2.1]
    show nI _ = nI (A (33 + (12 + f)))
    rw [show 33 + (12 + f) = 45 + f by omega]
  · rw [e12, gCp_at, if_pos (by omega), o10 _ (by omega), show 0 + (17 + f - 17) = f by omega, (p.2.2.2 f hf).2.2.2]
    show nI _ = nI (A (33 + (17 + f)))
    rw [show 33 + (17 + f) = 50 + f by omega]
theorem s_keepAct {M : Mm} {A : AP} (p : PapC M 26 A) (s : Sm A) {k x : Nat} (hk : k ≤ 24) (hx : x < 24) (m9 : M 0 9 = nI k) (m10 : M 0 10 = nI x) {K : Mm → Prop} (h : ∀ M' : Mm, (∀ q, q ≠ 0 → q ≠ 67 + x → M' q = M q) → (∀ j, j ≠ 9 → j ≠ 10 → M' 0 j = M 0 j) → M' 0 9 = nI (if k < 24 then k + 1 else 24) → M' 0 10 = nI ((x + 1) % 24) → SceneC M' (67 + x) A (fun i => A (33 + i)) → K M') : f_X11_keepAct M K := by
  unfold f_X11_keepAct
  rw [m10, nI_cl (by omega)]
  refine ⟨vp_nI hx (by decide), s_getScene (by omega) (by omega) p s (fun M7 k7 sc => ?_)⟩
  have x0 : M7 0 = M 0 := k7 0 (by omega)
  have go : ∀ y : Nat, y = (x + 1) % 24 → f_X11_keepAct_36 K (nI y) 0 M7 := by
    intro y hy M1 e1
    have y9 : M1 0 9 = nI k := by rw [e1, gU_place (by omega), x0, m9]
    rw [y9, nI_leL (x := 24) (n := 24) (by omega) (by decide) rfl]
    refine br_c (fun q => ?_) (fun q M4 e4 => ?_)
    · refine h M1 (fun q h1 h2 => by rw [e1, gU_cell h1]; exact k7 q h2) (fun j h1 h2 => by rw [e1, gU_place h2, x0]) (by rw [y9, if_neg (by omega), show k = 24 by omega]) (by rw [e1, gU_same, hy]) (sc.congr (by rw [e1, gU_cell (by omega)]))
    · rw [nI_1] at e4
      refine h M4 (fun q h1 h2 => by rw [e4, gU_cell h1, e1, gU_cell h1]; exact k7 q h2) (fun j h1 h2 => by rw [e4, gU_place h1, e1, gU_place h2, x0]) (by rw [e4, gU_same, if_pos (by omega)]) (by rw [e4, gU_place (by omega), e1, gU_same, hy]) (sc.congr (by rw [e4, gU_cell (by omega), e1, gU_cell (by omega)]))
  rw [x0, m10, nI_is (x := 23) (n := 23) (by omega) (by decide) rfl, nI_1]
  exact br_c (fun q => go 0 (by omega)) (fun q => go (x + 1) (by omega))
/-- what the reference keeps of acts, behind one more -/
def KnowR (Mr Mr' : Mm) (k : Nat) : Prop := (∀ q, q ≠ 0 → q ≠ 11 → Mr' q = Mr q) ∧ (∀ j, j ≠ 19 → Mr' 0 j = Mr 0 j) ∧ Mr' 0 19 = nI (if k < 24 then k + 1 else 24) ∧ (∀ j i, i < 22 → j < (if k < 24 then k else 23) → Mr' 11 (22 * j + i) = Mr 11 (22 * (if k < 24 then j else j + 1) + i)) ∧ ∀ i, i < 22 → Mr' 11 (22 * (if k < 24 then k else 23) + i) = Mr 9 i
theorem s_know49 {M : Mm} {k : Nat} (hk : k < 24) (m19 : M 0 19 = nI k) {K : Mm → Prop} (h : ∀ M' : Mm, (∀ q, q ≠ 0 → q ≠ 11 → M' q = M q) → (∀ j, j ≠ 19 → M' 0 j = M 0 j) → M' 0 19 = nI (k + 1) → (∀ q, q < 22 * k → M' 11 q = M 11 q) → (∀ i, i < 22 → M' 11 (22 * k + i) = M 9 i) → K M') : f_X12_know_49 K M := by
  have L : ∀ (n i : Nat) (M1 : Mm), i + n = 22 → (∀ q, q ≠ 11 → M1 q = M q) → (∀ q, q < 22 * k → M1 11 q = M 11 q) → (∀ j, j < i → M1 11 (22 * k + j) = M 9 j) → l_X12_know_51 K (n + 1) (nI i) M1 := by
    intro n
    induction n with
    | zero =>
      intro i M1 hi h1 h2 h3
      rw [l_X12_know_51, nI_leL (x := 22) (n := 22) (by omega) (by decide) rfl]
      refine br_t (by omega) (fun M2 e2 => ?_)
      rw [h1 0 (by omega), m19, nI_1] at e2
      exact h M2 (fun q g1 g2 => by rw [e2, gU_cell g1]; exact h1 q g2) (fun j hj => by rw [e2, gU_place hj, h1 0 (by omega)]) (by rw [e2, gU_same]) (fun q hq => by rw [e2, gU_cell (by omega)]; exact h2 q hq) (fun j hj => by rw [e2, gU_cell (by omega)]; exact h3 j (by omega))
    | succ n ih =>
      intro i M1 hi h1 h2 h3
      have ex : (22 : Int32) * nI k + nI i = nI (22 * k + i) := by rw [show (22 : Int32) = nI 22 from rfl, pk_mul, nI_add]
      rw [l_X12_know_51, nI_leL (x := 22) (n := 22) (by omega) (by decide) rfl, h1 0 (by omega), m19, ex, nI_cl (show i < 2147483648 by omega), nI_cl (show 22 * k + i < 2147483648 by omega)]
      refine br_f (by omega) ⟨vp_nI (by omega) (by decide), vp_nI (by omega) (by decide), fun M6 e6 => ?_⟩
      rw [nI_1]
      refine ih (i + 1) M6 (by omega) (fun q hq => by rw [e6, gU_cell hq]; exact h1 q hq) (fun q hq => by rw [e6, gU_place (by omega)]; exact h2 q hq) (fun j hj => ?_)
      rw [e6, gU_at]
      by_cases hji : j = i
      · subst hji; rw [if_pos ⟨rfl, rfl⟩, h1 9 (by omega)]
      · rw [if_neg (by omega)]; exact h3 j (by omega)
  exact ⟨23, L 22 0 M rfl (fun _ _ => rfl) (fun _ _ => rfl) (fun j hj => absurd hj (Nat.not_lt_zero j))⟩
theorem s_know {M : Mm} {k : Nat} (hk : k ≤ 24) (m19 : M 0 19 = nI k) {K : Mm → Prop} (h : ∀ M' : Mm, KnowR M M' k → K M') : f_X12_know M K := by
  unfold f_X12_know
  rw [m19, nI_is (x := 24) (n := 24) (by omega) (by decide) rfl]
  refine br_c (fun q => ?_) (fun q => ?_)
  · have L : ∀ (n i : Nat) (M1 : Mm), i + n = 506 → (∀ q, q ≠ 11 → M1 q = M q) → (∀ j, j < i → M1 11 j = M 11 (22 + j)) → (∀ j, i ≤ j → M1 11 j = M 11 j) → l_X12_know_11 K (n + 1) (nI i) M1 := by
      intro n
      induction n with
      | zero =>
        intro i M1 hi h1 h2 h3
        rw [l_X12_know_11, nI_leL (x := 506) (n := 506) (by omega) (by decide) rfl]
        refine br_t (by omega) (fun M10 e10 => ?_)
        rw [h1 0 (by omega), m19, q, show nI 24 - 1 = nI 23 from rfl] at e10
        refine s_know49 (k := 23) (by omega) (by rw [e10, gU_same]) (fun M' g1 g2 g3 g4 g5 => h M' ⟨fun r r1 r2 => by rw [g1 r r1 r2, e10, gU_cell r1]; exact h1 r r2, fun j hj => by rw [g2 j hj, e10, gU_place hj, h1 0 (by omega)], by rw [g3, if_neg (by omega)], fun j i hi hj => ?_, fun i hi => ?_⟩)
        · rw [if_neg (by omega)] at hj ⊢
          rw [g4 _ (by omega), e10, gU_cell (by omega), h2 _ (by omega)]
          congr 1; omega
        · rw [if_neg (by omega), g5 i hi, e10, gU_cell (by omega), h1 9 (by omega)]
      | succ n ih =>
        intro i M1 hi h1 h2 h3
        rw [l_X12_know_11, nI_leL (x := 506) (n := 506) (by omega) (by decide) rfl, c_add (c := 22) (n := 22) rfl, nI_cl (show i < 2147483648 by omega), nI_cl (show 22 + i < 2147483648 by omega)]
        refine br_f (by omega) ⟨vp_nI (by omega) (by decide), vp_nI (by omega) (by decide), fun M14 e14 => ?_⟩
        rw [nI_1]
        refine ih (i + 1) M14 (by omega) (fun r hr => by rw [e14, gU_cell hr]; exact h1 r hr) (fun j hj => ?_) (fun j hj => by rw [e14, gU_place (by omega)]; exact h3 j (by omega))
        rw [e14, gU_at]
        by_cases hji : j = i
        · subst hji; rw [if_pos ⟨rfl, rfl⟩]; exact h3 _ (by omega)
        · rw [if_neg (by omega)]; exact h2 j (by omega)
    exact ⟨507, L 506 0 M rfl (fun _ _ => rfl) (fun j hj => absurd hj (Nat.not_lt_zero j)) (fun _ _ => rfl)⟩
  · have hk2 : k < 24 := by omega
    refine s_know49 hk2 m19 (fun M' g1 g2 g3 g4 g5 => h M' ⟨g1, g2, by rw [g3, if_pos hk2], fun j i hi hj => ?_, fun i hi => by rw [if_pos hk2]; exact g5 i hi⟩)
    rw [if_pos hk2] at hj ⊢
    exact g4 _ (by omega)
/-- one more act on both sides -/
theorem ActsRel.more {Mc Mr Mc' Mr' : Mm} {A : AP} {k x : Nat} (hk : k ≤ 24) (hx : x < 24) (w : WF A) (hs : ∀ j, j < k → ∃ S : AP, WF (joinA A S) ∧ SceneC Mc (67 + (x + 24 - k + j) % 24) A S ∧ ∀ i, i < 22 → Mr 11 (22 * j + i) = nI (S i)) (r9 : ∀ j, j < 22 → Mr 9 j = nI (A (33 + j))) (c : ∀ q, q ≠ 0 → q ≠ 67 + x → Mc' q = Mc q) (m9 : Mc' 0 9 = nI (if k < 24 then k + 1 else 24)) (m10 : Mc' 0 10 = nI ((x + 1) % 24)) (sc : SceneC Mc' (67 + x) A (fun i => A (33 + i))) (kr : KnowR Mr Mr' k) : ActsRel Mc' Mr' A := by
  obtain ⟨k1, k2, k3, k4, k5⟩ := kr
  have wj : WF (joinA A (fun i => A (33 + i))) := by
    have : joinA A (fun i => A (33 + i)) = A := by
      funext i
      unfold joinA
      by_cases h : i < 33
      · rw [if_pos h]
      · rw [if_neg h]
        show A (33 + (i - 33)) = A i
        congr 1; omega
    rw [this]; exact w
  refine ⟨if k < 24 then k + 1 else 24, (x + 1) % 24, by split <;> omega, by omega, m9, m10, k3, fun j hj => ?_⟩
  by_cases hk2 : k < 24
  · rw [if_pos hk2] at hj ⊢
    simp only [if_pos hk2] at k4 k5
    by_cases hjk : j = k
    · subst hjk
      refine ⟨fun i => A (33 + i), wj, ?_, fun i hi => by rw [k5 i hi, r9 i hi]⟩
      rw [show ((x + 1) % 24 + 24 - (j + 1) + j) % 24 = x by omega]
      exact sc
    · obtain ⟨S, a1, a2, a3⟩ := hs j (by omega)
      refine ⟨S, a1, ?_, fun i hi => by rw [k4 j i hi (by omega), a3 i hi]⟩
      rw [show ((x + 1) % 24 + 24 - (k + 1) + j) % 24 = (x + 24 - k + j) % 24 by omega]
      exact a2.congr (c _ (by omega) (by omega))
  · rw [if_neg hk2] at hj ⊢
    simp only [if_neg hk2] at k4 k5
    by_cases hjk : j = 23
    · subst hjk
      refine ⟨fun i => A (33 + i), wj, ?_, fun i hi => by rw [k5 i hi, r9 i hi]⟩
      rw [show ((x + 1) % 24 + 24 - 24 + 23) % 24 = x by omega]
      exact sc
    · obtain ⟨S, a1, a2, a3⟩ := hs (j + 1) (by omega)
      refine ⟨S, a1, ?_, fun i hi => by rw [k4 j i hi (by omega), a3 i hi]⟩
      rw [show ((x + 1) % 24 + 24 - 24 + j) % 24 = (x + 24 - k + (j + 1)) % 24 by omega]
      exact a2.congr (c _ (by omega) (by omega))
