/-- the bits that the first n of the folk know -/
def anyK (A : AP) : Nat → Nat
  | 0 => 0
  | n + 1 => anyK A n ||| A (50 + n)
theorem e_known {b : Nat} {M : Mm} {A : AP} (p : PapC M b A) (s3 : A 3 ≤ 5) {K : Int32 → Mm → Prop} (h : K (nI (anyK A (A 3))) M) : f_X6_knownByAnybody b M K := by
  have L : ∀ (j n : Nat), n + j = A 3 → l_X6_knownByAnybody_4 K b (j + 1) (nI (anyK A n)) (nI n) M := by
    intro j
    induction j with
    | zero =>
      intro n hn
      rw [l_X6_knownByAnybody_4, p.1.2.2.2.1]
      refine br_t (by rw [le_I, nI_I (by omega), nI_I (by omega)]; omega) ?_
      rw [show n = A 3 by omega]; exact h
    | succ j ih =>
      intro n hn
      rw [l_X6_knownByAnybody_4, p.1.2.2.2.1, nI_cl (by omega), (p.2.2.2 n (by omega)).2.2.2, nI_or, nI_1]
      exact br_f (by rw [le_I, nI_I (by omega), nI_I (by omega)]; omega) ⟨vp_nI (by omega) (by decide), ih (n + 1) (by omega)⟩
  exact ⟨A 3 + 1, L (A 3) 0 (by omega)⟩
theorem e_anybody {M : Mm} {A : AP} (p : PapR (M 7) (M 9) A) (s3 : A 3 ≤ 5) {K : Int32 → Mm → Prop} (h : K (nI (anyK A (A 3))) M) : f_X12_anybody M K := by
  have t3 : M 7 (3 : Int32).toNatClampNeg = nI (A 3) := p.1 3 (by omega)
  have L : ∀ (j n : Nat), n + j = A 3 → l_X12_anybody_4 K (j + 1) (nI (anyK A n)) (nI n) M := by
    intro j
    induction j with
    | zero =>
      intro n hn
      rw [l_X12_anybody_4, t3]
      refine br_t (by rw [le_I, nI_I (by omega), nI_I (by omega)]; omega) ?_
      rw [show n = A 3 by omega]; exact h
    | succ j ih =>
      intro n hn
      rw [l_X12_anybody_4, t3, c_add (c := 17) (n := 17) rfl, nI_cl (by omega), p.2 (17 + n) (by omega), show 33 + (17 + n) = 50 + n by omega, nI_or, nI_1]
      exact br_f (by rw [le_I, nI_I (by omega), nI_I (by omega)]; omega) ⟨vp_nI (by omega) (by decide), ih (n + 1) (by omega)⟩
  exact ⟨A 3 + 1, L (A 3) 0 (by omega)⟩
/-- the acts of one side each: k of them, the scenes S -/
def ClsA (Mc : Mm) (A : AP) (k : Nat) (S : Nat → AP) : Prop := ∃ x : Nat, x < 24 ∧ Mc 0 9 = nI k ∧ Mc 0 10 = nI x ∧ ∀ j, j < k → SceneC Mc (67 + (x + 24 - k + j) % 24) A (S j)
def RefA (Mr : Mm) (k : Nat) (S : Nat → AP) : Prop := Mr 0 19 = nI k ∧ ∀ j, j < k → ∀ i, i < 22 → Mr 11 (22 * j + i) = nI (S j i)
def pk' (k : Nat) : Nat := if k < 24 then k + 1 else 24
def pS (k : Nat) (S : Nat → AP) (T : AP) : Nat → AP := fun j => if k < 24 then (if j < k then S j else T) else (if j < 23 then S (j + 1) else T)
theorem pk'_le (k : Nat) : pk' k ≤ 24 := by unfold pk'; split <;> omega
theorem ActsRel.split {Mc Mr : Mm} {A : AP} (h : ActsRel Mc Mr A) : ∃ (k : Nat) (S : Nat → AP), k ≤ 24 ∧ ClsA Mc A k S ∧ RefA Mr k S ∧ ∀ j, j < k → WF (joinA A (S j)) := by
  obtain ⟨k, x, h1, h2, h3, h4, h5, h6⟩ := h
  refine ⟨k, fun j => if hj : j < k then Classical.choose (h6 j hj) else fun _ => 0, h1, ⟨x, h2, h3, h4, fun j hj => ?_⟩, ⟨h5, fun j hj => ?_⟩, fun j hj => ?_⟩
  · simp only [dif_pos hj]; exact (Classical.choose_spec (h6 j hj)).2.1
  · simp only [dif_pos hj]; exact (Classical.choose_spec (h6 j hj)).2.2
  · simp only [dif_pos hj]; exact (Classical.choose_spec (h6 j hj)).1
theorem ActsRel.glue {Mc Mr : Mm} {A : AP} {k : Nat} {S : Nat → AP} (hk : k ≤ 24) (c : ClsA Mc A k S) (r : RefA Mr k S) (w : ∀ j, j < k → WF (joinA A (S j))) : ActsRel Mc Mr A := by
  obtain ⟨x, h2, h3, h4, h6⟩ := c
  exact ⟨k, x, hk, h2, h3, h4, r.1, fun j hj => ⟨S j, w j hj, h6 j hj, r.2 j hj⟩⟩
theorem ClsA.told {Mc : Mm} {A B : AP} {k : Nat} {S : Nat → AP} (c : ClsA Mc A k S) (t : Told A B) : ClsA Mc B k S := by
  obtain ⟨x, h2, h3, h4, h6⟩ := c
  refine ⟨x, h2, h3, h4, fun j hj => ?_⟩
  have := h6 j hj
  unfold SceneC at this ⊢
  rw [t 2 (by omega), t 3 (by omega)]
  exact this
theorem ClsA.congr {Mc Mc' : Mm} {A : AP} {k : Nat} {S : Nat → AP} (c : ClsA Mc A k S) (e9 : Mc' 0 9 = Mc 0 9) (e10 : Mc' 0 10 = Mc 0 10) (e : ∀ q, 67 ≤ q → Mc' q = Mc q) : ClsA Mc' A k S := by
  obtain ⟨x, h2, h3, h4, h6⟩ := c
  exact ⟨x, h2, by rw [e9, h3], by rw [e10, h4], fun j hj => (h6 j hj).congr (e _ (by omega))⟩
/-- the class keeps one more -/
theorem s_keep {M : Mm} {A : AP} (p : PapC M 26 A) (s : Sm A) {k : Nat} {S : Nat → AP} (hk : k ≤ 24) (c : ClsA M A k S) {K : Mm → Prop} (h : ∀ M' : Mm, (∀ q, q ≠ 0 → q < 67 → M' q = M q) → (∀ j, j ≠ 9 → j ≠ 10 → M' 0 j = M 0 j) → ClsA M' A (pk' k) (pS k S (fun i => A (33 + i))) → K M') : f_X11_keepAct M K := by
  obtain ⟨x, hx, m9, m10, hs⟩ := c
  refine s_keepAct p s hk hx m9 m10 (fun M' c1 c2 c3 c4 c5 => h M' (fun q h1 h2 => c1 q h1 (by omega)) c2 ⟨(x + 1) % 24, by omega, c3, c4, fun j hj => ?_⟩)
  unfold pk' at hj ⊢
  unfold pS
  by_cases hk2 : k < 24
  · rw [if_pos hk2] at hj ⊢
    simp only [if_pos hk2]
    by_cases hjk : j < k
    · simp only [if_pos hjk]
      rw [show ((x + 1) % 24 + 24 - (k + 1) + j) % 24 = (x + 24 - k + j) % 24 by omega]
      exact (hs j hjk).congr (c1 _ (by omega) (by omega))
    · simp only [if_neg hjk]
      rw [show ((x + 1) % 24 + 24 - (k + 1) + j) % 24 = x by omega]
      exact c5
  · rw [if_neg hk2] at hj ⊢
    simp only [if_neg hk2]
    by_cases hjk : j < 23
    · simp only [if_pos hjk]
      rw [show ((x + 1) % 24 + 24 - 24 + j) % 24 = (x + 24 - k + (j + 1)) % 24 by omega]
      exact (hs (j + 1) (by omega)).congr (c1 _ (by omega) (by omega))
    · simp only [if_neg hjk]
      rw [show ((x + 1) % 24 + 24 - 24 + j) % 24 = x by omega]
      exact c5
/-- the reference keeps one more -/
theorem s_rkeep {M : Mm} {A : AP} (r9 : ∀ j, j < 22 → M 9 j = nI (A (33 + j))) {k : Nat} {S : Nat → AP} (hk : k ≤ 24) (c : RefA M k S) {K : Mm → Prop} (h : ∀ M' : Mm, (∀ q, q ≠ 0 → q ≠ 11 → M' q = M q) → (∀ j, j ≠ 19 → M' 0 j = M 0 j) → RefA M' (pk' k) (pS k S (fun i => A (33 + i))) → K M') : f_X12_know M K := by
  refine s_know hk c.1 (fun M' kr => ?_)
  obtain ⟨n1, n2, n3, n4, n5⟩ := kr
  refine h M' n1 n2 ⟨n3, fun j hj i hi => ?_⟩
  unfold pk' at hj
  unfold pS
  by_cases hk2 : k < 24
  · rw [if_pos hk2] at hj
    simp only [if_pos hk2] at n4 n5 ⊢
    by_cases hjk : j < k
    · simp only [if_pos hjk]; rw [n4 j i hi hjk]; exact c.2 j hjk i hi
    · simp only [if_neg hjk]; rw [show j = k by omega, n5 i hi]; exact r9 i hi
  · rw [if_neg hk2] at hj
    simp only [if_neg hk2] at n4 n5 ⊢
    by_cases hjk : j < 23
    · simp only [if_pos hjk]; rw [n4 j i hi hjk]; exact c.2 (j + 1) (by omega) i hi
    · simp only [if_neg hjk]; rw [show j = 23 by omega, n5 i hi]; exact r9 i hi
/-- n days on: the paper, how many acts, the scenes -/
def itA (A : AP) : Nat → AP
  | 0 => A
  | n + 1 => dayA (itA A n) (fun f => A (28 + f)) (A 1)
def itK (k : Nat) : Nat → Nat
  | 0 => k
  | n + 1 => pk' (itK k n)
def itS (A : AP) (k : Nat) (S : Nat → AP) : Nat → Nat → AP
  | 0 => S
  | n + 1 => pS (itK k n) (itS A k S n) (fun i => itA A n (33 + i))
theorem it_told {A : AP} : ∀ n, Told A (itA A n)
  | 0 => Told.rfl'
  | n + 1 => (it_told n).trans day_told
theorem it_33 {A : AP} : ∀ n, itA A n 33 = A 33 + n
  | 0 => rfl
  | n + 1 => by show dayA _ _ _ 33 = _; rw [day_33, it_33 n]; omega
theorem it_wf {D : Nat} {A : AP} (w : WFb D A) : ∀ {n : Nat} {E : Nat}, A 33 + n ≤ E → WFb E (itA A n)
  | 0, E, h => by
    have := w.day (E := E) (v := A 33) h
    rw [setA_id rfl] at this
    exact this
  | n + 1, E, h => (it_wf w (n := n) (E := A 33 + n) (Nat.le_refl _)).dayA _ _ (by rw [it_33]; omega)
theorem itK_le {k : Nat} (hk : k ≤ 24) : ∀ n, itK k n ≤ 24
  | 0 => hk
  | n + 1 => pk'_le _
theorem it_scn {A : AP} {k : Nat} {S : Nat → AP} (w : WF A) (hS : ∀ j, j < k → WF (joinA A (S j))) : ∀ {n : Nat}, A 33 + n ≤ 9999 → ∀ j, j < itK k n → WF (joinA A (itS A k S n j))
  | 0, _, j, hj => hS j hj
  | n + 1, h, j, hj => by
    have ih := it_scn (n := n) w hS (by omega)
    have wn : WF (itA A n) := it_wf w (by omega)
    have jn : joinA A (fun i => itA A n (33 + i)) = itA A n := by
      funext i
      unfold joinA
      by_cases h : i < 33
      · rw [if_pos h]; exact (it_told n i h).symm
      · rw [if_neg h]
        show itA A n (33 + (i - 33)) = itA A n i
        congr 1; omega
    show WF (joinA A (pS (itK k n) (itS A k S n) (fun i => itA A n (33 + i)) j))
    have hj : j < pk' (itK k n) := hj
    unfold pk' at hj
    unfold pS
    by_cases hk2 : itK k n < 24
    · rw [if_pos hk2] at hj
      simp only [if_pos hk2]
      by_cases hjk : j < itK k n
      · simp only [if_pos hjk]; exact ih j hjk
      · simp only [if_neg hjk]; rw [jn]; exact wn
    · rw [if_neg hk2] at hj
      simp only [if_neg hk2]
      by_cases hjk : j < 23
      · simp only [if_pos hjk]; exact ih (j + 1) (by omega)
      · simp only [if_neg hjk]; rw [jn]; exact wn
theorem op_days {Mc Mr : Mm} (hI : Inv Mc Mr) (a : Int32) : f_X11_days a Mc (fun r Mc' => f_X12_days a Mr (fun r' Mr' => r = r' ∧ Inv Mc' Mr')) := by
  obtain ⟨-, -, -, -, -, A, hC, hR, hAc, -, -, hr⟩ := id hI
  have s := hr.sm
  have s0 := s.1
  have s3 := s.2.2.2
  have e1 : (1 : Int32).toInt = 1 := rfl
  have e24 : (24 : Int32).toInt = 24 := rfl
  have e9999 : (9999 : Int32).toInt = 9999 := rfl
  have c13 := hC.1.2.2.2.2.2.2
  have r0 : Mr 9 (0 : Int32).toNatClampNeg = nI (A 33) := hR.2 0 (by omega)
  simp only [f_X11_days, f_X12_days, e_noPaper hC s, read_0 hr, e_in, br_eq, b2i_0, lt_I, le_I, e1, e24, e9999, c13, r0]
  by_cases h0 : A 0 = 0
  · simp only [if_neg (not_not_intro h0), if_pos h0]
    first | exact hI | exact ⟨trivial, hI⟩
  · simp only [if_pos h0, if_neg h0]
    obtain ⟨w, rd⟩ := hr.wf h0
    have w7 := w.2.2.2.2.2.2.1
    by_cases ha : 1 ≤ a.toInt ∧ a.toInt ≤ 24
    · simp only [if_neg (not_not_intro ha), if_neg (show ¬ a.toInt < 1 by omega), if_pos (show a.toInt ≤ 24 by omega)]
      obtain ⟨n, hn, rfl⟩ := of_arg (n := 25) (a := a) (by decide) (by omega)
      rw [nI_I (by omega)] at ha
      simp only [nI_add, nI_I (show A 33 + n < 2147483648 by omega)]
      by_cases hf : ((A 33 + n : Nat) : Int) ≤ 9999
      · simp only [if_pos hf]
        obtain ⟨k, S, hk, cA, rA, wA⟩ := hAc.split
        have tl := it_told (A := A)
        -- the reference's days
        have ref : ∀ (Mc' : Mm) (x : Int32), x = nI (anyK (itA A n) (A 3)) → (∀ Mr' : Mm, (∀ q, q ≠ 0 → q ≠ 11 → q ≠ 9 → Mr' q = Mr q) → (∀ j, j ≠ 19 → Mr' 0 j = Mr 0 j) → RefA Mr' (itK k n) (itS A k S n) → PapR (Mr' 7) (Mr' 9) (itA A n) → Inv Mc' Mr') → ∃ z, l_X12_days_42 (fun r' Mr' => x = r' ∧ Inv Mc' Mr') (nI n) z 0 Mr := by
          intro Mc' x hx hinv
          have L : ∀ (j i : Nat) (M1 : Mm), i + j = n → (∀ q, q ≠ 0 → q ≠ 11 → q ≠ 9 → M1 q = Mr q) → (∀ j, j ≠ 19 → M1 0 j = Mr 0 j) → RefA M1 (itK k i) (itS A k S i) → PapR (M1 7) (M1 9) (itA A i) → l_X12_days_42 (fun r' Mr' => x = r' ∧ Inv Mc' Mr') (nI n) (j + 1) (nI i) M1 := by
            intro j
            induction j with
            | zero =>
              intro i M1 hi h1 h2 h3 h4
              rw [l_X12_days_42]
              refine br_t (by rw [le_I, nI_I (by omega), nI_I (by omega)]; omega) ?_
              have hin : i = n := by omega
              subst hin
              refine e_anybody h4 (by rw [tl i 3 (by omega)]; exact s3) ⟨by rw [hx, tl i 3 (by omega)], hinv M1 h1 h2 h3 h4⟩
            | succ j ih =>
              intro i M1 hi h1 h2 h3 h4
              rw [l_X12_days_42]
              refine br_f (by rw [le_I, nI_I (by omega), nI_I (by omega)]; omega) ?_
              have wi : WF (itA A i) := it_wf w (by omega)
              refine s_rkeep h4.2 (itK_le hk i) h3 (fun M2 g1 g2 g3 => ?_)
              have p2 : PapR (M2 7) (M2 9) (itA A i) := by rw [g1 7 (by omega) (by omega), g1 9 (by omega) (by omega)]; exact h4
              refine s_pass (Or.inl rfl) p2 wi (by omega) (fun M3 f1 p3 => ?_)
              rw [nI_1]
              refine ih (i + 1) M3 (by omega) (fun q q1 q2 q3 => by rw [f1 q q3, g1 q q1 q2]; exact h1 q q1 q2 q3) (fun j hj => by rw [f1 0 (by omega), g2 j hj]; exact h2 j hj) ⟨by rw [f1 0 (by omega)]; exact g3.1, fun j hj i hi => by rw [f1 11 (by omega)]; exact g3.2 j hj i hi⟩ ?_
              have e28 : (fun f => itA A i (28 + f)) = fun f => itA A i (28 + f) := rfl
              rw [tl i 1 (by omega)] at p3
              have : dayA (itA A i) (fun f => itA A i (28 + f)) (A 1) = dayA (itA A i) (fun f => A (28 + f)) (A 1) := by
                unfold dayA
                have hw : ∀ m, m ≤ itA A i 3 → walks (itA A i) (fun f => itA A i (28 + f)) m = walks (itA A i) (fun f => A (28 + f)) m := by
                  intro m
                  induction m with
                  | zero => intro _; rfl
                  | succ m ihm =>
                    intro hm
                    show walkA _ m _ = walkA _ m _
                    rw [ihm (by omega)]
                    rw [tl i 3 (by omega)] at hm
                    show walkA _ m (itA A i (28 + m)) = walkA _ m (A (28 + m))
                    rw [tl i (28 + m) (by omega)]
                rw [hw _ (Nat.le_refl _)]
              rw [this] at p3
              exact p3
          exact ⟨n + 1, L n 0 Mr (by omega) (fun _ _ _ _ => rfl) (fun _ _ => rfl) rA hR⟩
        have L : ∀ (j i : Nat) (M1 : Mm), i + j = n → (∀ q, q ≠ 0 → q < 67 → ¬ (26 ≤ q ∧ q ≤ 32) → M1 q = Mc q) → (∀ j, j ≠ 9 → j ≠ 10 → M1 0 j = Mc 0 j) → ClsA M1 A (itK k i) (itS A k S i) → PapC M1 26 (itA A i) → l_X11_days_44 (fun r Mc' => ∃ z, l_X12_days_42 (fun r' Mr' => r = r' ∧ Inv Mc' Mr') (nI n) z 0 Mr) (nI n) (j + 1) (nI i) M1 := by
          intro j
          induction j with
          | zero =>
            intro i M1 hi h1 h2 h3 h4
            rw [l_X11_days_44]
            refine br_t (by rw [le_I, nI_I (by omega), nI_I (by omega)]; omega) ?_
            have hin : i = n := by omega
            subst hin
            refine e_known h4 (by rw [tl i 3 (by omega)]; exact s3) (ref M1 _ (by rw [tl i 3 (by omega)]) (fun Mr' g1 g2 g3 g4 => ?_))
            have wi : WF (itA A i) := it_wf w (by omega)
            refine hI.act ?_ ?_ ?_ ?_ rd wi h4 g4 ?_
            · intro j hj; exact h2 j (by omega) (by omega)
            · intro q hq; exact h1 q (by omega) (by omega) (by omega)
            · intro j hj; exact g2 j (by omega)
            · intro q hq; exact g1 q (by omega) (by omega) (by omega)
            · exact (ActsRel.glue (itK_le hk i) h3 g3 (it_scn w wA (by omega))).told (tl i)
          | succ j ih =>
            intro i M1 hi h1 h2 h3 h4
            rw [l_X11_days_44]
            refine br_f (by rw [le_I, nI_I (by omega), nI_I (by omega)]; omega) ?_
            have wi : WF (itA A i) := it_wf w (by omega)
            refine s_keep h4 wi.sm (itK_le hk i) (h3.told (tl i)) (fun M2 g1 g2 g3 => ?_)
            have p2 : PapC M2 26 (itA A i) := h4.congr (fun q q1 q2 => g1 q (by omega) (by omega))
            refine s_passDay p2 wi (by omega) (fun M3 f1 p3 => ?_)
            rw [nI_1]
            refine ih (i + 1) M3 (by omega) (fun q q1 q2 q3 => by rw [f1 q (by omega), g1 q q1 q2]; exact h1 q q1 q2 q3) (fun j q1 q2 => by rw [f1 0 (by omega), g2 j q1 q2]; exact h2 j q1 q2) ?_ ?_
            · have tb : Told (itA A i) A := fun q hq => (tl i q hq).symm
              exact (g3.told tb).congr (by rw [f1 0 (by omega)]) (by rw [f1 0 (by omega)]) (fun q hq => f1 q (by omega))
            · rw [tl i 1 (by omega)] at p3
              have : dayA (itA A i) (fun f => itA A i (28 + f)) (A 1) = dayA (itA A i) (fun f => A (28 + f)) (A 1) := by
                unfold dayA
                have hw : ∀ m, m ≤ itA A i 3 → walks (itA A i) (fun f => itA A i (28 + f)) m = walks (itA A i) (fun f => A (28 + f)) m := by
                  intro m
                  induction m with
                  | zero => intro _; rfl
                  | succ m ihm =>
                    intro hm
                    show walkA _ m _ = walkA _ m _
                    rw [ihm (by omega)]
                    rw [tl i 3 (by omega)] at hm
                    show walkA _ m (itA A i (28 + m)) = walkA _ m (A (28 + m))
                    rw [tl i (28 + m) (by omega)]
                rw [hw _ (Nat.le_refl _)]
              rw [this] at p3
              exact p3
        exact ⟨n + 1, L n 0 Mc (by omega) (fun _ _ _ _ => rfl) (fun _ _ _ => rfl) cA hC⟩
      · simp only [if_neg hf]
        first | exact hI | exact ⟨trivial, hI⟩
    · simp only [if_pos ha]
      by_cases h1 : a.toInt < 1
      · rw [if_pos h1]; first | exact hI | exact ⟨trivial, hI⟩
      · rw [if_neg h1, if_neg (by omega)]; first | exact hI | exact ⟨trivial, hI⟩
