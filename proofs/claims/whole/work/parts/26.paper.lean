/-- small numbers: what a paper, or none, has -/
def Sm (A : AP) : Prop := A 0 ≤ 24 ∧ A 1 ≤ 24 ∧ A 2 ≤ 5 ∧ A 3 ≤ 5
theorem ReadRel.sm {Mr : Mm} {A : AP} (h : ReadRel Mr A) : Sm A := by
  rcases h with ⟨_, h, _⟩ | ⟨_, h⟩
  · unfold Sm; rw [h 0, h 1, h 2, h 3]; omega
  · exact ⟨h.1.2, h.2.1, h.2.2.1, h.2.2.2.1⟩
theorem WFb.sm {D : Nat} {A : AP} (h : WFb D A) : Sm A := ⟨h.1.2, h.2.1, h.2.2.1, h.2.2.2.1⟩
theorem lo_hi {v : Int32} {n : Nat} (hn : n < 2147483648) {x : Int32} (hx : x = nI n) (M : Mm) (K : Int32 → Mm → Prop) : ((((v : Int32) < 0 : Prop) → K 0 M) ∧ (¬ ((v : Int32) < 0 : Prop) → ((((x : Int32) ≤ v : Prop) → K 0 M) ∧ (¬ ((x : Int32) ≤ v : Prop) → K 1 M)))) = K (b2i (0 ≤ v.toInt ∧ v.toInt < n)) M := by
  simp only [br_eq, lt_I, le_I, hx, nI_I hn, show (0 : Int32).toInt = 0 from rfl]
  by_cases h1 : v.toInt < 0
  · rw [if_pos h1, b2i_f (by omega)]
  · rw [if_neg h1]
    by_cases h2 : (n : Int) ≤ v.toInt
    · rw [if_pos h2, b2i_f (by omega)]
    · rw [if_neg h2, b2i_t (by omega)]
theorem e_hasFolk {b : Nat} {M : Mm} {A : AP} (h : PapC M b A) (s : Sm A) (v : Int32) (K : Int32 → Mm → Prop) : f_X6_hasFolk b v M K = K (b2i (0 ≤ v.toInt ∧ v.toInt < A 3)) M := lo_hi (by have := s.2.2.2; omega) h.1.2.2.2.1 M K
theorem e_hasCell {b : Nat} {M : Mm} {A : AP} (h : PapC M b A) (s : Sm A) (v : Int32) (K : Int32 → Mm → Prop) : f_X6_hasCell b v M K = K (b2i (0 ≤ v.toInt ∧ v.toInt < A 0)) M := lo_hi (by have := s.1; omega) h.1.2.1 M K
theorem e_hasWall {b : Nat} {M : Mm} {A : AP} (h : PapC M b A) (s : Sm A) (v : Int32) (K : Int32 → Mm → Prop) : f_X6_hasWall b v M K = K (b2i (0 ≤ v.toInt ∧ v.toInt < A 2)) M := lo_hi (by have := s.2.2.1; omega) h.1.2.2.1 M K
theorem e_hasHouse {b : Nat} {M : Mm} {A : AP} (h : PapC M b A) (s : Sm A) (v : Int32) (K : Int32 → Mm → Prop) : f_X6_hasHouse b v M K = K (b2i (0 < A 0 ∧ 0 ≤ v.toInt ∧ v.toInt ≤ A 2)) M := by
  have s1 := s.1
  have s2 := s.2.2.1
  simp only [f_X6_hasHouse, br_eq, lt_I, le_I, h.1.2.1, h.1.2.2.1, nI_I (show A 0 < 2147483648 by omega), nI_I (show A 2 < 2147483648 by omega), show (0 : Int32).toInt = 0 from rfl]
  by_cases h0 : (A 0 : Int) ≤ 0
  · rw [if_pos h0, b2i_f (by omega)]
  · rw [if_neg h0]
    by_cases h1 : v.toInt < 0
    · rw [if_pos h1, b2i_f (by omega)]
    · rw [if_neg h1]
      by_cases h2 : (A 2 : Int) < v.toInt
      · rw [if_pos h2, b2i_f (by omega)]
      · rw [if_neg h2, b2i_t (by omega)]
theorem e_noPaper {M : Mm} {A : AP} (h : PapC M 26 A) (s : Sm A) (K : Int32 → Mm → Prop) : f_X11_noPaper M K = K (b2i (A 0 = 0)) M := by
  have s1 := s.1
  simp only [f_X11_noPaper, br_eq, h.1.2.1, nI_is0 (show A 0 < 2147483648 by omega)]
  by_cases h0 : A 0 = 0
  · rw [if_pos h0, b2i_t h0]
  · rw [if_neg h0, b2i_f h0]
theorem e_isBit (v : Int32) (M : Mm) (K : Int32 → Mm → Prop) : f_X11_isBit v M K = K (b2i (0 ≤ v.toInt ∧ v.toInt < 2)) M := by
  simp only [f_X11_isBit, br_eq, eq_I, show (0 : Int32).toInt = 0 from rfl, show (1 : Int32).toInt = 1 from rfl]
  by_cases h0 : v.toInt = 0
  · rw [if_pos h0, b2i_t (by omega)]
  · rw [if_neg h0]
    by_cases h1 : v.toInt = 1
    · rw [if_pos h1, b2i_t (by omega)]
    · rw [if_neg h1, b2i_f (by omega)]
/-- the reference's own looks -/
theorem read_0 {Mr : Mm} {A : AP} (h : ReadRel Mr A) : (Mr 0 20 = 0) = (A 0 = 0) := by
  rcases h with ⟨h1, h, _⟩ | ⟨h1, h⟩
  · rw [h1, h 0]; simp
  · rw [h1]
    have := h.1.1
    apply propext
    exact ⟨fun q => absurd q (by decide), fun q => by omega⟩
theorem read_01 {Mr : Mm} {A : AP} (h : ReadRel Mr A) : A 0 = 0 → A 2 = 0 ∧ A 3 = 0 := by
  intro h0
  rcases h with ⟨h1, h, _⟩ | ⟨h1, h⟩
  · exact ⟨h 2, h 3⟩
  · have := h.1.1; omega
theorem is_01 {p : Prop} [Decidable p] (M : Mm) (K : Int32 → Mm → Prop) : ((((b2i p : Int32) = 0 : Prop) → K 0 M) ∧ (¬ ((b2i p : Int32) = 0 : Prop) → K 1 M)) = K (b2i p) M := by
  rw [br_eq]
  by_cases h : p
  · rw [b2i_t h, if_neg (by decide)]
  · rw [b2i_f h, if_pos rfl]
theorem e_isOne {Mr : Mm} {A : AP} {st : Nat → Int32} (h : PapR (Mr 7) st A) (hr : ReadRel Mr A) (v : Int32) (K : Int32 → Mm → Prop) : f_X12_isOne v Mr K = K (b2i (0 ≤ v.toInt ∧ v.toInt < A 3)) Mr := by
  have s := hr.sm
  have s3 := s.2.2.2
  have t3 : Mr 7 (3 : Int32).toNatClampNeg = nI (A 3) := h.1 3 (by omega)
  simp only [f_X12_isOne, e_in, is_01, t3]
  rw [br_eq, i_sub (by rw [nI_I (by omega)]; show (-2147483648 : Int) ≤ _ - 1; omega) (by rw [nI_I (by omega)]; show _ - 1 < (2147483648 : Int); omega), nI_I (by omega)]
  show (if Mr 0 20 = 0 then K 0 Mr else K (b2i ((0 : Int) ≤ v.toInt ∧ v.toInt ≤ (A 3 : Int) - 1)) Mr) = _
  by_cases h0 : Mr 0 20 = 0
  · rw [if_pos h0]
    rw [read_0 hr] at h0
    have := (read_01 hr h0).2
    rw [b2i_f (by omega)]
  · rw [if_neg h0]
    exact congrArg (fun x => K x Mr) (b2i_c (by omega))
theorem e_isCell {Mr : Mm} {A : AP} {st : Nat → Int32} (h : PapR (Mr 7) st A) (hr : ReadRel Mr A) (v : Int32) (K : Int32 → Mm → Prop) : f_X12_isCell v Mr K = K (b2i (0 ≤ v.toInt ∧ v.toInt < A 0)) Mr := by
  have s := hr.sm
  have s3 := s.1
  have t3 : Mr 7 (0 : Int32).toNatClampNeg = nI (A 0) := h.1 0 (by omega)
  simp only [f_X12_isCell, e_in, is_01, t3]
  rw [br_eq, i_sub (by rw [nI_I (by omega)]; show (-2147483648 : Int) ≤ _ - 1; omega) (by rw [nI_I (by omega)]; show _ - 1 < (2147483648 : Int); omega), nI_I (by omega)]
  show (if Mr 0 20 = 0 then K 0 Mr else K (b2i ((0 : Int) ≤ v.toInt ∧ v.toInt ≤ (A 0 : Int) - 1)) Mr) = _
  by_cases h0 : Mr 0 20 = 0
  · rw [if_pos h0]
    rw [read_0 hr] at h0
    rw [b2i_f (by omega)]
  · rw [if_neg h0]
    exact congrArg (fun x => K x Mr) (b2i_c (by omega))
theorem e_isHouse {Mr : Mm} {A : AP} {st : Nat → Int32} (h : PapR (Mr 7) st A) (hr : ReadRel Mr A) (v : Int32) (K : Int32 → Mm → Prop) : f_X12_isHouse v Mr K = K (b2i (0 < A 0 ∧ 0 ≤ v.toInt ∧ v.toInt ≤ A 2)) Mr := by
  have s := hr.sm
  have s3 := s.2.2.1
  have t3 : Mr 7 (2 : Int32).toNatClampNeg = nI (A 2) := h.1 2 (by omega)
  simp only [f_X12_isHouse, e_in, is_01, t3]
  rw [br_eq, nI_I (by omega)]
  show (if Mr 0 20 = 0 then K 0 Mr else K (b2i ((0 : Int) ≤ v.toInt ∧ v.toInt ≤ (A 2 : Int))) Mr) = _
  by_cases h0 : Mr 0 20 = 0
  · rw [if_pos h0]
    rw [read_0 hr] at h0
    rw [b2i_f (by omega)]
  · rw [if_neg h0]
    rw [read_0 hr] at h0
    exact congrArg (fun x => K x Mr) (b2i_c (by omega))
theorem bit01 (v : Int32) : (b2i ((0 : Int32).toInt ≤ v.toInt ∧ v.toInt ≤ (1 : Int32).toInt)) = b2i (0 ≤ v.toInt ∧ v.toInt < 2) := by
  apply b2i_c
  show (0 : Int) ≤ v.toInt ∧ v.toInt ≤ 1 ↔ _
  omega
/-- n + a number, as an index -/
theorem c_add {c : Int32} {n f : Nat} (hc : c = nI n) : c + nI f = nI (n + f) := by rw [hc, nI_add]
theorem op_kind {Mc Mr : Mm} (hI : Inv Mc Mr) (a : Int32) : f_X11_kind a Mc (fun r Mc' => f_X12_kind a Mr (fun r' Mr' => r = r' ∧ Inv Mc' Mr')) := by
  obtain ⟨-, -, -, -, -, A, hC, hR, -, -, -, hr⟩ := id hI
  have s := hr.sm
  have s3 := s.2.2.2
  simp only [f_X11_kind, f_X12_kind, e_hasFolk hC s, e_isOne hR hr, br_eq, b2i_0]
  by_cases ha : 0 ≤ a.toInt ∧ a.toInt < A 3
  · simp only [if_neg (not_not_intro ha)]
    obtain ⟨f, hf, rfl⟩ := of_arg (n := A 3) (a := a) (by omega) ha
    rw [c_add (c := 28) (n := 28) rfl, nI_cl (by omega), nI_cl (by omega)]
    exact ⟨vp_nI (by omega) (by decide), vp_nI (by omega) (by decide), by rw [(hC.2.2.2 f hf).1, hR.1 (28 + f) (by omega)], hI⟩
  · simp only [if_pos ha]
    first | exact hI | exact ⟨trivial, hI⟩
theorem e_sortOf {b f : Nat} {M : Mm} {A : AP} (h : PapC M b A) (hf : f < A 3) (s : A 3 ≤ 5) (hk : 1 ≤ A (28 + f) ∧ A (28 + f) ≤ 5) (K : Option Nat → Mm → Prop) : f_X6_sortOf b (nI f) M K = K (some (18 + A (28 + f))) M := by
  have hm := (h.2.2.2 f hf).1
  unfold f_X6_sortOf
  rw [nI_cl (by omega), hm, nI_cl (by omega)]
  simp only [br_eq, lt_I, le_I, nI_I (show A (28 + f) < 2147483648 by omega), show (0 : Int32).toInt = 0 from rfl, show (6 : Int32).toInt = 6 from rfl]
  rw [if_neg (by omega), if_neg (by omega), if_neg (by omega)]
  apply propext
  exact ⟨fun q => q.2.2, fun q => ⟨vp_nI (by omega) (by decide), vp_nI (by omega) (by decide), q⟩⟩
def isAs (k t : Nat) : Prop := t = 0 ∨ t = k ∨ (t = 1 ∧ k ≤ 3) ∨ (t = 4 ∧ k = 5)
theorem gIs_01 (t q : Nat) : (gIs t q = 0 ∨ gIs t q = 1) = True := by
  unfold gIs
  split <;> simp
theorem e_isOfKind : ∀ k, 1 ≤ k → k ≤ 5 → ∀ t, t ≤ 5 → ∀ (M : Mm) (K : Int32 → Mm → Prop), f_X11_isOfKind (18 + k) (nI t) M K = (if t = 0 ∨ t = k ∨ (t = 1 ∧ k ≤ 3) ∨ (t = 4 ∧ k = 5) then K 1 M else K 0 M) := by
  intro k h1 h2 t ht M K
  have hk : k = 1 ∨ k = 2 ∨ k = 3 ∨ k = 4 ∨ k = 5 := by omega
  have htt : t = 0 ∨ t = 1 ∨ t = 2 ∨ t = 3 ∨ t = 4 ∨ t = 5 := by omega
  unfold f_X11_isOfKind
  simp only [gIs_01, true_and]
  rcases htt with rfl | rfl | rfl | rfl | rfl | rfl <;> rcases hk with rfl | rfl | rfl | rfl | rfl <;> simp [nI, gIs] <;> decide
theorem op_as {Mc Mr : Mm} (hI : Inv Mc Mr) (a b : Int32) : f_X11_as a b Mc (fun r Mc' => f_X12_as a b Mr (fun r' Mr' => r = r' ∧ Inv Mc' Mr')) := by
  obtain ⟨-, -, -, -, -, A, hC, hR, -, -, -, hr⟩ := id hI
  have s := hr.sm
  have s3 := s.2.2.2
  have e0 : (0 : Int32).toInt = 0 := rfl
  have e5 : (5 : Int32).toInt = 5 := rfl
  have e6 : (6 : Int32).toInt = 6 := rfl
  simp only [f_X11_as, f_X12_as, f_X12_as_59, f_X12_as_49, f_X12_as_63, f_X12_as_64, e_hasFolk hC s, e_isOne hR hr, e_in, br_eq, b2i_0, lt_I, e0, e5, e6, e_sound, e_found, e_well, e_rfound]
  by_cases ha : 0 ≤ a.toInt ∧ a.toInt < A 3
  · simp only [if_neg (not_not_intro ha)]
    by_cases hb : 0 ≤ b.toInt ∧ b.toInt ≤ 5
    · simp only [if_neg (not_not_intro hb), if_neg (show ¬ b.toInt < 0 by omega), if_pos (show b.toInt < 6 by omega)]
      obtain ⟨f, hf, rfl⟩ := of_arg (n := A 3) (a := a) (by omega) ha
      obtain ⟨t, ht, rfl⟩ := of_arg (n := 6) (a := b) (by decide) (by omega)
      have hw : WF A := by
        rcases hr with ⟨_, h, _⟩ | ⟨_, h⟩
        · rw [h 3] at hf; omega
        · exact h
      have hk := hw.2.2.2.2.2.1 f hf
      rw [e_sortOf hC hf (by omega) hk]
      simp only [reduceCtorEq, false_implies, true_and, Option.some.injEq, forall_eq']
      refine ⟨by unfold isFolk; omega, ?_⟩
      rw [e_isOfKind _ hk.1 hk.2 t (by omega)]
      rw [c_add (c := 28) (n := 28) rfl, nI_cl (by omega), hR.1 (28 + f) (by omega)]
      have hv : vp_in (nI (28 + f)) 33 := vp_nI (by omega) (by decide)
      have d3 : (nI (A (28 + f)) ≤ (3 : Int32)) = (A (28 + f) ≤ 3) := by
        rw [show (3 : Int32) = nI 3 from rfl]; exact propext (nI_leI (by omega) (by decide))
      have d4 : ∀ n, n < 6 → ((nI t = nI n) = (t = n)) := fun n hn => nI_ne (by omega) (by omega)
      have d5 : ∀ n, n < 6 → ((nI (A (28 + f)) = nI n) = (A (28 + f) = n)) := fun n hn => nI_ne (by omega) (by omega)
      have z1 : (1 : Int32) = nI 1 := rfl
      have z4 : (4 : Int32) = nI 4 := rfl
      have z5 : (5 : Int32) = nI 5 := rfl
      have z0 : (0 : Int32) = nI 0 := rfl
      have zz : ¬ (nI 1 = nI 0) := by decide
      have f0 : Inv (gU Mc 0 11 (nI 0)) (gU Mr 0 4 (nI 0)) := hI.find 0
      have f3 := hI.find 3
      generalize hkk : A (28 + f) = k at *
      have hkc : k = 1 ∨ k = 2 ∨ k = 3 ∨ k = 4 ∨ k = 5 := by omega
      have htc : t = 0 ∨ t = 1 ∨ t = 2 ∨ t = 3 ∨ t = 4 ∨ t = 5 := by omega
      simp only [hv, true_and, d3, z0, z1, z4, z5, d4 0 (by omega), d4 1 (by omega), d4 4 (by omega), d5 5 (by omega), nI_ne (show t < 2147483648 by omega) (show k < 2147483648 by omega)]
      rcases hkc with rfl | rfl | rfl | rfl | rfl <;> rcases htc with rfl | rfl | rfl | rfl | rfl | rfl <;> simp [zz, f0, f3]
    · simp only [if_pos hb]
      by_cases hb1 : b.toInt < 0
      · rw [if_pos hb1]; first | exact hI | exact ⟨trivial, hI⟩
      · rw [if_neg hb1, if_neg (by omega)]; first | exact hI | exact ⟨trivial, hI⟩
  · simp only [if_pos ha]
    first | exact hI | exact ⟨trivial, hI⟩
