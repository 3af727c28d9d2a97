/-! THE TEXT: tokens, on both sides -/
def dg (X : Nat → Nat) (T p : Nat) : Bool := decide (p < T ∧ 48 ≤ X p ∧ X p ≤ 57)
/-- a token: a byte, 256 the end, 257 a number, 258 a number too long -/
def tkn (X : Nat → Nat) (T p : Nat) : Nat := if p < T then (if dg X T p = true then (if dg X T (p + 1) = true ∧ dg X T (p + 2) = true then 258 else 257) else X p) else 256
def wd (X : Nat → Nat) (T p : Nat) : Nat := if dg X T p = true ∧ dg X T (p + 1) = true then 2 else 1
def vl (X : Nat → Nat) (T p : Nat) : Nat := if dg X T (p + 1) = true then (X p - 48) * 10 + (X (p + 1) - 48) else X p - 48
theorem dg_of {X : Nat → Nat} {T p : Nat} (h : dg X T p = true) : p < T ∧ 48 ≤ X p ∧ X p ≤ 57 := of_decide_eq_true h
theorem dg_no {X : Nat → Nat} {T p : Nat} (h : ¬ dg X T p = true) : ¬ (p < T ∧ 48 ≤ X p ∧ X p ≤ 57) := fun q => h (decide_eq_true q)
def ctI (c : Nat) : Int32 := if c < 256 then nI c else if c = 256 then -1 else if c = 257 then -2 else -3
def rsT (c : Nat) : Nat := if c = 257 then 2 else if c = 256 then 5 else if c = 258 then 6 else if 97 ≤ c ∧ c ≤ 122 then 1 else if c = 44 then 3 else if c = 59 then 4 else 6
def rvT (X : Nat → Nat) (T p : Nat) : Nat := if dg X T p = true then vl X T p else if 97 ≤ tkn X T p ∧ tkn X T p ≤ 122 then tkn X T p else 0
def TpC (X : Nat → Nat) (T : Nat) (M : Mm) : Prop := M 24 1 = nI T ∧ ∀ j, j < T → M 25 j = nI (X j)
def TpR (X : Nat → Nat) (T : Nat) (M : Mm) : Prop := M 0 6 = nI T ∧ ∀ j, j < T → M 5 j = (nI (X j)).toInt8.toInt32
def TpX (X : Nat → Nat) (T : Nat) : Prop := T ≤ 90 ∧ ∀ j, j < T → X j < 256
theorem vl_lt {X : Nat → Nat} {T p : Nat} (h : dg X T p = true) : vl X T p < 100 := by
  have h1 := dg_of h
  unfold vl
  by_cases h2 : dg X T (p + 1) = true
  · have h3 := dg_of h2
    rw [if_pos h2]; omega
  · rw [if_neg h2]; omega
theorem tkn_lt {X : Nat → Nat} {T p : Nat} (x : TpX X T) : tkn X T p < 259 := by
  unfold tkn
  by_cases h : p < T
  · have := x.2 p h
    rw [if_pos h]
    split
    · split <;> omega
    · omega
  · rw [if_neg h]; omega
theorem tkn_dg {X : Nat → Nat} {T p : Nat} (x : TpX X T) : dg X T p = true ↔ (tkn X T p = 257 ∨ tkn X T p = 258) := by
  unfold tkn
  constructor
  · intro h
    rw [if_pos (dg_of h).1, if_pos h]
    split <;> omega
  · intro h
    by_cases hp : p < T
    · rw [if_pos hp] at h
      by_cases hd : dg X T p = true
      · exact hd
      · rw [if_neg hd] at h
        have := x.2 p hp
        omega
    · rw [if_neg hp] at h; omega
theorem tkn_in {X : Nat → Nat} {T p : Nat} (h : tkn X T p ≠ 256) : p < T := by
  unfold tkn at h
  by_cases hp : p < T
  · exact hp
  · rw [if_neg hp] at h; omega
theorem wd_1 {X : Nat → Nat} {T p : Nat} (h : ¬ dg X T p = true) : wd X T p = 1 := by
  unfold wd
  rw [if_neg (fun q => h q.1)]
theorem wd_le {X : Nat → Nat} {T p : Nat} (h : p < T) : p + wd X T p ≤ T ∧ 1 ≤ wd X T p := by
  unfold wd
  by_cases q : dg X T p = true ∧ dg X T (p + 1) = true
  · have := (dg_of q.2).1
    rw [if_pos q]; omega
  · rw [if_neg q]; omega
/-- behind a number no figure stands -/
theorem num_next {X : Nat → Nat} {T p : Nat} (x : TpX X T) (h : tkn X T p = 257) : ¬ dg X T (p + wd X T p) = true := by
  have hd := (tkn_dg x).mpr (Or.inl h)
  intro q
  unfold tkn at h
  rw [if_pos (dg_of hd).1, if_pos hd] at h
  unfold wd at q
  by_cases h1 : dg X T (p + 1) = true
  · rw [if_pos ⟨hd, h1⟩] at q
    rw [if_pos ⟨h1, q⟩] at h
    omega
  · rw [if_neg (fun z => h1 z.2)] at q
    exact h1 q
theorem e_isFigure {X : Nat → Nat} {T p : Nat} (x : TpX X T) {M : Mm} (t : TpC X T M) (hp : p ≤ 1000) (K : Int32 → Mm → Prop) : f_X9_isFigure (nI p) M K = K (b2i (dg X T p = true)) M := by
  have hT := x.1
  unfold f_X9_isFigure
  rw [t.1, nI_cl (by omega)]
  by_cases h : p < T
  · have hx := x.2 p h
    rw [t.2 p h]
    simp only [br_eq, le_I, lt_I, nI_I (show T < 2147483648 by omega), nI_I (show p < 2147483648 by omega), nI_I (show X p < 2147483648 by omega), show (48 : Int32).toInt = 48 from rfl, show (57 : Int32).toInt = 57 from rfl]
    rw [if_neg (by omega)]
    have v : vp_in (nI p) 90 := vp_nI (by omega) (by decide)
    simp only [v, true_and]
    by_cases h1 : X p < 48
    · rw [if_pos (by omega), b2i_f (fun q => by have := dg_of q; omega)]
    · rw [if_neg (by omega)]
      by_cases h2 : 57 < X p
      · rw [if_pos (by omega), b2i_f (fun q => by have := dg_of q; omega)]
      · rw [if_neg (by omega), b2i_t (show dg X T p = true from decide_eq_true ⟨h, by omega, by omega⟩)]
  · simp only [br_eq, le_I, nI_I (show T < 2147483648 by omega), nI_I (show p < 2147483648 by omega)]
    rw [if_pos (by omega), b2i_f (fun q => h (dg_of q).1)]
/-- the class's step -/
theorem c_step {X : Nat → Nat} {T q a u : Nat} (x : TpX X T) {M : Mm} (t : TpC X T M) (ha : M 24 2 = nI a) (hu : M 24 4 = nI u) (hq : a + u = q) (hqT : q ≤ T) {K : Mm → Prop} (h : ∀ M' : Mm, (∀ k, k ≠ 24 → M' k = M k) → (∀ j, j = 1 ∨ 6 ≤ j → M' 24 j = M 24 j) → M' 24 2 = nI q → M' 24 3 = ctI (tkn X T q) → M' 24 4 = nI (wd X T q) → M' 24 5 = (if dg X T q = true then nI (vl X T q) else M 24 5) → K M') : f_X9_step M K := by
  have hT := x.1
  unfold f_X9_step
  rw [ha, hu, nI_add, hq]
  intro M1 e1 M3 e3
  have c3 : ∀ k, k ≠ 24 → M3 k = M k := fun k hk => by rw [e3, gU_cell hk, e1, gU_cell hk]
  have j3 : ∀ j, j ≠ 2 → j ≠ 4 → M3 24 j = M 24 j := fun j h2 h4 => by rw [e3, gU_place h4, e1, gU_place h2]
  have m2 : M3 24 2 = nI q := by rw [e3, gU_place (by omega), e1, gU_same]
  have m4 : M3 24 4 = nI 1 := by rw [e3, gU_same]; rfl
  have m1 : M3 24 1 = nI T := by rw [j3 1 (by omega) (by omega)]; exact t.1
  have t3 : TpC X T M3 := ⟨m1, fun j hj => by rw [c3 25 (by omega)]; exact t.2 j hj⟩
  rw [m1, m2]
  refine br_c (fun z => ?_) (fun z M13 e13 => ?_)
  · rw [lt_I, nI_I (by omega), nI_I (by omega)] at z
    have hlt : q < T := by omega
    rw [e_isFigure x t3 (by omega)]
    by_cases d : dg X T q = true
    · rw [b2i_t d]
      refine br_f (by decide) ?_
      have dq := dg_of d
      unfold f_X9_lookAtNumber
      rw [m2, nI_cl (by omega), t3.2 q hlt, show (48 : Int32) = nI 48 from rfl, pk_sub (by omega)]
      refine ⟨vp_nI (by omega) (by decide), fun M2 e2 M4 e4 => ?_⟩
      have c4 : ∀ k, k ≠ 24 → M4 k = M k := fun k hk => by rw [e4, gU_cell hk, e2, gU_cell hk]; exact c3 k hk
      have n2 : M4 24 2 = nI q := by rw [e4, gU_place (by omega), e2, gU_place (by omega)]; exact m2
      have n1 : M4 24 1 = nI T := by rw [e4, gU_place (by omega), e2, gU_place (by omega)]; exact m1
      have n5 : M4 24 5 = nI (X q - 48) := by rw [e4, gU_place (by omega), e2, gU_same]
      have n3 : M4 24 3 = -2 := by rw [e4, gU_same]
      have n4 : M4 24 4 = nI 1 := by rw [e4, gU_place (by omega), e2, gU_place (by omega)]; exact m4
      have n6 : ∀ j, 6 ≤ j → M4 24 j = M 24 j := fun j hj => by rw [e4, gU_place (by omega), e2, gU_place (by omega)]; exact j3 j (by omega) (by omega)
      have t4 : TpC X T M4 := ⟨n1, fun j hj => by rw [c4 25 (by omega)]; exact t.2 j hj⟩
      rw [n2, nI_1, e_isFigure x t4 (by omega)]
      by_cases d1 : dg X T (q + 1) = true
      · rw [b2i_t d1]
        have dq1 := dg_of d1
        refine br_f (by decide) ?_
        rw [n2, nI_1, nI_cl (by omega), n5, t4.2 (q + 1) dq1.1, show (10 : Int32) = nI 10 from rfl, pk_mul, nI_add, pk_sub (by omega)]
        refine ⟨vp_nI (by omega) (by decide), fun M10 e10 M12 e12 => ?_⟩
        have c12 : ∀ k, k ≠ 24 → M12 k = M k := fun k hk => by rw [e12, gU_cell hk, e10, gU_cell hk]; exact c4 k hk
        have o2 : M12 24 2 = nI q := by rw [e12, gU_place (by omega), e10, gU_place (by omega)]; exact n2
        have o1 : M12 24 1 = nI T := by rw [e12, gU_place (by omega), e10, gU_place (by omega)]; exact n1
        have o3 : M12 24 3 = -2 := by rw [e12, gU_place (by omega), e10, gU_place (by omega)]; exact n3
        have o4 : M12 24 4 = nI 2 := by rw [e12, gU_same]; rfl
        have o5 : M12 24 5 = nI (vl X T q) := by
          rw [e12, gU_place (by omega), e10, gU_same]
          unfold vl
          rw [if_pos d1]
          congr 1
          omega
        have o6 : ∀ j, 6 ≤ j → M12 24 j = M 24 j := fun j hj => by rw [e12, gU_place (by omega), e10, gU_place (by omega)]; exact n6 j hj
        have t12 : TpC X T M12 := ⟨o1, fun j hj => by rw [c12 25 (by omega)]; exact t.2 j hj⟩
        have w2 : wd X T q = 2 := by unfold wd; rw [if_pos ⟨d, d1⟩]
        rw [o2, show (2 : Int32) = nI 2 from rfl, nI_add, e_isFigure x t12 (by omega)]
        by_cases d2 : dg X T (q + 2) = true
        · rw [b2i_t d2]
          have tk : tkn X T q = 258 := by unfold tkn; rw [if_pos hlt, if_pos d, if_pos ⟨d1, d2⟩]
          refine br_f (by decide) (fun M17 e17 => h M17 (fun k hk => by rw [e17, gU_cell hk]; exact c12 k hk) (fun j hj => ?_) (by rw [e17, gU_place (by omega)]; exact o2) (by rw [e17, gU_same, tk]; rfl) (by rw [e17, gU_place (by omega), w2]; exact o4) (by rw [if_pos d, e17, gU_place (by omega)]; exact o5))
          rcases hj with rfl | hj
          · rw [e17, gU_place (by omega), o1, t.1]
          · rw [e17, gU_place (by omega)]; exact o6 j hj
        · rw [b2i_f d2]
          have tk : tkn X T q = 257 := by unfold tkn; rw [if_pos hlt, if_pos d, if_neg (fun z => d2 z.2)]
          refine br_t rfl (h M12 c12 (fun j hj => ?_) o2 (by rw [tk]; exact o3) (by rw [w2]; exact o4) (by rw [if_pos d]; exact o5))
          rcases hj with rfl | hj
          · rw [o1, t.1]
          · exact o6 j hj
      · rw [b2i_f d1]
        have tk : tkn X T q = 257 := by unfold tkn; rw [if_pos hlt, if_pos d, if_neg (fun z => d1 z.1)]
        have w1 : wd X T q = 1 := by unfold wd; rw [if_neg (fun z => d1 z.2)]
        refine br_t rfl (h M4 c4 (fun j hj => ?_) n2 (by rw [tk]; exact n3) (by rw [w1]; exact n4) ?_)
        · rcases hj with rfl | hj
          · rw [n1, t.1]
          · exact n6 j hj
        · rw [if_pos d, n5]
          unfold vl
          rw [if_neg d1]
    · rw [b2i_f d]
      have hx := x.2 q hlt
      have tk : tkn X T q = X q := by unfold tkn; rw [if_pos hlt, if_neg d]
      refine br_t rfl ?_
      rw [m2, nI_cl (by omega), t3.2 q hlt]
      refine ⟨vp_nI (by omega) (by decide), fun M10 e10 => h M10 (fun k hk => by rw [e10, gU_cell hk]; exact c3 k hk) (fun j hj => by rw [e10, gU_place (by omega)]; exact j3 j (by omega) (by omega)) (by rw [e10, gU_place (by omega)]; exact m2) ?_ (by rw [e10, gU_place (by omega), wd_1 d]; exact m4) (by rw [if_neg d, e10, gU_place (by omega)]; exact j3 5 (by omega) (by omega))⟩
      rw [e10, gU_same, tk]
      unfold ctI
      rw [if_pos hx]
  · rw [lt_I, nI_I (by omega), nI_I (by omega)] at z
    have d : ¬ dg X T q = true := fun y => by have := dg_of y; omega
    have tk : tkn X T q = 256 := by unfold tkn; rw [if_neg (by omega)]
    refine h M13 (fun k hk => by rw [e13, gU_cell hk]; exact c3 k hk) (fun j hj => by rw [e13, gU_place (by omega)]; exact j3 j (by omega) (by omega)) (by rw [e13, gU_place (by omega)]; exact m2) (by rw [e13, gU_same, tk]; rfl) (by rw [e13, gU_place (by omega), wd_1 d]; exact m4) (by rw [if_neg d, e13, gU_place (by omega)]; exact j3 5 (by omega) (by omega))
theorem byt : ∀ n, n < 256 → (nI n).toInt8.toInt32 &&& 255 = nI n := by decide +kernel
/-- the reference's step -/
theorem e_here {X : Nat → Nat} {T p : Nat} (x : TpX X T) {M : Mm} (t : TpR X T M) (hp : M 0 7 = nI p) (hp2 : p ≤ 1000) (K : Int32 → Mm → Prop) : f_X12_here M K = K (if p < T then nI (X p) else -1000000) M := by
  have hT := x.1
  unfold f_X12_here
  rw [t.1, hp, nI_cl (by omega)]
  simp only [br_eq, le_I, nI_I (show T < 2147483648 by omega), nI_I (show p < 2147483648 by omega)]
  by_cases h : p < T
  · have v : vp_in (nI p) 90 := vp_nI (by omega) (by decide)
    rw [if_neg (by omega), if_pos h, t.2 p h, byt _ (x.2 p h)]
    simp only [v, true_and]
  · rw [if_pos (by omega), if_neg h]
theorem in_dg {X : Nat → Nat} {T p : Nat} (x : TpX X T) : b2i ((48 : Int32).toInt ≤ (if p < T then nI (X p) else (-1000000 : Int32)).toInt ∧ (if p < T then nI (X p) else (-1000000 : Int32)).toInt ≤ (57 : Int32).toInt) = b2i (dg X T p = true) := by
  apply b2i_c
  by_cases h : p < T
  · have hx := x.2 p h
    rw [if_pos h, nI_I (by omega)]
    show (48 : Int) ≤ _ ∧ _ ≤ (57 : Int) ↔ _
    constructor
    · intro q; exact decide_eq_true ⟨h, by omega, by omega⟩
    · intro q; have := dg_of q; omega
  · rw [if_neg h]
    constructor
    · intro q; exact absurd q (by decide)
    · intro q; exact absurd (dg_of q).1 h
theorem r_step {X : Nat → Nat} {T q : Nat} (x : TpX X T) {M : Mm} (t : TpR X T M) (hq : M 0 7 = nI q) (hqT : q ≤ T) {K : Mm → Prop} (h : ∀ M' : Mm, (∀ k, k ≠ 0 → M' k = M k) → (∀ j, ¬ (7 ≤ j ∧ j ≤ 10) → M' 0 j = M 0 j) → M' 0 8 = nI q → M' 0 9 = nI (rsT (tkn X T q)) → M' 0 10 = nI (rvT X T q) → (tkn X T q ≠ 256 → tkn X T q ≠ 258 → M' 0 7 = nI (q + wd X T q)) → K M') : f_X12_step M K := by
  have hT := x.1
  unfold f_X12_step
  rw [hq]
  intro M21 e21 M23 e23
  have c23 : ∀ k, k ≠ 0 → M23 k = M k := fun k hk => by rw [e23, gU_cell hk, e21, gU_cell hk]
  have j23 : ∀ j, j ≠ 8 → j ≠ 10 → M23 0 j = M 0 j := fun j h8 h10 => by rw [e23, gU_place h10, e21, gU_place h8]
  have m7 : M23 0 7 = nI q := by rw [j23 7 (by omega) (by omega)]; exact hq
  have m8 : M23 0 8 = nI q := by rw [e23, gU_place (by omega), e21, gU_same]
  have m10 : M23 0 10 = nI 0 := by rw [e23, gU_same]; rfl
  have t23 : TpR X T M23 := ⟨by rw [j23 6 (by omega) (by omega)]; exact t.1, fun j hj => by rw [c23 5 (by omega)]; exact t.2 j hj⟩
  rw [e_here x t23 m7 (by omega)]
  by_cases hlt : q < T
  · have hx := x.2 q hlt
    have ne : ¬ (if q < T then nI (X q) else (-1000000 : Int32)) = -1000000 := by
      rw [if_pos hlt, nI_neg (by omega) (by decide)]; exact id
    refine br_f ne ?_
    rw [e_in, in_dg x]
    by_cases d : dg X T q = true
    · rw [b2i_t d]
      have dq := dg_of d
      refine br_f (by decide) ?_
      -- the figures
      have L : ∀ (z i : Nat) (M1 : Mm), T ≤ q + i + z → (∀ y, y < i → dg X T (q + y) = true) → (∀ k, k ≠ 0 → M1 k = M k) → (∀ j, ¬ (7 ≤ j ∧ j ≤ 10) → M1 0 j = M 0 j) → M1 0 8 = nI q → M1 0 7 = nI (q + i) → M1 0 10 = nI (if i = 0 then 0 else if i = 1 then X q - 48 else (X q - 48) * 10 + (X (q + 1) - 48)) → l_X12_step_43 K (z + 1) (nI i) M1 := by
        intro z
        induction z with
        | zero =>
          intro i M1 hz hd hc hj h8 h7 h10
          have qi : q + i ≤ T := by
            by_cases i0 : i = 0
            · omega
            · have := (dg_of (hd (i - 1) (by omega))).1; omega
          have t1 : TpR X T M1 := ⟨by rw [hj 6 (by omega)]; exact t.1, fun j hj => by rw [hc 5 (by omega)]; exact t.2 j hj⟩
          have nd : ¬ dg X T (q + i) = true := fun y => by have := dg_of y; omega
          have i1 : 1 ≤ i := by
            by_cases i0 : i = 0
            · subst i0; exact absurd d nd
            · omega
          rw [l_X12_step_43, e_here x t1 h7 (by omega), e_in, in_dg x, b2i_f nd]
          refine br_t rfl ?_
          unfold f_X12_step_116
          have fin : ∀ s : Int32, s = nI (rsT (tkn X T q)) → M1 0 10 = nI (rvT X T q) → (tkn X T q ≠ 258 → q + i = q + wd X T q) → ∀ M6 : Mm, M6 = gU M1 0 9 s → K M6 := by
            intro s hs hv hw M6 e6
            refine h M6 (fun k hk => by rw [e6, gU_cell hk]; exact hc k hk) (fun j hj' => by rw [e6, gU_place (by omega)]; exact hj j hj') (by rw [e6, gU_place (by omega)]; exact h8) (by rw [e6, gU_same]; exact hs) (by rw [e6, gU_place (by omega)]; exact hv) (fun _ q2 => by rw [e6, gU_place (by omega), h7, hw q2])
          have rv : rvT X T q = vl X T q := by unfold rvT; rw [if_pos d]
          refine br_c (fun y => ?_) (fun y => ?_)
          · rw [le_I, nI_I (by omega)] at y
            have y : (i : Int) ≤ 2 := y
            have tk : tkn X T q = 257 := by
              unfold tkn
              rw [if_pos hlt, if_pos d, if_neg]
              intro q2
              by_cases i2 : i = 1
              · subst i2; exact nd q2.1
              · rw [show i = 2 by omega] at nd; exact nd q2.2
            refine fin 2 (by rw [tk]; rfl) ?_ (fun _ => ?_)
            · rw [h10, rv]
              unfold vl
              by_cases i2 : i = 1
              · subst i2
                rw [if_neg (by omega), if_pos rfl, if_neg nd]
              · rw [if_neg (by omega), if_neg i2, if_pos (hd 1 (by omega))]
            · unfold wd
              by_cases i2 : i = 1
              · subst i2
                rw [if_neg (fun z => nd z.2)]
              · rw [if_pos ⟨d, hd 1 (by omega)⟩]; omega
          · rw [le_I, nI_I (by omega)] at y
            have y : ¬ (i : Int) ≤ 2 := y
            have tk : tkn X T q = 258 := by
              unfold tkn
              rw [if_pos hlt, if_pos d, if_pos ⟨hd 1 (by omega), hd 2 (by omega)⟩]
            refine fin 6 (by rw [tk]; rfl) ?_ (fun q2 => absurd tk q2)
            rw [h10, rv]
            unfold vl
            rw [if_neg (by omega), if_neg (by omega), if_pos (hd 1 (by omega))]
        | succ z ih =>
          intro i M1 hz hd hc hj h8 h7 h10
          have qi : q + i ≤ T := by
            by_cases i0 : i = 0
            · omega
            · have := (dg_of (hd (i - 1) (by omega))).1; omega
          have t1 : TpR X T M1 := ⟨by rw [hj 6 (by omega)]; exact t.1, fun j hj => by rw [hc 5 (by omega)]; exact t.2 j hj⟩
          by_cases nd : dg X T (q + i) = true
          · have dn := dg_of nd
            rw [l_X12_step_43, e_here x t1 h7 (by omega), e_in, in_dg x, b2i_t nd, e_here x t1 h7 (by omega)]
            refine br_f (by decide) ?_
            unfold f_X12_step_85
            have go : ∀ s : Int32, s = nI (if i + 1 = 0 then 0 else if i + 1 = 1 then X q - 48 else (X q - 48) * 10 + (X (q + 1) - 48)) → ∀ M8 : Mm, M8 = gU M1 0 10 s → ∀ M10 : Mm, M10 = gU M8 0 7 (M8 0 7 + 1) → l_X12_step_43 K (z + 1) (nI i + 1) M10 := by
              intro s hs M8 e8 M10 e10
              rw [nI_1]
              have e87 : M8 0 7 = nI (q + i) := by rw [e8, gU_place (by omega)]; exact h7
              rw [e87, nI_1] at e10
              refine ih (i + 1) M10 (by omega) (fun y hy => ?_) (fun k hk => by rw [e10, gU_cell hk, e8, gU_cell hk]; exact hc k hk) (fun j hj' => by rw [e10, gU_place (by omega), e8, gU_place (by omega)]; exact hj j hj') (by rw [e10, gU_place (by omega), e8, gU_place (by omega)]; exact h8) (by rw [e10, gU_same]; rfl) (by rw [e10, gU_place (by omega), e8, gU_same]; exact hs)
              by_cases e : y = i
              · rw [e]; exact nd
              · exact hd y (by omega)
            refine br_c (fun y => ?_) (fun y => ?_)
            · rw [le_I, nI_I (by omega)] at y
              have y : (2 : Int) ≤ i := y
              refine go _ ?_
              rw [h10, if_neg (by omega), if_neg (by omega), if_neg (by omega), if_neg (by omega)]
            · rw [le_I, nI_I (by omega)] at y
              have y : ¬ (2 : Int) ≤ i := y
              refine go _ ?_
              rw [if_pos dn.1, h10, show (10 : Int32) = nI 10 from rfl, pk_mul, nI_add, show (48 : Int32) = nI 48 from rfl, pk_sub (by omega)]
              by_cases i0 : i = 0
              · subst i0
                congr 1
                rw [if_pos rfl, if_neg (by omega), if_pos rfl, Nat.add_zero]
                omega
              · have i1 : i = 1 := by omega
                subst i1
                congr 1
                rw [if_neg (by omega), if_pos rfl, if_neg (by omega), if_neg (by omega)]
                omega
          · have i1 : 1 ≤ i := by
              by_cases i0 : i = 0
              · subst i0; exact absurd d nd
              · omega
            rw [l_X12_step_43, e_here x t1 h7 (by omega), e_in, in_dg x, b2i_f nd]
            refine br_t rfl ?_
            unfold f_X12_step_116
            have fin : ∀ s : Int32, s = nI (rsT (tkn X T q)) → M1 0 10 = nI (rvT X T q) → (tkn X T q ≠ 258 → q + i = q + wd X T q) → ∀ M6 : Mm, M6 = gU M1 0 9 s → K M6 := by
              intro s hs hv hw M6 e6
              refine h M6 (fun k hk => by rw [e6, gU_cell hk]; exact hc k hk) (fun j hj' => by rw [e6, gU_place (by omega)]; exact hj j hj') (by rw [e6, gU_place (by omega)]; exact h8) (by rw [e6, gU_same]; exact hs) (by rw [e6, gU_place (by omega)]; exact hv) (fun _ q2 => by rw [e6, gU_place (by omega), h7, hw q2])
            have rv : rvT X T q = vl X T q := by unfold rvT; rw [if_pos d]
            refine br_c (fun y => ?_) (fun y => ?_)
            · rw [le_I, nI_I (by omega)] at y
              have y : (i : Int) ≤ 2 := y
              have tk : tkn X T q = 257 := by
                unfold tkn
                rw [if_pos hlt, if_pos d, if_neg]
                intro q2
                by_cases i2 : i = 1
                · subst i2; exact nd q2.1
                · rw [show i = 2 by omega] at nd; exact nd q2.2
              refine fin 2 (by rw [tk]; rfl) ?_ (fun _ => ?_)
              · rw [h10, rv]
                unfold vl
                by_cases i2 : i = 1
                · subst i2
                  rw [if_neg (by omega), if_pos rfl, if_neg nd]
                · rw [if_neg (by omega), if_neg i2, if_pos (hd 1 (by omega))]
              · unfold wd
                by_cases i2 : i = 1
                · subst i2
                  rw [if_neg (fun z => nd z.2)]
                · rw [if_pos ⟨d, hd 1 (by omega)⟩]; omega
            · rw [le_I, nI_I (by omega)] at y
              have y : ¬ (i : Int) ≤ 2 := y
              have tk : tkn X T q = 258 := by
                unfold tkn
                rw [if_pos hlt, if_pos d, if_pos ⟨hd 1 (by omega), hd 2 (by omega)⟩]
              refine fin 6 (by rw [tk]; rfl) ?_ (fun q2 => absurd tk q2)
              rw [h10, rv]
              unfold vl
              rw [if_neg (by omega), if_neg (by omega), if_pos (hd 1 (by omega))]
      exact ⟨T - q + 1, L (T - q) 0 M23 (by omega) (fun y hy => by omega) c23 (fun j hj => j23 j (by omega) (by omega)) m8 m7 (by rw [if_pos rfl]; exact m10)⟩
    · rw [b2i_f d]
      have tk : tkn X T q = X q := by unfold tkn; rw [if_pos hlt, if_neg d]
      refine br_t rfl (fun M31 e31 => ?_)
      rw [m7, nI_1] at e31
      have c31 : ∀ k, k ≠ 0 → M31 k = M k := fun k hk => by rw [e31, gU_cell hk]; exact c23 k hk
      have fin : ∀ s : Nat, s = rsT (tkn X T q) → f_X12_step_168 K (nI (X q)) (nI s) 0 M31 := by
        intro s hs
        unfold f_X12_step_168 f_X12_step_185
        intro M3 e3
        have k9 : M3 0 9 = nI s := by rw [e3, gU_same]
        have go : ∀ v : Int32, v = nI (rvT X T q) → ∀ M1 : Mm, M1 = gU M3 0 10 v → K M1 := by
          intro v hv M1 e1
          refine h M1 (fun k hk => by rw [e1, gU_cell hk, e3, gU_cell hk]; exact c31 k hk) (fun j hj => by rw [e1, gU_place (by omega), e3, gU_place (by omega), e31, gU_place (by omega)]; exact j23 j (by omega) (by omega)) (by rw [e1, gU_place (by omega), e3, gU_place (by omega), e31, gU_place (by omega)]; exact m8) (by rw [e1, gU_place (by omega), k9, hs]) (by rw [e1, gU_same]; exact hv) (fun _ _ => by rw [e1, gU_place (by omega), e3, gU_place (by omega), e31, gU_same, wd_1 d])
        have s6 : s < 7 := by
          rw [hs]; unfold rsT
          repeat (first | omega | split)
        rw [k9, nI_is1 (by omega)]
        refine br_c (fun z => go _ ?_) (fun z => go _ ?_)
        · rw [hs] at z
          unfold rvT
          rw [if_neg d, tk]
          unfold rsT at z
          rw [tk, if_neg (by omega), if_neg (by omega), if_neg (by omega)] at z
          by_cases lt : 97 ≤ X q ∧ X q ≤ 122
          · rw [if_pos lt]
          · rw [if_neg lt] at z
            by_cases c1 : X q = 44
            · rw [if_pos c1] at z; omega
            · rw [if_neg c1] at z
              by_cases c2 : X q = 59
              · rw [if_pos c2] at z; omega
              · rw [if_neg c2] at z; omega
        · rw [hs] at z
          unfold rvT
          rw [if_neg d, tk]
          unfold rsT at z
          rw [tk, if_neg (by omega), if_neg (by omega), if_neg (by omega)] at z
          by_cases lt : 97 ≤ X q ∧ X q ≤ 122
          · rw [if_pos lt] at z; omega
          · rw [if_neg lt]; rfl
      have rs : rsT (tkn X T q) = if 97 ≤ X q ∧ X q ≤ 122 then 1 else if X q = 44 then 3 else if X q = 59 then 4 else 6 := by
        rw [tk]
        unfold rsT
        rw [if_neg (by omega), if_neg (by omega), if_neg (by omega)]
      rw [if_pos hlt, e_in, nI_I (by omega)]
      by_cases lt : 97 ≤ X q ∧ X q ≤ 122
      · rw [b2i_t (show (97 : Int32).toInt ≤ (X q : Int) ∧ (X q : Int) ≤ (122 : Int32).toInt by show (97 : Int) ≤ _ ∧ _ ≤ (122 : Int); omega)]
        exact br_f (by decide) (fin 1 (by rw [rs, if_pos lt]))
      · rw [b2i_f (show ¬ ((97 : Int32).toInt ≤ (X q : Int) ∧ (X q : Int) ≤ (122 : Int32).toInt) by show ¬ ((97 : Int) ≤ _ ∧ _ ≤ (122 : Int)); omega)]
        rw [nI_is (x := 44) (n := 44) (by omega) (by decide) rfl, nI_is (x := 59) (n := 59) (by omega) (by decide) rfl]
        refine br_t rfl (br_c (fun z => fin 3 (by rw [rs, if_neg lt, if_pos z])) (fun z => br_c (fun y => fin 4 (by rw [rs, if_neg lt, if_neg z, if_pos y])) (fun y => fin 6 (by rw [rs, if_neg lt, if_neg z, if_neg y]))))
  · have d : ¬ dg X T q = true := fun y => hlt (dg_of y).1
    have tk : tkn X T q = 256 := by unfold tkn; rw [if_neg hlt]
    rw [if_neg hlt]
    refine br_t rfl (fun M39 e39 => h M39 (fun k hk => by rw [e39, gU_cell hk]; exact c23 k hk) (fun j hj => by rw [e39, gU_place (by omega)]; exact j23 j (by omega) (by omega)) (by rw [e39, gU_place (by omega)]; exact m8) (by rw [e39, gU_same, tk]; rfl) ?_ (fun q1 => absurd tk q1))
    rw [e39, gU_place (by omega), m10]
    unfold rvT
    rw [if_neg d, tk, if_neg (by omega)]
