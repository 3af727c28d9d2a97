def freeB (A : AP) (t : Nat) : Bool := decide (1 ≤ t ∧ t < A 0 ∧ ∀ u, u < A 2 → A (34 + u) ≠ t)
theorem freeB_t {A : AP} {t : Nat} (h : Free A t) : freeB A t = true := decide_eq_true h
theorem freeB_f {A : AP} {t : Nat} (h : ¬ Free A t) : ¬ freeB A t = true := fun q => h (of_decide_eq_true (p := 1 ≤ t ∧ t < A 0 ∧ ∀ u, u < A 2 → A (34 + u) ≠ t) q)
theorem freeB_of {A : AP} {t : Nat} (h : freeB A t = true) : Free A t := of_decide_eq_true (p := 1 ≤ t ∧ t < A 0 ∧ ∀ u, u < A 2 → A (34 + u) ≠ t) h
/-- a wall goes up, if the place is free -/
def mvA (A : AP) (v : Nat) : AP := if freeB A (A (34 + v) + 1) = true then setA A (34 + v) (A (34 + v) + 1) else A
theorem mv_told {A : AP} {v : Nat} : Told A (mvA A v) := by
  unfold mvA
  split
  · exact Told.set (by omega)
  · exact Told.rfl'
theorem WFb.mv {D : Nat} {A : AP} (w : WFb D A) {v : Nat} (hv : v < A 2) : WFb D (mvA A v) := by
  unfold mvA
  by_cases h : freeB A (A (34 + v) + 1) = true
  · rw [if_pos h]; exact w.wall hv (freeB_of h) (Or.inl rfl)
  · rw [if_neg h]; exact w
theorem s_moveUp {D b v : Nat} {M : Mm} {A : AP} (p : PapC M b A) (w : WFb D A) (hv : v < A 2) {K : Mm → Prop} (h : ∀ M' : Mm, (∀ q, q ≠ b + 2 → M' q = M q) → PapC M' b (mvA A v) → K M') : f_X6_moveUpIfFree b (nI v) M K := by
  have s := w.sm
  have s2 := s.2.2.1
  have s0 := s.1
  have w8 := w.2.2.2.2.2.2.2.1
  have wv := w8 v hv
  unfold f_X6_moveUpIfFree
  rw [e_hasWall p s, b2i_t (by rw [nI_I (by omega)]; omega), nI_cl (by omega), p.2.2.1 v hv, nI_1]
  refine br_f (by decide) ⟨vp_nI (by omega) (by decide), s_free p s (fun u hu => (w8 u hu).2) (by omega) (fun fr => br_f (by decide) (fun M8 e8 => ?_)) (fun fr => br_t rfl ?_)⟩
  · refine h M8 (fun q hq => by rw [e8, gU_cell hq]) ?_
    unfold mvA
    rw [if_pos (freeB_t fr)]
    rw [p.2.2.1 v hv, nI_1] at e8
    exact p.uWall s e8 hv
  · refine h M (fun _ _ => rfl) ?_
    unfold mvA
    rw [if_neg (freeB_f fr)]
    exact p
/-- the walls as they settle: those of P, from the last one down -/
def stl (A : AP) (P : Nat) : Nat → AP
  | 0 => A
  | j + 1 => if P.testBit (A 2 - 1 - j) = true then mvA (stl A P j) (A 2 - 1 - j) else stl A P j
theorem stl_told {A : AP} {P : Nat} : ∀ j, Told A (stl A P j)
  | 0 => Told.rfl'
  | j + 1 => by
    unfold stl
    split
    · exact (stl_told j).trans mv_told
    · exact stl_told j
theorem WFb.stl {D : Nat} {A : AP} (w : WFb D A) (P : Nat) : ∀ j, j ≤ A 2 → WFb D (stl A P j)
  | 0, _ => w
  | j + 1, h => by
    have ih := WFb.stl w P j (by omega)
    unfold _root_.Jvm.Pilot.CPaperHousesLaw_law_r9707_3cab56.stl
    split
    · exact ih.mv (by rw [stl_told j 2 (by omega)]; omega)
    · exact ih
theorem sb_1 (n : Nat) : nI n - 1 = nI n + (-1) := by
  rw [Int32.sub_eq_add_neg]
theorem neg_1 (n : Nat) (h : n = 0) : nI n + (-1) < 0 := by subst h; decide
theorem neg_n {n : Nat} (h : n < 2147483648) : ¬ nI n < 0 := by
  rw [lt_I, nI_I h]
  show ¬ (n : Int) < 0
  omega
theorem s_settle {D P : Nat} {M : Mm} {A : AP} (p : PapC M 56 A) (w : WFb D A) (hP : P < 64) {K : Mm → Prop} (h : ∀ M' : Mm, (∀ q, q ≠ 58 → M' q = M q) → PapC M' 56 (stl A P (A 2)) → K M') : f_X4_settle (nI P) M K := by
  have s2 := w.2.2.1
  have L : ∀ (m j : Nat) (M1 : Mm), m + j = A 2 → (∀ q, q ≠ 58 → M1 q = M q) → PapC M1 56 (stl A P j) → l_X4_settle_10 K (nI P) (m + 1) (nI m + (-1)) M1 := by
    intro m
    induction m with
    | zero =>
      intro j M1 hj h1 p1
      rw [l_X4_settle_10]
      refine br_t (neg_1 0 rfl) (h M1 h1 ?_)
      rw [show A 2 = j by omega]; exact p1
    | succ m ih =>
      intro j M1 hj h1 p1
      have nx : stl A P (j + 1) = if P.testBit m = true then mvA (stl A P j) m else stl A P j := by
        show (if P.testBit (A 2 - 1 - j) = true then mvA (stl A P j) (A 2 - 1 - j) else stl A P j) = _
        rw [show A 2 - 1 - j = m by omega]
      have ws := w.stl P j (by omega)
      rw [l_X4_settle_10, pk_m1, e_bitOf (by omega) (by omega), bit_mod]
      refine br_f (neg_n (by omega)) ?_
      by_cases q : P.testBit m = true
      · rw [if_pos q] at nx ⊢
        refine br_t rfl (s_moveUp p1 ws (by rw [stl_told j 2 (by omega)]; omega) (fun M2 h2 p2 => ih (j + 1) M2 (by omega) (fun z hz => by rw [h2 z hz]; exact h1 z hz) ?_))
        rw [nx]; exact p2
      · rw [if_neg q] at nx ⊢
        refine br_f (by decide) (ih (j + 1) M1 (by omega) h1 ?_)
        rw [nx]; exact p1
  unfold f_X4_settle
  rw [p.1.2.2.1, sb_1]
  exact ⟨_, L (A 2) 0 M (by omega) (fun _ _ => rfl) p⟩
/-- how likely, in tenths -/
def prodU (c P : Nat) : Nat → Nat
  | 0 => 1
  | n + 1 => prodU c P n * (if P.testBit n = true then c else 10 - c)
theorem prodU_le {c P : Nat} (hc : c ≤ 10) : ∀ n, prodU c P n ≤ 10 ^ n
  | 0 => Nat.le_refl _
  | n + 1 => by
    rw [Nat.pow_succ]
    unfold prodU
    refine Nat.mul_le_mul (prodU_le hc n) ?_
    split <;> omega
theorem pow105 {n : Nat} (h : n ≤ 5) : 10 ^ n ≤ 100000 := Nat.pow_le_pow_right (n := 10) (by omega) (show n ≤ 5 from h)
theorem s_tenthsOf {c P : Nat} {M : Mm} {A : AP} (p : PapC M 26 A) (s2 : A 2 ≤ 5) (hc : c ≤ 10) (hP : P < 64) {K : Int32 → Mm → Prop} (h : K (nI (prodU c P (A 2))) M) : f_X4_tenthsOf (nI P) (nI c) M K := by
  have L : ∀ (j n : Nat), n + j = A 2 → l_X4_tenthsOf_5 K (nI P) (nI c) (j + 1) (nI (prodU c P n)) (nI n) M := by
    intro j
    induction j with
    | zero =>
      intro n hn
      rw [l_X4_tenthsOf_5, p.1.2.2.1]
      refine br_t (by rw [le_I, nI_I (by omega), nI_I (by omega)]; omega) ?_
      rw [show n = A 2 by omega]; exact h
    | succ j ih =>
      intro n hn
      have nx := ih (n + 1) (by omega)
      unfold prodU at nx
      rw [l_X4_tenthsOf_5, p.1.2.2.1, e_bitOf (by omega) (by omega), bit_mod, nI_1, show (10 : Int32) = nI 10 from rfl, pk_sub hc, pk_mul, pk_mul]
      refine br_f (by rw [le_I, nI_I (by omega), nI_I (by omega)]; omega) ?_
      by_cases q : P.testBit n = true
      · rw [if_pos q] at nx ⊢
        exact br_t rfl nx
      · rw [if_neg q] at nx ⊢
        exact br_f (by decide) nx
  exact ⟨_, L (A 2) 0 (by omega)⟩
def bitS (A : AP) (f x d P : Nat) : Nat := onIt (stl A P (A 2)) f d (50 + f) / 2 ^ x % 2
def sumS (A : AP) (f x d c : Nat) : Nat → Nat
  | 0 => 0
  | m + 1 => sumS A f x d c m + prodU c m (A 2) * bitS A f x d m
theorem bitS_le (A : AP) (f x d P : Nat) : bitS A f x d P ≤ 1 := by
  unfold bitS
  have := Nat.mod_lt (onIt (stl A P (A 2)) f d (50 + f) / 2 ^ x) (show 2 > 0 by omega)
  omega
theorem sumS_le {A : AP} {f x d c : Nat} (hc : c ≤ 10) (s2 : A 2 ≤ 5) : ∀ m, sumS A f x d c m ≤ m * 100000
  | 0 => Nat.zero_le _
  | m + 1 => by
    have ih := sumS_le (A := A) (f := f) (x := x) (d := d) hc s2 m
    have h1 := prodU_le (P := m) hc (A 2)
    have h2 := pow105 s2
    have h3 := bitS_le A f x d m
    unfold sumS
    have : prodU c m (A 2) * bitS A f x d m ≤ 100000 * 1 := Nat.mul_le_mul (by omega) h3
    omega
theorem s_tenths {M : Mm} {A : AP} {f x d c : Nat} (pc : PapC M 26 A) (w : WF A) (hf : f < A 3) (hx : x < A 0) (hd : d ≤ 20) (hc : c ≤ 10) {K : Int32 → Mm → Prop} (h : ∀ M' : Mm, (∀ q, ¬ (56 ≤ q ∧ q ≤ 62) → M' q = M q) → K (nI (sumS A f x d c (2 ^ A 2))) M') : f_X4_tenthsThatKnow (nI f) (nI x) (nI d) (nI c) M K := by
  have s0 := w.1.2
  have s2 := w.2.2.1
  have s3 := w.2.2.2.1
  have p5 := pow5 s2
  have L : ∀ (j m : Nat) (M1 : Mm), m + j = 2 ^ A 2 → (∀ q, ¬ (56 ≤ q ∧ q ≤ 62) → M1 q = M q) → l_X4_tenthsThatKnow_6 K (nI f) (nI x) (nI d) (nI c) (j + 1) (nI (sumS A f x d c m)) (nI m) M1 := by
    intro j
    induction j with
    | zero =>
      intro m M1 hm h1
      have pc1 : PapC M1 26 A := pc.congr (fun k _ _ => h1 k (by omega))
      rw [l_X4_tenthsThatKnow_6, pc1.1.2.2.1, nI_shl1 (by omega)]
      refine br_t (by rw [le_I, nI_I (by omega), nI_I (by omega)]; omega) ?_
      rw [show m = 2 ^ A 2 by omega]; exact h M1 h1
    | succ j ih =>
      intro m M1 hm h1
      have pc1 : PapC M1 26 A := pc.congr (fun k _ _ => h1 k (by omega))
      have pl := prodU_le (P := m) hc (A 2)
      have pm := pow105 s2
      rw [l_X4_tenthsThatKnow_6, pc1.1.2.2.1, nI_shl1 (by omega)]
      refine br_f (by rw [le_I, nI_I (by omega), nI_I (by omega)]; omega) (s_tenthsOf pc1 s2 hc (by omega) ?_)
      rw [nI_is0 (by omega), nI_1]
      refine br_c (fun q => ?_) (fun q => s_become (by omega) pc1 w.sm (fun M2 h2 p2 => s_settle p2 w (by omega) (fun M3 h3 p3 => ?_)))
      · have nx := ih (m + 1) M1 (by omega) h1
        unfold sumS at nx
        rw [q, Nat.zero_mul, Nat.add_zero] at nx
        exact nx
      · have ws := w.stl m (A 2) (Nat.le_refl _)
        have e3 : stl A m (A 2) 3 = A 3 := stl_told _ 3 (by omega)
        refine s_goOn p3 ws (by omega) (by rw [e3]; exact hf) (fun M4 h4 p4 => ?_)
        have wo := ws.onIt (f := f) (by rw [e3]; exact hf) d
        have e3' : onIt (stl A m (A 2)) f d 3 = A 3 := by rw [onIt_told d 3 (by omega), e3]
        have kn := pow24 (wo.2.2.2.2.2.2.2.2.2.2 f (by rw [e3']; exact hf)).2.2 wo.1.2
        have fr : ∀ q, ¬ (56 ≤ q ∧ q ≤ 62) → M4 q = M q := fun q hq => by rw [h4 q hq, h3 q (by omega), h2 q (by omega)]; exact h1 q hq
        rw [nI_cl (by omega), (p4.2.2.2 f (by rw [e3']; exact hf)).2.2.2, e_bitOf (by omega) (by omega), pk_mul, nI_add]
        exact ⟨vp_nI (by omega) (by decide), ih (m + 1) M4 (by omega) fr⟩
  exact ⟨_, L (2 ^ A 2) 0 M (by omega) (fun _ _ => rfl)⟩
theorem s_inAll {M : Mm} {A : AP} (pc : PapC M 26 A) (s2 : A 2 ≤ 5) {K : Int32 → Mm → Prop} (h : K (nI (10 ^ A 2)) M) : f_X4_tenthsInAll M K := by
  have L : ∀ (j n : Nat), n + j = A 2 → l_X4_tenthsInAll_4 K (j + 1) (nI (10 ^ n)) (nI n) M := by
    intro j
    induction j with
    | zero =>
      intro n hn
      rw [l_X4_tenthsInAll_4, pc.1.2.2.1]
      refine br_t (by rw [le_I, nI_I (by omega), nI_I (by omega)]; omega) ?_
      rw [show n = A 2 by omega]; exact h
    | succ j ih =>
      intro n hn
      rw [l_X4_tenthsInAll_4, pc.1.2.2.1, nI_1, show (10 : Int32) = nI 10 from rfl, pk_mul]
      exact br_f (by rw [le_I, nI_I (by omega), nI_I (by omega)]; omega) (ih (n + 1) (by omega))
  exact ⟨_, L (A 2) 0 (by omega)⟩
/-- the common divisor -/
theorem gcd_st (a b : Nat) : Nat.gcd b (a % b) = Nat.gcd a b := by
  rw [Nat.gcd_comm a b, Nat.gcd_rec b a, Nat.gcd_comm]
theorem mod_half {b r k : Nat} (hr : 0 < r) (hrb : r < b) (hb : b < 2 ^ (k + 1)) : b % r < 2 ^ k := by
  have h1 := Nat.mod_lt b hr
  have h2 := Nat.div_add_mod b r
  have h3 : 1 ≤ b / r := (Nat.one_le_div_iff hr).mpr (Nat.le_of_lt hrb)
  have h4 : r * 1 ≤ r * (b / r) := Nat.mul_le_mul_left r h3
  rw [Nat.pow_succ] at hb
  omega
theorem s_gcd {K : Int32 → Mm → Prop} {M : Mm} (g : Nat) (h : K (nI g) M) : ∀ (k a b s : Nat), b < 2 ^ k → a < 2147483648 → b < 2147483648 → s + 2 * k < 64 → Nat.gcd a b = g → l_X11_commonDivisor_7 K (2 * k + 1) (nI a) (nI b) (nI s) M := by
  intro k
  induction k with
  | zero =>
    intro a b s hb ha hb2 hs hg
    have b0 : b = 0 := by simpa using hb
    subst b0
    rw [Nat.gcd_zero_right] at hg
    subst hg
    rw [l_X11_commonDivisor_7]
    exact br_f (by rw [le_I, nI_I (by omega)]; show ¬ (64 : Int) ≤ _; omega) (br_t rfl h)
  | succ k ih =>
    intro a b s hb ha hb2 hs hg
    rw [show 2 * (k + 1) + 1 = (2 * k + 1 + 1) + 1 by omega, l_X11_commonDivisor_7, nI_is0 hb2]
    refine br_f (by rw [le_I, nI_I (by omega)]; show ¬ (64 : Int) ≤ _; omega) (br_c (fun q => ?_) (fun q => ⟨q, ?_⟩))
    · subst q
      rw [Nat.gcd_zero_right] at hg
      rw [hg]; exact h
    · have r1 := Nat.mod_lt a (show b > 0 by omega)
      rw [rem_nI ha (by omega) hb2, nI_1, l_X11_commonDivisor_7, nI_is0 (by omega)]
      refine br_f (by rw [le_I, nI_I (by omega)]; show ¬ (64 : Int) ≤ _; omega) (br_c (fun q2 => ?_) (fun q2 => ⟨q2, ?_⟩))
      · have : Nat.gcd b (a % b) = g := by rw [gcd_st, hg]
        rw [q2, Nat.gcd_zero_right] at this
        rw [this]; exact h
      · have r2 := Nat.mod_lt b (show a % b > 0 by omega)
        rw [rem_nI hb2 (by omega) (by omega), nI_1]
        exact ih (a % b) (b % (a % b)) (s + 1 + 1) (mod_half (by omega) r1 hb) (by omega) (by omega) (by omega) (by rw [gcd_st, gcd_st, hg])
theorem s_rgcd {K : Int32 → Mm → Prop} {M : Mm} {v5 v6 v7 : Int32} (g : Nat) (h0 : ¬ nI g = 0) (h : K (if v5 = 0 then v6 / nI g else v7 / nI g) M) : ∀ (k a b : Nat), b < 2 ^ k → a < 2147483648 → b < 2147483648 → Nat.gcd a b = g → l_X12_settled_257 K v5 v6 v7 (2 * k + 1) (nI a) (nI b) M := by
  have fin : ∀ n, l_X12_settled_257 K v5 v6 v7 (n + 1) (nI g) (nI 0) M := by
    intro n
    rw [l_X12_settled_257]
    refine br_t rfl (br_c (fun q => ⟨h0, ?_⟩) (fun q => ⟨h0, ?_⟩))
    · rw [if_pos q] at h; exact h
    · rw [if_neg q] at h; exact h
  intro k
  induction k with
  | zero =>
    intro a b hb ha hb2 hg
    have b0 : b = 0 := by simpa using hb
    subst b0
    rw [Nat.gcd_zero_right] at hg
    subst hg
    exact fin _
  | succ k ih =>
    intro a b hb ha hb2 hg
    rw [show 2 * (k + 1) + 1 = (2 * k + 1 + 1) + 1 by omega]
    by_cases q : b = 0
    · subst q
      rw [Nat.gcd_zero_right] at hg
      rw [hg]; exact fin _
    · have r1 := Nat.mod_lt a (show b > 0 by omega)
      have nb : ¬ nI b = 0 := by rw [nI_is0 hb2]; exact q
      rw [l_X12_settled_257]
      refine br_f nb ⟨nb, ?_⟩
      rw [rem_nI ha (by omega) hb2]
      by_cases q2 : a % b = 0
      · have : Nat.gcd b (a % b) = g := by rw [gcd_st, hg]
        rw [q2, Nat.gcd_zero_right] at this
        rw [q2, this]; exact fin _
      · have r2 := Nat.mod_lt b (show a % b > 0 by omega)
        have nb2 : ¬ nI (a % b) = 0 := by rw [nI_is0 (by omega)]; exact q2
        rw [l_X12_settled_257]
        refine br_f nb2 ⟨nb2, ?_⟩
        rw [rem_nI hb2 (by omega) (by omega)]
        exact ih (a % b) (b % (a % b)) (mod_half (by omega) r1 hb) (by omega) (by omega) (by rw [gcd_st, gcd_st, hg])
theorem s_rsettled {M : Mm} {A : AP} {f x d c : Nat} {v5 : Int32} (pr : PapR (M 7) (M 9) A) (w : WF A) (hf : f < A 3) (hx : x < A 0) (hd : d ≤ 20) (hc : c ≤ 10) {K : Int32 → Mm → Prop} (h : ∀ M' : Mm, (∀ q, q ≠ 10 → M' q = M q) → K (if v5 = 0 then nI (sumS A f x d c (2 ^ A 2)) / nI (Nat.gcd (sumS A f x d c (2 ^ A 2)) (10 ^ A 2)) else nI (10 ^ A 2) / nI (Nat.gcd (sumS A f x d c (2 ^ A 2)) (10 ^ A 2))) M') : ∃ z, l_X12_settled_59 K (nI f) (nI x) (nI d) (nI c) v5 1 z 0 0 M := by
  have s0 := w.1.2
  have s2 := w.2.2.1
  have s3 := w.2.2.2.1
  have p5 := pow5 s2
  have p10 := pow105 s2
  have p10' : 0 < 10 ^ A 2 := Nat.pow_pos (by omega)
  have sl := sumS_le (A := A) (f := f) (x := x) (d := d) hc s2 (2 ^ A 2)
  have sl2 : 2 ^ A 2 * 100000 ≤ 32 * 100000 := Nat.mul_le_mul_right _ p5
  have gpos : 0 < Nat.gcd (sumS A f x d c (2 ^ A 2)) (10 ^ A 2) := Nat.gcd_pos_of_pos_right _ p10'
  have gle : Nat.gcd (sumS A f x d c (2 ^ A 2)) (10 ^ A 2) ≤ 10 ^ A 2 := Nat.gcd_le_right _ p10'
  -- the end
  have L225 : ∀ (M1 : Mm), (∀ q, q ≠ 10 → M1 q = M q) → ∀ (j n : Nat), n + j = A 2 → l_X12_settled_225 K v5 (nI (sumS A f x d c (2 ^ A 2))) (j + 1) (nI (10 ^ n)) (nI n) M1 := by
    intro M1 h1 j
    have t2 : M1 7 (2 : Int32).toNatClampNeg = nI (A 2) := by rw [h1 7 (by omega)]; exact pr.1 2 (by omega)
    induction j with
    | zero =>
      intro n hn
      rw [l_X12_settled_225, t2]
      refine br_t (by rw [le_I, nI_I (by omega), nI_I (by omega)]; omega) ?_
      rw [show n = A 2 by omega]
      exact ⟨_, s_rgcd (Nat.gcd (sumS A f x d c (2 ^ A 2)) (10 ^ A 2)) (by rw [nI_is0 (by omega)]; omega) (h M1 h1) 17 _ _ (by omega) (by omega) (by omega) rfl⟩
    | succ j ih =>
      intro n hn
      rw [l_X12_settled_225, t2, nI_1, show (10 : Int32) = nI 10 from rfl, pk_mul]
      exact br_f (by rw [le_I, nI_I (by omega), nI_I (by omega)]; omega) (ih (n + 1) (by omega))
  have L : ∀ (j m : Nat) (M1 : Mm), m + j = 2 ^ A 2 → (∀ q, q ≠ 10 → M1 q = M q) → l_X12_settled_59 K (nI f) (nI x) (nI d) (nI c) v5 1 (j + 1) (nI (sumS A f x d c m)) (nI m) M1 := by
    intro j
    induction j with
    | zero =>
      intro m M1 hm h1
      have t2 : M1 7 (2 : Int32).toNatClampNeg = nI (A 2) := by rw [h1 7 (by omega)]; exact pr.1 2 (by omega)
      rw [l_X12_settled_59, t2, nI_shl1 (by omega)]
      refine br_t (by rw [le_I, nI_I (by omega), nI_I (by omega)]; omega) ?_
      rw [show m = 2 ^ A 2 by omega]
      exact ⟨_, L225 M1 h1 (A 2) 0 (by omega)⟩
    | succ j ih =>
      intro m M1 hm h1
      have t2 : M1 7 (2 : Int32).toNatClampNeg = nI (A 2) := by rw [h1 7 (by omega)]; exact pr.1 2 (by omega)
      have pr1 : PapR (M1 7) (M1 9) A := by rw [h1 7 (by omega), h1 9 (by omega)]; exact pr
      have ws := w.stl m (A 2) (Nat.le_refl _)
      have e3 : stl A m (A 2) 3 = A 3 := stl_told _ 3 (by omega)
      -- the days, and the sum
      have L169 : ∀ (v9 : Int32), v9 = nI (prodU c m (A 2)) → ∀ (k n : Nat) (M2 : Mm), n + k = d → (∀ q, q ≠ 10 → M2 q = M q) → RfS (stl A m (A 2)) f n M2 → l_X12_settled_169 K (fun a0 a1 a => l_X12_settled_59 K (nI f) (nI x) (nI d) (nI c) v5 1 (j + 1) a0 a1 a) (nI f) (nI x) (nI d) (nI c) v5 (nI (sumS A f x d c m)) 1 (nI m) v9 (k + 1) (nI n) M2 := by
        intro v9 hv9 k
        induction k with
        | zero =>
          intro n M2 hn h2 r2
          have en : n = d := by omega
          subst en
          have wo := ws.onIt (f := f) (by rw [e3]; exact hf) n
          have e3' : onIt (stl A m (A 2)) f n 3 = A 3 := by rw [onIt_told n 3 (by omega), e3]
          have kn := pow24 (wo.2.2.2.2.2.2.2.2.2.2 f (by rw [e3']; exact hf)).2.2 wo.1.2
          have nx := ih (m + 1) M2 (by omega) h2
          unfold sumS at nx
          rw [l_X12_settled_169, c_add (c := 17) (n := 17) rfl, nI_cl (by omega), r2.knows (by omega), e_rhas (by omega) (by omega), nI_1, hv9]
          refine br_t (by rw [le_I]; exact Int.le_refl _) ⟨vp_nI (by omega) (by decide), ?_⟩
          have bl := bitS_le A f x n m
          have be : onIt (stl A m (A 2)) f n (50 + f) / 2 ^ x % 2 = bitS A f x n m := rfl
          rw [be, nI_is0 (by omega)]
          refine br_c (fun q => ?_) (fun q => ?_)
          · rw [q, Nat.mul_zero, Nat.add_zero] at nx
            rw [show (0 : Int32) = nI 0 from rfl, nI_add]
            exact nx
          · rw [show bitS A f x n m = 1 by omega, Nat.mul_one] at nx
            rw [nI_add]
            exact nx
        | succ k ihk =>
          intro n M2 hn h2 r2
          rw [l_X12_settled_169, nI_1 n]
          refine br_f (by rw [le_I, nI_I (by omega), nI_I (by omega)]; omega) (s_rone ws (by rw [e3]; exact hf) r2 (by omega) (fun M3 h3 r3 => ?_))
          exact ihk (n + 1) M3 (by omega) (fun q hq => by rw [h3 q hq]; exact h2 q hq) r3
      -- the walls
      have L89 : ∀ (u i v : Nat) (M2 : Mm), u + i = A 2 → v * prodU c m u = prodU c m (A 2) → (∀ q, q ≠ 10 → M2 q = M q) → PapR (M2 7) (M2 10) (stl A m i) → l_X12_settled_89 K (fun a0 a1 a => l_X12_settled_59 K (nI f) (nI x) (nI d) (nI c) v5 1 (j + 1) a0 a1 a) (nI f) (nI x) (nI d) (nI c) v5 (nI (sumS A f x d c m)) 1 (nI m) (u + 1) (nI v) (nI u + (-1)) M2 := by
        intro u
        induction u with
        | zero =>
          intro i v M2 hi hv h2 p2
          rw [l_X12_settled_89]
          refine br_t (neg_1 0 rfl) ⟨_, L169 (nI v) ?_ d 0 M2 (by omega) h2 (RfS.zero ws ?_)⟩
          · have hv : v * 1 = prodU c m (A 2) := hv
            rw [← hv, Nat.mul_one]
          · rw [show A 2 = i by omega]; exact p2
        | succ u ihu =>
          intro i v M2 hi hv h2 p2
          have wi := w.stl m i (by omega)
          have e2 : stl A m i 2 = A 2 := stl_told i 2 (by omega)
          have w8 := wi.2.2.2.2.2.2.2.1
          have wu := w8 u (by rw [e2]; omega)
          have nxs : stl A m (i + 1) = if m.testBit u = true then mvA (stl A m i) u else stl A m i := by
            show (if m.testBit (A 2 - 1 - i) = true then mvA (stl A m i) (A 2 - 1 - i) else stl A m i) = _
            rw [show A 2 - 1 - i = u by omega]
          have m1 : M2 10 (1 + u) = nI (stl A m i (34 + u)) := by rw [p2.2 (1 + u) (by omega), show 33 + (1 + u) = 34 + u by omega]
          have v1 : vp_in (nI (1 + u)) 22 := vp_nI (by omega) (by decide)
          have e0 : stl A m i 0 = A 0 := stl_told i 0 (by omega)
          -- the write, by y
          have l158 : ∀ (v' y : Nat), v' * prodU c m u = prodU c m (A 2) → (nI (stl A m i (34 + u)) + nI y = nI (stl A m i (34 + u) + y)) → stl A m (i + 1) = setA (stl A m i) (34 + u) (stl A m i (34 + u) + y) → f_X12_settled_158 K (fun a0 a1 a => l_X12_settled_59 K (nI f) (nI x) (nI d) (nI c) v5 1 (j + 1) a0 a1 a) (fun a0 a1 a => l_X12_settled_89 K (fun a0 a1 a => l_X12_settled_59 K (nI f) (nI x) (nI d) (nI c) v5 1 (j + 1) a0 a1 a) (nI f) (nI x) (nI d) (nI c) v5 (nI (sumS A f x d c m)) 1 (nI m) (u + 1) a0 a1 a) (nI f) (nI x) (nI d) (nI c) v5 (nI (sumS A f x d c m)) 1 (nI m) (nI v') (nI u) (nI y) (nI (stl A m i (34 + u))) (nI (1 + u)) 10 M2 := by
            intro v' y hv' hy hs
            unfold f_X12_settled_158
            rw [nI_cl (by omega), hy]
            refine ⟨v1, fun M15 e15 => ihu (i + 1) v' M15 (by omega) hv' (fun q hq => by rw [e15, gU_cell hq]; exact h2 q hq) ?_⟩
            rw [hs, show M15 7 = M2 7 by rw [e15, gU_cell (by omega)], show 34 + u = 33 + (1 + u) by omega]
            refine p2.up (by omega) (fun i => ?_)
            rw [e15, gU_now, show 33 + (1 + u) = 34 + u by omega]
          have l116 : ∀ (s0 : Nat), v * s0 * prodU c m u = prodU c m (A 2) → f_X12_settled_116 K (fun a0 a1 a => l_X12_settled_59 K (nI f) (nI x) (nI d) (nI c) v5 1 (j + 1) a0 a1 a) (fun a0 a1 a => l_X12_settled_89 K (fun a0 a1 a => l_X12_settled_59 K (nI f) (nI x) (nI d) (nI c) v5 1 (j + 1) a0 a1 a) (nI f) (nI x) (nI d) (nI c) v5 (nI (sumS A f x d c m)) 1 (nI m) (u + 1) a0 a1 a) (nI f) (nI x) (nI d) (nI c) v5 (nI (sumS A f x d c m)) 1 (nI m) (nI u) (nI s0) (nI v) M2 := by
            intro s0' hs0
            unfold f_X12_settled_116 f_X12_settled_157
            rw [c_add (c := 1) (n := 1) rfl, nI_cl (by omega), m1, pk_mul, e_rhas (by omega) (by omega), bit_mod]
            refine ⟨v1, ?_⟩
            by_cases q : m.testBit u = true
            · rw [if_pos q] at nxs ⊢
              refine br_f (by decide) (s_mayMove p2 wi.sm (fun u hu => (w8 u hu).2) (by rw [e2]; omega) (nI_1 _) (by omega) (by omega) (fun fr => br_f (by decide) ?_) (fun fr => br_t rfl ?_))
              · refine l158 (v * s0') 1 hs0 (nI_add _ _) ?_
                rw [nxs]; unfold mvA; rw [if_pos (freeB_t fr)]
              · refine l158 (v * s0') 0 hs0 (nI_add _ _) ?_
                rw [nxs, setA_id (by omega)]; unfold mvA; rw [if_neg (freeB_f fr)]
            · rw [if_neg q] at nxs ⊢
              refine br_t rfl (l158 (v * s0') 0 hs0 (nI_add _ _) ?_)
              rw [nxs, setA_id (by omega)]
          rw [l_X12_settled_89, pk_m1, e_rhas (by omega) (by omega), bit_mod, show (10 : Int32) = nI 10 from rfl, pk_sub hc]
          refine br_f (neg_n (by omega)) ?_
          have hv : v * (prodU c m u * (if m.testBit u = true then c else 10 - c)) = prodU c m (A 2) := hv
          by_cases q : m.testBit u = true
          · rw [if_pos q] at hv ⊢
            exact br_f (by decide) (l116 c (by rw [← hv, Nat.mul_assoc, Nat.mul_comm c]))
          · rw [if_neg q] at hv ⊢
            exact br_t rfl (l116 (10 - c) (by rw [← hv, Nat.mul_assoc, Nat.mul_comm (10 - c)]))
      rw [l_X12_settled_59, t2, nI_shl1 (by omega)]
      refine br_f (by rw [le_I, nI_I (by omega), nI_I (by omega)]; omega) (s_take pr1 (fun M2 h2 p2 => ?_))
      rw [show M2 7 (2 : Int32).toNatClampNeg = nI (A 2) by rw [h2 7 (by omega)]; exact t2, sb_1]
      exact ⟨_, L89 (A 2) 0 1 M2 (by omega) (Nat.one_mul _) (fun q hq => by rw [h2 q hq]; exact h1 q hq) p2⟩
  exact ⟨_, L (2 ^ A 2) 0 M (by omega) (fun _ _ => rfl)⟩
theorem op_settled {Mc Mr : Mm} (hI : Inv Mc Mr) (a b c d e : Int32) : f_X11_settled a b c d e Mc (fun r Mc' => f_X12_settled a b c d e Mr (fun r' Mr' => r = r' ∧ Inv Mc' Mr')) := by
  obtain ⟨-, -, -, -, -, A, hC, hR, -, -, -, hr⟩ := id hI
  have s := hr.sm
  have s3 := s.2.2.2
  have s0 := s.1
  have e0 : (0 : Int32).toInt = 0 := rfl
  have e10 : (10 : Int32).toInt = 10 := rfl
  have e20 : (20 : Int32).toInt = 20 := rfl
  simp only [f_X11_settled, f_X12_settled, e_hasFolk hC s, e_isOne hR hr, e_hasCell hC s, e_isCell hR hr, e_isBit, e_in, bit01, br_eq, b2i_0]
  simp only [lt_I, le_I, e0, e10, e20]
  by_cases ha : 0 ≤ a.toInt ∧ a.toInt < A 3
  · simp only [if_neg (not_not_intro ha)]
    by_cases hb : 0 ≤ b.toInt ∧ b.toInt < A 0
    · simp only [if_neg (not_not_intro hb)]
      by_cases hc : 0 ≤ c.toInt ∧ c.toInt ≤ 20
      · simp only [if_neg (not_not_intro hc), if_neg (show ¬ c.toInt < 0 by omega), if_pos hc.2]
        by_cases hd : 0 ≤ d.toInt ∧ d.toInt ≤ 10
        · simp only [if_neg (not_not_intro hd), if_neg (show ¬ d.toInt < 0 by omega), if_neg (show ¬ 10 < d.toInt by omega)]
          by_cases he : 0 ≤ e.toInt ∧ e.toInt < 2
          · simp only [if_neg (not_not_intro he)]
            obtain ⟨f, hf, rfl⟩ := of_arg (n := A 3) (a := a) (by omega) ha
            obtain ⟨x, hx, rfl⟩ := of_arg (n := A 0) (a := b) (by omega) hb
            obtain ⟨n, hn, rfl⟩ := of_arg (n := 21) (a := c) (by decide) (by omega)
            obtain ⟨t, ht, rfl⟩ := of_arg (n := 11) (a := d) (by decide) (by omega)
            have w := hr.of3 hf
            have s2 := w.2.2.1
            have p5 := pow5 s2
            have p10 := pow105 s2
            have p10' : 0 < 10 ^ A 2 := Nat.pow_pos (by omega)
            have sl := sumS_le (A := A) (f := f) (x := x) (d := n) (show t ≤ 10 by omega) s2 (2 ^ A 2)
            have sl2 : 2 ^ A 2 * 100000 ≤ 32 * 100000 := Nat.mul_le_mul_right _ p5
            have gpos : 0 < Nat.gcd (sumS A f x n t (2 ^ A 2)) (10 ^ A 2) := Nat.gcd_pos_of_pos_right _ p10'
            have gle : Nat.gcd (sumS A f x n t (2 ^ A 2)) (10 ^ A 2) ≤ 10 ^ A 2 := Nat.gcd_le_right _ p10'
            have g0 : ¬ nI (Nat.gcd (sumS A f x n t (2 ^ A 2)) (10 ^ A 2)) = 0 := by rw [nI_is0 (by omega)]; omega
            refine s_tenths hC w hf hx (by omega) (by omega) (fun M1 h1 => s_inAll (hC.congr (fun k _ _ => h1 k (by omega))) s2 ⟨_, s_gcd _ ?_ 17 _ _ 0 (by omega) (by omega) (by omega) (by omega) rfl⟩)
            rw [nI_I (by omega), if_pos (show (1 : Int32).toInt ≤ _ by show (1 : Int) ≤ _; omega)]
            have R := fun (K : Int32 → Mm → Prop) h => s_rsettled (v5 := e) (x := x) (d := n) (c := t) hR w hf hx (by omega) (by omega) (K := K) h
            by_cases q : e = 0
            · rw [if_pos q]
              refine ⟨g0, R _ (fun M2 h2 => ?_)⟩
              rw [if_pos q]
              exact ⟨rfl, hI.scr (fun k _ _ => h1 k (by omega)) (fun k _ _ _ q _ => h2 k q)⟩
            · rw [if_neg q]
              refine ⟨g0, R _ (fun M2 h2 => ?_)⟩
              rw [if_neg q]
              exact ⟨rfl, hI.scr (fun k _ _ => h1 k (by omega)) (fun k _ _ _ q _ => h2 k q)⟩
          · simp only [if_pos he]; first | exact hI | exact ⟨trivial, hI⟩
        · simp only [if_pos hd]
          by_cases hd1 : d.toInt < 0
          · simp only [if_pos hd1]; first | exact hI | exact ⟨trivial, hI⟩
          · simp only [if_neg hd1, if_pos (show 10 < d.toInt by omega)]; first | exact hI | exact ⟨trivial, hI⟩
      · simp only [if_pos hc]
        by_cases hc1 : c.toInt < 0
        · simp only [if_pos hc1]; first | exact hI | exact ⟨trivial, hI⟩
        · simp only [if_neg hc1, if_neg (show ¬ c.toInt ≤ 20 by omega)]; first | exact hI | exact ⟨trivial, hI⟩
    · simp only [if_pos hb]; first | exact hI | exact ⟨trivial, hI⟩
  · simp only [if_pos ha]; first | exact hI | exact ⟨trivial, hI⟩
