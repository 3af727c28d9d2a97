/-- years by draws -/
def dX (X : Nat) : Nat → Nat
  | 0 => X
  | n + 1 => dX X n * 16807 % 2147483647
def drB (B : AP) (Y : Nat) : AP := if B 2 = 0 ∨ ¬ Y % 5 = 0 then setA B 39 (B 39 ^^^ 2 ^ (Y % B 0)) else mvA (setA B 39 (B 39 ^^^ 2 ^ (Y % B 0))) (Y % B 2)
def drA (B : AP) (Y : Nat) : AP := dayA (drB B Y) (fun f => drB B Y (28 + f)) (drB B Y 1)
def dA (A : AP) (X : Nat) : Nat → AP
  | 0 => A
  | n + 1 => drA (dA A X n) (dX X (n + 1))
theorem dX_lt {X : Nat} (h : X < 2147483647) : ∀ n, dX X n < 2147483647
  | 0 => h
  | n + 1 => Nat.mod_lt _ (by omega)
theorem drB_told {B : AP} {Y : Nat} : Told B (drB B Y) := by
  unfold drB
  split
  · exact Told.set (by omega)
  · exact (Told.set (by omega)).trans mv_told
theorem dA_told {A : AP} {X : Nat} : ∀ n, Told A (dA A X n)
  | 0 => Told.rfl'
  | n + 1 => (dA_told n).trans (drB_told.trans day_told)
theorem WFb.drF {D : Nat} {B : AP} (w : WFb D B) (Y : Nat) : WFb D (setA B 39 (B 39 ^^^ 2 ^ (Y % B 0))) :=
  w.faded (xor_lt w.2.2.2.2.2.2.2.2.2.1 (Nat.pow_lt_pow_right (by omega) (Nat.mod_lt _ (by have := w.1.1; omega))))
theorem WFb.drB {D : Nat} {B : AP} (w : WFb D B) (Y : Nat) : WFb D (drB B Y) := by
  unfold _root_.Jvm.Pilot.CPaperHousesLaw_law_r9707_3cab56.drB
  by_cases h : B 2 = 0 ∨ ¬ Y % 5 = 0
  · rw [if_pos h]; exact w.drF Y
  · rw [if_neg h]
    refine (w.drF Y).mv ?_
    rw [setA_n (by omega)]
    exact Nat.mod_lt _ (by omega)
theorem WFb.dA {D : Nat} {A : AP} (w : WFb D A) (X : Nat) : ∀ n, WFb (D + n) (dA A X n)
  | 0 => w
  | n + 1 => ((WFb.dA w X n).drB _).dayA _ _ (by have := ((WFb.dA w X n).drB (dX X (n + 1))).2.2.2.2.2.2.1; omega)
theorem anyK_lt {D : Nat} {A : AP} (w : WFb D A) : ∀ n, n ≤ A 3 → anyK A n < 2 ^ A 0
  | 0, _ => Nat.two_pow_pos _
  | n + 1, h => pow_or (anyK_lt w n (by omega)) (w.2.2.2.2.2.2.2.2.2.2 n (by omega)).2.2
theorem l_next {X : Nat} (h : X < 2147483647) : (lN X * 16807) - (lN X * 16807) / 2147483647 * 2147483647 = lN (X * 16807 % 2147483647) := by
  have h1 : lN X * 16807 = lN (X * 16807) := lN_mul X 16807
  rw [h1]
  exact pk_lRem (a := X * 16807) (b := 2147483647) (by omega) (by decide) (by decide)
theorem l_rem {X d : Nat} (h : X < 2147483647) (hd : 0 < d) (hd2 : d < 1000) : lN X - lN X / lN d * lN d = lN (X % d) := pk_lRem (by omega) hd (by omega)
theorem l_is0 {d : Nat} (hd : 0 < d) (hd2 : d < 1000) : ¬ lN d = 0 := by
  intro q
  have : lN d = lN 0 := q
  rw [pk_lEQ (by omega) (by omega)] at this
  omega
theorem s_years {M : Mm} {A : AP} {n X t : Nat} (pc : PapC M 26 A) (w : WF A) (hn : n ≤ 60) (hX : X < 1000000) (ht : t < 2) {K : Int32 → Mm → Prop} (h : ∀ M' : Mm, (∀ q, ¬ (56 ≤ q ∧ q ≤ 62) → M' q = M q) → K (nI (bc (if t = 0 then anyK (dA A X n) (A 3) else dA A X n 39) 24)) M') : f_X4_afterYears (nI n) (nI X) (nI t) M K := by
  have s0 := w.1.2
  have s00 := w.1.1
  have s2 := w.2.2.1
  have s3 := w.2.2.2.1
  have L : ∀ (j k : Nat) (M1 : Mm), k + j = n → (∀ q, ¬ (56 ≤ q ∧ q ≤ 62) → M1 q = M q) → PapC M1 56 (dA A X k) → l_X4_afterYears_18 K (nI n) (nI t) (j + 1) (lN (dX X k)) (nI k) M1 := by
    intro j
    induction j with
    | zero =>
      intro k M1 hk h1 p1
      have e : k = n := by omega
      subst e
      have wk := w.dA X k
      have e3 : dA A X k 3 = A 3 := dA_told k 3 (by omega)
      have e0 : dA A X k 0 = A 0 := dA_told k 0 (by omega)
      have hK := h M1 h1
      have k1 : anyK (dA A X k) (A 3) < 16777216 := pow24 (anyK_lt wk (A 3) (by omega)) wk.1.2
      have k2 : dA A X k 39 < 16777216 := pow24 wk.2.2.2.2.2.2.2.2.2.1 wk.1.2
      unfold l_X4_afterYears_18 f_X4_afterYears_146
      rw [nI_is0 (by omega), p1.1.2.2.2.2.2.1, e_bitCount k2]
      refine br_t (by rw [le_I]; exact Int.le_refl _) (br_c (fun q => e_known p1 (by omega) ?_) (fun q => ?_))
      · rw [e3, e_bitCount k1]
        rw [if_pos q] at hK; exact hK
      · rw [if_neg q] at hK; exact hK
    | succ j ih =>
      intro k M1 hk h1 p1
      have wk := w.dA X k
      have e0 : dA A X k 0 = A 0 := dA_told k 0 (by omega)
      have e2 : dA A X k 2 = A 2 := dA_told k 2 (by omega)
      have xl := dX_lt (X := X) (by omega) k
      have yl := dX_lt (X := X) (by omega) (k + 1)
      have hy : lN (dX X k * 16807 % 2147483647) = lN (dX X (k + 1)) := rfl
      have hm := Nat.mod_lt (dX X (k + 1)) (show A 0 > 0 by omega)
      have l112 : ∀ M2 : Mm, (∀ q, ¬ (56 ≤ q ∧ q ≤ 62) → M2 q = M q) → PapC M2 56 (drB (dA A X k) (dX X (k + 1))) → f_X4_afterYears_112 K (fun a0 a1 a => l_X4_afterYears_18 K (nI n) (nI t) (j + 1) a0 a1 a) (nI n) (nI t) (lN (dX X (k + 1))) (nI k) M2 := by
        intro M2 h2 p2
        unfold f_X4_afterYears_112
        refine s_passDay p2 (wk.drB _) (by omega) (fun M3 h3 p3 => ?_)
        rw [nI_1]
        exact ih (k + 1) M3 (by omega) (fun q hq => by rw [h3 q (by omega)]; exact h2 q hq) p3
      rw [l_X4_afterYears_18, l_next xl, hy, p1.1.2.1, p1.1.2.2.2.2.2.1, e0, nI_l (by omega), l_rem yl (by omega) (by omega), lN_i, nI_shl1 (by omega), nI_xor]
      refine br_f (by rw [le_I, nI_I (by omega), nI_I (by omega)]; omega) (br_f (by rw [le_I, nI_I (by omega)]; show ¬ (A 0 : Int) ≤ 0; omega) ⟨l_is0 (by omega) (by omega), fun M14 e14 => ?_⟩)
      have p14 : PapC M14 56 (setA (dA A X k) 39 (dA A X k 39 ^^^ 2 ^ (dX X (k + 1) % A 0))) := p1.uFaded wk.sm e14
      have h14 : ∀ q, ¬ (56 ≤ q ∧ q ≤ 62) → M14 q = M q := fun q hq => by rw [e14, gU_cell (by omega)]; exact h1 q hq
      have m9 : M14 56 9 = nI (A 2) := by rw [p14.1.2.2.1, setA_n (by omega), e2]
      have db : drB (dA A X k) (dX X (k + 1)) = if A 2 = 0 ∨ ¬ dX X (k + 1) % 5 = 0 then setA (dA A X k) 39 (dA A X k 39 ^^^ 2 ^ (dX X (k + 1) % A 0)) else mvA (setA (dA A X k) 39 (dA A X k 39 ^^^ 2 ^ (dX X (k + 1) % A 0))) (dX X (k + 1) % A 2) := by
        unfold drB
        rw [e0, e2]
      have wf := wk.drF (dX X (k + 1))
      rw [e0] at wf
      unfold f_X4_afterYears_72
      rw [m9]
      refine br_c (fun q => l112 M14 h14 ?_) (fun q => br_c (fun q5 => ?_) (fun q5 => l112 M14 h14 ?_))
      · rw [le_I, nI_I (by omega)] at q
        have q : (A 2 : Int) ≤ 0 := q
        rw [db, if_pos (Or.inl (by omega))]; exact p14
      · rw [le_I, nI_I (by omega)] at q
        have q : ¬ (A 2 : Int) ≤ 0 := q
        have r5 : lN (dX X (k + 1)) - lN (dX X (k + 1)) / 5 * 5 = lN (dX X (k + 1) % 5) := l_rem (d := 5) yl (by omega) (by omega)
        rw [lg_cmp_eq, r5] at q5
        have q5' : dX X (k + 1) % 5 = 0 := by
          have q6 : lN (dX X (k + 1) % 5) = lN 0 := q5
          rw [pk_lEQ (by omega) (by omega)] at q6
          exact q6
        have ml := Nat.mod_lt (dX X (k + 1)) (show A 2 > 0 by omega)
        rw [nI_l (by omega), l_rem yl (by omega) (by omega), lN_i]
        refine ⟨l_is0 (by omega) (by omega), s_moveUp p14 wf (by rw [setA_n (by omega), e2]; exact ml) (fun M7 h7 p7 => l112 M7 (fun q hq => by rw [h7 q (by omega)]; exact h14 q hq) ?_)⟩
        rw [db, if_neg (fun z => z.elim (fun z => by omega) (fun z => z q5'))]
        exact p7
      · have r5 : lN (dX X (k + 1)) - lN (dX X (k + 1)) / 5 * 5 = lN (dX X (k + 1) % 5) := l_rem (d := 5) yl (by omega) (by omega)
        rw [lg_cmp_eq, r5] at q5
        rw [db, if_pos (Or.inr (fun z => q5 (by rw [z]; rfl)))]; exact p14
  unfold f_X4_afterYears
  refine s_become (by omega) pc w.sm (fun M1 h1 p1 => ⟨n + 1, ?_⟩)
  rw [nI_l (by omega)]
  exact L n 0 M1 (by omega) (fun q hq => h1 q (by omega)) p1
theorem s_rdrawn {M : Mm} {A : AP} {n X t : Nat} (pr : PapR (M 7) (M 9) A) (w : WF A) (hn : n ≤ 60) (hX : X < 1000000) (ht : t < 2) {K : Int32 → Mm → Prop} (h : ∀ M' : Mm, (∀ q, q ≠ 10 → M' q = M q) → K (nI (bc (if t = 0 then anyK (dA A X n) (A 3) else dA A X n 39) 24)) M') : f_X12_take M (fun M32 => ∃ z, l_X12_drawn_52 K (nI n) (nI t) z (nI X) 0 M32) := by
  have s0 := w.1.2
  have s00 := w.1.1
  have s2 := w.2.2.1
  have s3 := w.2.2.2.1
  have L : ∀ (j k : Nat) (M1 : Mm), k + j = n → (∀ q, q ≠ 10 → M1 q = M q) → PapR (M1 7) (M1 10) (dA A X k) → l_X12_drawn_52 K (nI n) (nI t) (j + 1) (nI (dX X k)) (nI k) M1 := by
    intro j
    induction j with
    | zero =>
      intro k M1 hk h1 p1
      have e : k = n := by omega
      subst e
      have wk := w.dA X k
      have e3 : dA A X k 3 = A 3 := dA_told k 3 (by omega)
      have t3 : M1 7 (3 : Int32).toNatClampNeg = nI (A 3) := by rw [← e3]; exact p1.1 3 (by omega)
      have t6 : M1 10 (6 : Int32).toNatClampNeg = nI (dA A X k 39) := p1.2 6 (by omega)
      have hK := h M1 h1
      have k1 : anyK (dA A X k) (A 3) < 16777216 := pow24 (anyK_lt wk (A 3) (by omega)) wk.1.2
      have k2 : dA A X k 39 < 16777216 := pow24 wk.2.2.2.2.2.2.2.2.2.1 wk.1.2
      have L170 : ∀ (i m : Nat), m + i = A 3 → l_X12_drawn_170 K (nI t) (i + 1) (nI (anyK (dA A X k) m)) (nI m) M1 := by
        intro i
        induction i with
        | zero =>
          intro m hm
          unfold l_X12_drawn_170 f_X12_drawn_218
          rw [t3, t6, nI_is0 (by omega)]
          refine br_t (by rw [le_I, nI_I (by omega), nI_I (by omega)]; omega) (br_c (fun q => ?_) (fun q => e_bitsOf k2 _ _ ?_))
          · rw [if_pos q] at hK
            rw [show m = A 3 by omega]
            exact e_bitsOf k1 _ _ hK
          · rw [if_neg q] at hK; exact hK
        | succ i ihi =>
          intro m hm
          rw [l_X12_drawn_170, t3, c_add (c := 17) (n := 17) rfl, nI_cl (by omega), p1.2 (17 + m) (by omega), show 33 + (17 + m) = 50 + m by omega, nI_or, nI_1]
          exact br_f (by rw [le_I, nI_I (by omega), nI_I (by omega)]; omega) ⟨vp_nI (by omega) (by decide), ihi (m + 1) (by omega)⟩
      rw [l_X12_drawn_52]
      exact br_t (by rw [le_I]; exact Int.le_refl _) ⟨_, L170 (A 3) 0 (by omega)⟩
    | succ j ih =>
      intro k M1 hk h1 p1
      have wk := w.dA X k
      have e0 : dA A X k 0 = A 0 := dA_told k 0 (by omega)
      have e2 : dA A X k 2 = A 2 := dA_told k 2 (by omega)
      have xl := dX_lt (X := X) (by omega) k
      have yl := dX_lt (X := X) (by omega) (k + 1)
      have t0 : M1 7 (0 : Int32).toNatClampNeg = nI (A 0) := by rw [← e0]; exact p1.1 0 (by omega)
      have t6 : M1 10 (6 : Int32).toNatClampNeg = nI (dA A X k 39) := p1.2 6 (by omega)
      have hm := Nat.mod_lt (dX X (k + 1)) (show A 0 > 0 by omega)
      have hy : (((nI (dX X k)).toInt64 * 16807) - ((nI (dX X k)).toInt64 * 16807) / 2147483647 * 2147483647).toInt32 = nI (dX X (k + 1)) := by
        rw [nI_l (by omega), l_next xl, lN_i]
        rfl
      have l150 : ∀ M2 : Mm, (∀ q, q ≠ 10 → M2 q = M q) → PapR (M2 7) (M2 10) (drB (dA A X k) (dX X (k + 1))) → f_X12_drawn_150 K (fun a0 a1 a => l_X12_drawn_52 K (nI n) (nI t) (j + 1) a0 a1 a) (nI n) (nI t) (nI (dX X (k + 1))) (nI k) M2 := by
        intro M2 h2 p2
        unfold f_X12_drawn_150
        refine s_pass (Or.inr rfl) p2 (wk.drB _) (by omega) (fun M3 h3 p3 => ?_)
        rw [nI_1]
        exact ih (k + 1) M3 (by omega) (fun q hq => by rw [h3 q hq]; exact h2 q hq) p3
      have db : drB (dA A X k) (dX X (k + 1)) = if A 2 = 0 ∨ ¬ dX X (k + 1) % 5 = 0 then setA (dA A X k) 39 (dA A X k 39 ^^^ 2 ^ (dX X (k + 1) % A 0)) else mvA (setA (dA A X k) 39 (dA A X k 39 ^^^ 2 ^ (dX X (k + 1) % A 0))) (dX X (k + 1) % A 2) := by
        unfold drB
        rw [e0, e2]
      have wf := wk.drF (dX X (k + 1))
      rw [e0] at wf
      have r5 : nI (dX X (k + 1)) - nI (dX X (k + 1)) / 5 * 5 = nI (dX X (k + 1) % 5) := rem_nI (d := 5) (by omega) (by omega) (by omega)
      rw [l_X12_drawn_52, hy, t0, t6, rem_nI (by omega) (by omega) (by omega), nI_shl1 (by omega), nI_xor, c_6, r5]
      refine br_f (by rw [le_I, nI_I (by omega), nI_I (by omega)]; omega) ⟨by rw [nI_is0 (by omega)]; omega, fun M10 e10 => ?_⟩
      have h10 : ∀ q, q ≠ 10 → M10 q = M q := fun q hq => by rw [e10, gU_cell hq]; exact h1 q hq
      have p10 : PapR (M10 7) (M10 10) (setA (dA A X k) 39 (dA A X k 39 ^^^ 2 ^ (dX X (k + 1) % A 0))) := by
        rw [show M10 7 = M1 7 by rw [e10, gU_cell (by omega)]]
        refine (show PapR (M1 7) (M10 10) (setA (dA A X k) (33 + 6) _) from p1.up (by omega) (fun i => ?_))
        rw [e10, gU_now]
      have t2 : M10 7 (2 : Int32).toNatClampNeg = nI (A 2) := by rw [show M10 7 = M1 7 by rw [e10, gU_cell (by omega)], ← e2]; exact p1.1 2 (by omega)
      rw [t2]
      refine br_c (fun q => l150 M10 h10 ?_) (fun q => br_c (fun q5 => ?_) (fun q5 => l150 M10 h10 ?_))
      · rw [le_I, nI_I (by omega)] at q
        have q : (A 2 : Int) ≤ 0 := q
        rw [db, if_pos (Or.inl (by omega))]; exact p10
      · rw [le_I, nI_I (by omega)] at q
        have q : ¬ (A 2 : Int) ≤ 0 := q
        have l5 := Nat.mod_lt (dX X (k + 1)) (show 5 > 0 by omega)
        rw [nI_is0 (by omega)] at q5
        have ml := Nat.mod_lt (dX X (k + 1)) (show A 2 > 0 by omega)
        have n2 : ¬ nI (A 2) = 0 := by rw [nI_is0 (by omega)]; omega
        have w8 := wf.2.2.2.2.2.2.2.1
        have f2 : setA (dA A X k) 39 (dA A X k 39 ^^^ 2 ^ (dX X (k + 1) % A 0)) 2 = A 2 := by rw [setA_n (by omega), e2]
        have f0 : setA (dA A X k) 39 (dA A X k 39 ^^^ 2 ^ (dX X (k + 1) % A 0)) 0 = A 0 := by rw [setA_n (by omega), e0]
        have wv := w8 (dX X (k + 1) % A 2) (by rw [f2]; exact ml)
        rw [rem_nI (by omega) (by omega) (by omega)]
        refine ⟨n2, s_mayMove p10 wf.sm (fun u hu => (w8 u hu).2) (by rw [f2]; exact ml) (nI_1 _) (by omega) (by omega) (fun fr => br_f (by decide) ?_) (fun fr => br_t rfl ?_)⟩
        · rw [t2, rem_nI (by omega) (by omega) (by omega), c_add (c := 1) (n := 1) rfl, nI_cl (by omega), p10.2 (1 + dX X (k + 1) % A 2) (by omega), show 33 + (1 + dX X (k + 1) % A 2) = 34 + dX X (k + 1) % A 2 by omega, nI_1]
          refine ⟨n2, vp_nI (by omega) (by decide), fun M20 e20 => l150 M20 (fun q hq => by rw [e20, gU_cell hq]; exact h10 q hq) ?_⟩
          rw [db, if_neg (fun z => z.elim (fun z => by omega) (fun z => z q5)), show M20 7 = M10 7 by rw [e20, gU_cell (by omega)]]
          unfold mvA
          rw [if_pos (freeB_t fr)]
          refine (show PapR (M10 7) (M20 10) (setA _ (34 + dX X (k + 1) % A 2) _) from ?_)
          rw [show 34 + dX X (k + 1) % A 2 = 33 + (1 + dX X (k + 1) % A 2) by omega]
          refine p10.up (by omega) (fun i => ?_)
          rw [e20, gU_now, show 33 + (1 + dX X (k + 1) % A 2) = 34 + dX X (k + 1) % A 2 by omega]
        · refine l150 M10 h10 ?_
          rw [db, if_neg (fun z => z.elim (fun z => by omega) (fun z => z q5))]
          unfold mvA
          rw [if_neg (freeB_f fr)]
          exact p10
      · have l5 := Nat.mod_lt (dX X (k + 1)) (show 5 > 0 by omega)
        rw [nI_is0 (by omega)] at q5
        rw [db, if_pos (Or.inr q5)]; exact p10
  exact s_take pr (fun M1 h1 p1 => ⟨n + 1, L n 0 M1 (by omega) h1 p1⟩)
theorem op_drawn {Mc Mr : Mm} (hI : Inv Mc Mr) (a b c : Int32) : f_X11_drawn a b c Mc (fun r Mc' => f_X12_drawn a b c Mr (fun r' Mr' => r = r' ∧ Inv Mc' Mr')) := by
  obtain ⟨-, -, -, -, -, A, hC, hR, -, -, -, hr⟩ := id hI
  have s := hr.sm
  have e0 : (0 : Int32).toInt = 0 := rfl
  have e1 : (1 : Int32).toInt = 1 := rfl
  have e60 : (60 : Int32).toInt = 60 := rfl
  have e9 : (999999 : Int32).toInt = 999999 := rfl
  simp only [f_X11_drawn, f_X12_drawn, e_noPaper hC s, e_isBit, e_in, bit01, br_eq, b2i_0, read_0 hr]
  simp only [lt_I, e0, e1, e60, e9]
  by_cases h0 : A 0 = 0
  · simp only [if_neg (not_not_intro h0), if_pos h0]; first | exact hI | exact ⟨trivial, hI⟩
  · simp only [if_pos h0, if_neg h0]
    have w := (hr.wf h0).1
    by_cases ha : 0 ≤ a.toInt ∧ a.toInt ≤ 60
    · simp only [if_neg (not_not_intro ha), if_neg (show ¬ a.toInt < 0 by omega), if_neg (show ¬ 60 < a.toInt by omega)]
      by_cases hb : 1 ≤ b.toInt ∧ b.toInt ≤ 999999
      · simp only [if_neg (not_not_intro hb), if_neg (show ¬ b.toInt < 1 by omega), if_neg (show ¬ 999999 < b.toInt by omega)]
        by_cases hc : 0 ≤ c.toInt ∧ c.toInt < 2
        · simp only [if_neg (not_not_intro hc)]
          obtain ⟨n, hn, rfl⟩ := of_arg (n := 61) (a := a) (by decide) (by omega)
          obtain ⟨X, hX, rfl⟩ := of_arg (n := 1000000) (a := b) (by decide) (by omega)
          obtain ⟨t, ht, rfl⟩ := of_arg (n := 2) (a := c) (by decide) hc
          exact s_years hC w (by omega) hX ht (fun M1 h1 => s_rdrawn hR w (by omega) hX ht (fun M2 h2 => ⟨rfl, hI.scr (fun k _ _ => h1 k (by omega)) (fun k _ _ _ q _ => h2 k q)⟩))
        · simp only [if_pos hc]; first | exact hI | exact ⟨trivial, hI⟩
      · simp only [if_pos hb]
        by_cases hb1 : b.toInt < 1
        · simp only [if_pos hb1]; first | exact hI | exact ⟨trivial, hI⟩
        · simp only [if_neg hb1, if_pos (show 999999 < b.toInt by omega)]; first | exact hI | exact ⟨trivial, hI⟩
    · simp only [if_pos ha]
      by_cases ha1 : a.toInt < 0
      · simp only [if_pos ha1]; first | exact hI | exact ⟨trivial, hI⟩
      · simp only [if_neg ha1, if_pos (show 60 < a.toInt by omega)]; first | exact hI | exact ⟨trivial, hI⟩
