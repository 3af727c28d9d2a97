def cntB (t : Nat → Bool) : Nat → Nat
  | 0 => 0
  | m + 1 => cntB t m + (if t m = true then 1 else 0)
def fstB (t : Nat → Bool) : Nat → Int32
  | 0 => -1000000
  | m + 1 => if t m = true ∧ cntB t m = 0 then nI m else fstB t m
theorem cntB_0 {t : Nat → Bool} : ∀ {m : Nat}, (∀ x, x < m → t x = false) → cntB t m = 0 ∧ fstB t m = -1000000
  | 0, _ => ⟨rfl, rfl⟩
  | m + 1, h => by
    have ih := cntB_0 (t := t) (m := m) (fun x hx => h x (by omega))
    have hm := h m (by omega)
    unfold cntB fstB
    rw [ih.1, ih.2, hm]
    exact ⟨rfl, rfl⟩
theorem cntB_1 {t : Nat → Bool} {x : Nat} (hx : t x = true) (h0 : ∀ y, y < x → t y = false) : ∀ j, 1 ≤ cntB t (x + 1 + j) ∧ fstB t (x + 1 + j) = nI x
  | 0 => by
    have h := cntB_0 (t := t) (m := x) h0
    show 1 ≤ cntB t x + (if t x = true then 1 else 0) ∧ (if t x = true ∧ cntB t x = 0 then nI x else fstB t x) = nI x
    rw [if_pos hx, if_pos ⟨hx, h.1⟩]
    exact ⟨by omega, rfl⟩
  | j + 1 => by
    have ih := cntB_1 hx h0 j
    refine ⟨show 1 ≤ cntB t (x + 1 + j) + _ by omega, ?_⟩
    show (if _ ∧ cntB t (x + 1 + j) = 0 then nI (x + 1 + j) else fstB t (x + 1 + j)) = nI x
    rw [if_neg (fun q => by have := q.2; omega)]
    exact ih.2
theorem cntB_le (t : Nat → Bool) : ∀ m, cntB t m ≤ m
  | 0 => Nat.le_refl _
  | m + 1 => by
    have := cntB_le t m
    unfold cntB
    split <;> omega
/-- the told piece is there at x -/
def toldB (A : AP) (R : Nat → Int32) (i n x : Nat) : Bool := decide (∀ k, k < n → R (i + k) = nI (A (4 + (x + k))))
theorem s_isTold {b r i n x : Nat} {M : Mm} {A : AP} (pc : PapC M b A) (s0 : A 0 ≤ 24) (hi : i + n ≤ 40) (hx : x + n ≤ A 0) {K : Int32 → Mm → Prop} (h1 : toldB A (M (r + 1)) i n x = true → K 1 M) (h0 : toldB A (M (r + 1)) i n x = false → K 0 M) : f_X6_isTold b r (nI i) (nI n) (nI x) M K := by
  have L : ∀ (j k : Nat), k + j = n → (∀ q, q < k → M (r + 1) (i + q) = nI (A (4 + (x + q)))) → l_X6_isTold_3 K b r (nI i) (nI n) (nI x) (j + 1) (nI k) M := by
    intro j
    induction j with
    | zero =>
      intro k hk hq
      rw [l_X6_isTold_3]
      exact br_t (by rw [le_I, nI_I (by omega), nI_I (by omega)]; omega) (h1 (decide_eq_true (fun q hqq => hq q (by omega))))
    | succ j ih =>
      intro k hk hq
      rw [l_X6_isTold_3, nI_add, nI_add, nI_cl (by omega), nI_cl (by omega), pc.2.1 (x + k) (by omega), nI_1]
      refine br_f (by rw [le_I, nI_I (by omega), nI_I (by omega)]; omega) ⟨vp_nI (by omega) (by decide), vp_nI (by omega) (by decide), br_c (fun q => ih (k + 1) (by omega) (fun y hy => ?_)) (fun q => h0 (decide_eq_false (fun z => q (z k (by omega)))))⟩
      by_cases e : y = k
      · rw [e]; exact q
      · exact hq y (by omega)
  exact ⟨n + 1, L n 0 (by omega) (fun q hq => by omega)⟩
theorem s_countPlaces {b r i n : Nat} {M : Mm} {A : AP} (pc : PapC M b A) (s0 : A 0 ≤ 24) (hi : i + n ≤ 40) {K : Int32 → Mm → Prop} (h : K (nI (cntB (toldB A (M (r + 1)) i n) (A 0 + 1 - n))) M) : f_X6_countPlaces b r (nI i) (nI n) M K := by
  have L : ∀ (j x : Nat), x + j = A 0 + 1 - n → l_X6_countPlaces_6 K b r (nI i) (nI n) (j + 1) (nI (cntB (toldB A (M (r + 1)) i n) x)) (nI x) M := by
    intro j
    induction j with
    | zero =>
      intro x hx
      rw [l_X6_countPlaces_6, pc.1.2.1, nI_add]
      refine br_t (by rw [lt_I, nI_I (by omega), nI_I (by omega)]; omega) ?_
      rw [show x = A 0 + 1 - n by omega]; exact h
    | succ j ih =>
      intro x hx
      have nx := ih (x + 1) (by omega)
      unfold cntB at nx
      rw [l_X6_countPlaces_6, pc.1.2.1, nI_add, nI_1, nI_1]
      refine br_f (by rw [lt_I, nI_I (by omega), nI_I (by omega)]; omega) (s_isTold pc s0 hi (by omega) (fun q => br_f (by decide) ?_) (fun q => br_t rfl ?_))
      · rw [if_pos q] at nx; exact nx
      · rw [if_neg (by rw [q]; decide)] at nx; exact nx
  exact ⟨_, L (A 0 + 1 - n) 0 (by omega)⟩
theorem s_firstPlace {b r i n : Nat} {M : Mm} {A : AP} (pc : PapC M b A) (s0 : A 0 ≤ 24) (hi : i + n ≤ 40) {K : Int32 → Mm → Prop} (h : K (fstB (toldB A (M (r + 1)) i n) (A 0 + 1 - n)) M) : f_X6_firstPlace b r (nI i) (nI n) M K := by
  have L : ∀ (j x : Nat), x + j = A 0 + 1 - n → (∀ y, y < x → toldB A (M (r + 1)) i n y = false) → l_X6_firstPlace_3 K b r (nI i) (nI n) (j + 1) (nI x) M := by
    intro j
    induction j with
    | zero =>
      intro x hx hy
      rw [l_X6_firstPlace_3, pc.1.2.1, nI_add]
      refine br_t (by rw [lt_I, nI_I (by omega), nI_I (by omega)]; omega) ?_
      rw [← show x = A 0 + 1 - n by omega, (cntB_0 hy).2] at h; exact h
    | succ j ih =>
      intro x hx hy
      rw [l_X6_firstPlace_3, pc.1.2.1, nI_add, nI_1]
      refine br_f (by rw [lt_I, nI_I (by omega), nI_I (by omega)]; omega) (s_isTold pc s0 hi (by omega) (fun q => br_f (by decide) ?_) (fun q => br_t rfl (ih (x + 1) (by omega) (fun y h2 => ?_))))
      · rw [show A 0 + 1 - n = x + 1 + j by omega, (cntB_1 q hy j).2] at h; exact h
      · by_cases e : y = x
        · rw [e]; exact q
        · exact hy y (by omega)
  exact ⟨_, L (A 0 + 1 - n) 0 (by omega) (fun y hy => by omega)⟩
theorem s_rpiece {r i n t : Nat} {M : Mm} {A : AP} {R : Nat → Int32} {st : Nat → Int32} (pr : PapR (M 7) st A) (s0 : A 0 ≤ 24) (hr : r < 8) (hi : i + n ≤ 40) (hR : ∀ k, k < 40 → R k = M 3 (40 * r + k)) (ht : t < 2) {K : Int32 → Mm → Prop} (h : K (if t = 0 then nI (cntB (toldB A R i n) (A 0 + 1 - n)) else fstB (toldB A R i n) (A 0 + 1 - n)) (gU M 0 4 0)) : ∃ z, l_X12_piece_83 K (nI r) (nI i) (nI n) (nI t) z 0 (-1000000) 0 M := by
  have t0 : M 7 (0 : Int32).toNatClampNeg = nI (A 0) := pr.1 0 (by omega)
  have L102 : ∀ (k83 : Int32 → Int32 → Int32 → Mm → Prop) (x : Nat), x + n ≤ A 0 → k83 (nI (cntB (toldB A R i n) (x + 1))) (fstB (toldB A R i n) (x + 1)) (nI (x + 1)) M → ∀ (j k : Nat) (v : Int32), k + j = n → ((v = 1 ∧ ∀ q, q < k → R (i + q) = nI (A (4 + (x + q)))) ∨ (v = 0 ∧ toldB A R i n x = false)) → l_X12_piece_102 K k83 (nI r) (nI i) (nI n) (nI t) (nI (cntB (toldB A R i n) x)) (fstB (toldB A R i n) x) (nI x) (j + 1) v (nI k) M := by
    intro k83 x hx hk j
    induction j with
    | zero =>
      intro k v hk' hv
      have hc := cntB_le (toldB A R i n) x
      unfold cntB fstB at hk
      rw [l_X12_piece_102]
      refine br_t (by rw [le_I, nI_I (by omega), nI_I (by omega)]; omega) ?_
      unfold f_X12_piece_170 f_X12_piece_172
      rcases hv with ⟨rfl, hq⟩ | ⟨rfl, hq⟩
      · have e : toldB A R i n x = true := decide_eq_true (fun q hqq => hq q (by omega))
        rw [if_pos e] at hk
        rw [nI_is0 (by omega), nI_1, nI_1]
        refine br_f (by decide) (br_c (fun z => br_f (by decide) ?_) (fun z => br_f (by decide) ?_))
        · rw [if_pos ⟨e, z⟩] at hk; exact hk
        · rw [if_neg (fun y => z y.2)] at hk; exact hk
      · rw [if_neg (by rw [hq]; decide), if_neg (by rw [hq]; simp)] at hk
        rw [nI_1, show (0 : Int32) = nI 0 from rfl, nI_add]
        exact br_t rfl (br_t rfl hk)
    | succ j ih =>
      intro k v hk' hv
      have m4 : M 7 (4 + x + k) = nI (A (4 + (x + k))) := by rw [pr.1 (4 + x + k) (by omega), Nat.add_assoc]
      have mr : M 3 (40 * r + i + k) = R (i + k) := by rw [hR (i + k) (by omega), Nat.add_assoc]
      rw [l_X12_piece_102, c_add (c := 4) (n := 4) rfl, nI_add (4 + x), ix2 (c := 40) 40 r i rfl, nI_add (40 * r + i), nI_cl (by omega), nI_cl (by omega), nI_1, m4, mr]
      refine br_f (by rw [le_I, nI_I (by omega), nI_I (by omega)]; omega) ?_
      rcases hv with ⟨rfl, hq⟩ | ⟨rfl, hq⟩
      · refine br_f (by decide) ⟨vp_nI (by omega) (by decide), vp_nI (by omega) (by decide), br_c (fun z => ih (k + 1) 1 (by omega) (Or.inl ⟨rfl, fun y hy => ?_⟩)) (fun z => ih (k + 1) 0 (by omega) (Or.inr ⟨rfl, decide_eq_false (fun y => z (y k (by omega)).symm)⟩))⟩
        by_cases e : y = k
        · rw [e]; exact z.symm
        · exact hq y (by omega)
      · exact br_t rfl (ih (k + 1) 0 (by omega) (Or.inr ⟨rfl, hq⟩))
  have L : ∀ (j x : Nat), x + j = A 0 + 1 - n → l_X12_piece_83 K (nI r) (nI i) (nI n) (nI t) (j + 1) (nI (cntB (toldB A R i n) x)) (fstB (toldB A R i n) x) (nI x) M := by
    intro j
    induction j with
    | zero =>
      intro x hx
      rw [← show x = A 0 + 1 - n by omega] at h
      rw [l_X12_piece_83, t0, nI_add]
      refine br_t (by rw [lt_I, nI_I (by omega), nI_I (by omega)]; omega) ?_
      unfold f_X12_piece_208
      rw [e_well, e_well, nI_is0 (by omega)]
      refine br_c (fun q => ?_) (fun q => ?_)
      · rw [if_pos q] at h; exact h
      · rw [if_neg q] at h; exact h
    | succ j ih =>
      intro x hx
      rw [l_X12_piece_83, t0, nI_add]
      refine br_f (by rw [lt_I, nI_I (by omega), nI_I (by omega)]; omega) ⟨_, L102 _ x (by omega) (ih (x + 1) (by omega)) n 0 1 (by omega) (Or.inl ⟨rfl, fun q hq => by omega⟩)⟩
  exact ⟨_, L (A 0 + 1 - n) 0 (by omega)⟩
theorem op_piece {Mc Mr : Mm} (hI : Inv Mc Mr) (a b c d : Int32) : f_X11_piece a b c d Mc (fun r Mc' => f_X12_piece a b c d Mr (fun r' Mr' => r = r' ∧ Inv Mc' Mr')) := by
  obtain ⟨hrows, -, -, -, -, A, hC, hR, -, -, -, hr⟩ := id hI
  have s := hr.sm
  have e1 : (1 : Int32).toInt = 1 := rfl
  have e12 : (12 : Int32).toInt = 12 := rfl
  simp only [f_X11_piece, f_X12_piece, f_X11_piece_105, e_noPaper hC s, e_rowAt, e_isRow, e_isBit, e_in, bit01, br_eq, b2i_0, read_0 hr, lt_I, e_missing, e_found, e_rfound, e_sound]
  simp only [e1, e12]
  by_cases h0 : A 0 = 0
  · simp only [if_neg (not_not_intro h0), if_pos h0]; first | exact hI | exact ⟨trivial, hI⟩
  · simp only [if_pos h0, if_neg h0]
    have w := (hr.wf h0).1
    by_cases ha : 0 ≤ a.toInt ∧ a.toInt < 8
    · simp only [if_neg (not_not_intro ha), if_pos ha, reduceCtorEq, false_implies, true_and, Option.some.injEq, forall_eq']
      by_cases hc : 1 ≤ c.toInt ∧ c.toInt ≤ 12
      · simp only [if_neg (not_not_intro hc), if_neg (show ¬ c.toInt < 1 by omega), if_neg (show ¬ 12 < c.toInt by omega)]
        by_cases hd : 0 ≤ d.toInt ∧ d.toInt < 2
        · simp only [if_neg (not_not_intro hd)]
          obtain ⟨r, hr8, rfl⟩ := of_arg (n := 8) (a := a) (by decide) ha
          obtain ⟨n, hn, rfl⟩ := of_arg (n := 13) (a := c) (by decide) (by omega)
          obtain ⟨t, ht, rfl⟩ := of_arg (n := 2) (a := d) (by decide) hd
          have cr : (nI r).toNatClampNeg = r := nI_cl (by omega)
          have vr : vp_in (nI r) 8 := vp_nI hr8 (by decide)
          simp only [cr, vr, true_and]
          refine ⟨by unfold isRow; omega, ?_⟩
          rcases hrows r hr8 with ⟨m1, m2⟩ | ⟨L, S, hL, hS, m1, m2, m3, m4, m5⟩
          · simp only [m1, m2, not_true, if_true, if_false]
            first | exact hI.find 1 | exact ⟨trivial, hI.find 1⟩
          · have n1 : ¬ (nI L = (-1 : Int32)) := by rw [nI_neg (by omega) (by decide)]; exact id
            have n2 : ¬ (nI L = (-1000000 : Int32)) := by rw [nI_neg (by omega) (by decide)]; exact id
            simp only [m1, m2, if_pos n1, if_neg n2, e_has b (nI n) m3 hS, e_isIn hr8 b (nI n) m4 hS, b2i_0]
            by_cases hb : 0 ≤ b.toInt ∧ 0 ≤ (nI n).toInt ∧ b.toInt + (nI n).toInt ≤ S
            · simp only [if_neg (not_not_intro hb)]
              rw [nI_I (by omega)] at hb
              obtain ⟨i, hi, rfl⟩ := of_arg (n := 41) (a := b) (by decide) (by omega)
              rw [nI_I (by omega)] at hb
              have R := fun {K : Int32 → Mm → Prop} h => s_rpiece (K := K) hR s.1 hr8 (show i + n ≤ 40 by omega) m5 ht h
              by_cases z : t = 0
              · simp only [nI_is0 (show t < 2147483648 by omega), if_pos z]
                refine s_countPlaces hC s.1 (by omega) (R ?_)
                rw [if_pos z]
                exact ⟨rfl, hI.find 0⟩
              · simp only [nI_is0 (show t < 2147483648 by omega), if_neg z]
                refine s_firstPlace hC s.1 (by omega) (R ?_)
                rw [if_neg z]
                exact ⟨rfl, hI.find 0⟩
            · simp only [if_pos hb]
              first | exact hI.find 2 | exact ⟨trivial, hI.find 2⟩
        · simp only [if_pos hd]; first | exact hI | exact ⟨trivial, hI⟩
      · simp only [if_pos hc]
        by_cases hc1 : c.toInt < 1
        · simp only [if_pos hc1]; first | exact hI | exact ⟨trivial, hI⟩
        · simp only [if_neg hc1, if_pos (show 12 < c.toInt by omega)]; first | exact hI | exact ⟨trivial, hI⟩
    · simp only [if_pos ha, if_neg ha]
      simp
      exact hI
/-- rents -/
def shr (A : AP) (n h : Nat) : Nat := n * (stO A (h + 1) - stO A h) / A 0
def ovr (A : AP) (n : Nat) : Nat → Int32
  | 0 => nI n
  | h + 1 => ovr A n h - nI (shr A n h)
theorem shr_ok {A : AP} {D : Nat} (w : WFb D A) {n : Nat} (hn : n < 1000) (h : Nat) : n * (stO A (h + 1) - stO A h) < 24000 := by
  have := stO_le w (h + 1)
  have s0 := w.1.2
  have : n * (stO A (h + 1) - stO A h) ≤ 999 * 24 := Nat.mul_le_mul (by omega) (by omega)
  omega
theorem s_share {b n h D : Nat} {M : Mm} {A : AP} (pc : PapC M b A) (w : WFb D A) (hn : n < 1000) (hh : h ≤ A 2) {K : Int32 → Mm → Prop} (hK : K (nI (shr A n h)) M) : f_X6_cutShare b (nI h) (nI n) M K := by
  have s0 := w.1
  have ok := shr_ok w hn h
  unfold f_X6_cutShare
  rw [pc.1.2.1, e_cellsIn pc w hh, pk_mul, pc.1.2.1, pk_div (by omega) (by omega) (by omega)]
  refine br_f (by rw [le_I, nI_I (by omega)]; show ¬ (A 0 : Int) ≤ 0; omega) ⟨by rw [nI_is0 (by omega)]; omega, hK⟩
theorem s_rentOf {b n q D : Nat} {M : Mm} {A : AP} (pc : PapC M b A) (w : WFb D A) (hn : n < 1000) (hq : q ≤ A 2) {K : Int32 → Mm → Prop} (hK : K (if ovr A n (A 2 + 1) ≤ nI q then nI (shr A n q) + 0 else nI (shr A n q) + 1) M) : f_X6_rentOf b (nI q) (nI n) M K := by
  have s2 := w.2.2.1
  have L : ∀ (j h : Nat), h + j = A 2 + 1 → l_X6_rentOf_5 K b (nI q) (nI n) (j + 1) (ovr A n h) (nI h) M := by
    intro j
    induction j with
    | zero =>
      intro h hh
      rw [l_X6_rentOf_5, pc.1.2.2.1]
      refine br_t (by rw [lt_I, nI_I (by omega), nI_I (by omega)]; omega) (s_share pc w hn hq ?_)
      rw [show h = A 2 + 1 by omega]
      refine br_c (fun z => ?_) (fun z => ?_)
      · rw [if_pos z] at hK; exact hK
      · rw [if_neg z] at hK; exact hK
    | succ j ih =>
      intro h hh
      rw [l_X6_rentOf_5, pc.1.2.2.1]
      refine br_f (by rw [lt_I, nI_I (by omega), nI_I (by omega)]; omega) (s_share pc w hn (by omega) ?_)
      rw [nI_1]
      exact ih (h + 1) (by omega)
  exact ⟨_, L (A 2 + 1) 0 (by omega)⟩
theorem s_rrent {n q D : Nat} {M : Mm} {A : AP} (pr : PapR (M 7) (M 9) A) (w : WFb D A) (hn : n < 1000) (hq : q ≤ A 2) {K : Int32 → Mm → Prop} (hK : K (if ovr A n (A 2 + 1) ≤ nI q then nI (shr A n q) + 0 else nI (shr A n q) + 1) M) : ∃ z, l_X12_rent_27 K (nI q) (nI n) z (nI n) 0 M := by
  have s2 := w.2.2.1
  have s0 := w.1
  have t0 : M 7 (0 : Int32).toNatClampNeg = nI (A 0) := pr.1 0 (by omega)
  have t2 : M 7 (2 : Int32).toNatClampNeg = nI (A 2) := pr.1 2 (by omega)
  have n0 : ¬ nI (A 0) = 0 := by rw [nI_is0 (by omega)]; omega
  have sh : ∀ h, h ≤ A 2 → nI n * (nI (stO A (h + 1)) - nI (stO A h)) / nI (A 0) = nI (shr A n h) := by
    intro h hh
    have ok := shr_ok w hn h
    rw [pk_sub (Nat.le_of_lt (stO_lt w hh)), pk_mul, pk_div (by omega) (by omega) (by omega)]
    rfl
  have L : ∀ (j h : Nat), h + j = A 2 + 1 → l_X12_rent_27 K (nI q) (nI n) (j + 1) (ovr A n h) (nI h) M := by
    intro j
    induction j with
    | zero =>
      intro h hh
      rw [l_X12_rent_27, t2, e_endOf pr hq s2, e_firstOf pr hq s2, t0, sh q hq]
      refine br_t (by rw [lt_I, nI_I (by omega), nI_I (by omega)]; omega) ⟨n0, ?_⟩
      rw [show h = A 2 + 1 by omega]
      refine br_c (fun z => ?_) (fun z => ?_)
      · rw [if_pos z] at hK; exact hK
      · rw [if_neg z] at hK; exact hK
    | succ j ih =>
      intro h hh
      rw [l_X12_rent_27, t2]
      refine br_f (by rw [lt_I, nI_I (by omega), nI_I (by omega)]; omega) ?_
      rw [e_endOf pr (by omega) s2, e_firstOf pr (by omega) s2, t0, sh h (by omega), nI_1]
      exact ⟨n0, ih (h + 1) (by omega)⟩
  exact ⟨_, L (A 2 + 1) 0 (by omega)⟩
theorem op_rent {Mc Mr : Mm} (hI : Inv Mc Mr) (a b : Int32) : f_X11_rent a b Mc (fun r Mc' => f_X12_rent a b Mr (fun r' Mr' => r = r' ∧ Inv Mc' Mr')) := by
  obtain ⟨-, -, -, -, -, A, hC, hR, -, -, -, hr⟩ := id hI
  have s := hr.sm
  have s2 := s.2.2.1
  have e0 : (0 : Int32).toInt = 0 := rfl
  have e9 : (999 : Int32).toInt = 999 := rfl
  simp only [f_X11_rent, f_X12_rent, e_hasHouse hC s, e_isHouse hR hr, e_in, br_eq, b2i_0, lt_I, le_I, e0, e9]
  by_cases ha : 0 < A 0 ∧ 0 ≤ a.toInt ∧ a.toInt ≤ A 2
  · simp only [if_neg (not_not_intro ha)]
    have w := (hr.wf (by omega)).1
    by_cases hb : 0 ≤ b.toInt ∧ b.toInt ≤ 999
    · simp only [if_neg (not_not_intro hb), if_neg (show ¬ b.toInt < 0 by omega), if_pos hb.2]
      obtain ⟨q, hq, rfl⟩ := of_arg (n := A 2 + 1) (a := a) (by omega) (by omega)
      obtain ⟨n, hn, rfl⟩ := of_arg (n := 1000) (a := b) (by decide) (by omega)
      exact s_rentOf hC w hn (by omega) (s_rrent hR w hn (by omega) ⟨rfl, hI⟩)
    · simp only [if_pos hb]
      by_cases hb1 : b.toInt < 0
      · simp only [if_pos hb1]; first | exact hI | exact ⟨trivial, hI⟩
      · simp only [if_neg hb1, if_neg (show ¬ b.toInt ≤ 999 by omega)]; first | exact hI | exact ⟨trivial, hI⟩
  · simp only [if_pos ha]; first | exact hI | exact ⟨trivial, hI⟩
