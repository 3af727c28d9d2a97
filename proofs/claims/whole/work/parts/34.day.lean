def endA (A : AP) (law : Nat) : AP := setA (if law = 0 then A else setA A 39 (A 39 ||| 2 ^ (A 33 * law % A 0))) 33 (A 33 + 1)
def walks (A : AP) (kf : Nat → Nat) : Nat → AP
  | 0 => A
  | n + 1 => walkA (walks A kf n) n (kf n)
def dayA (A : AP) (kf : Nat → Nat) (law : Nat) : AP := endA (walks A kf (A 3)) law
theorem WFb.day {D E : Nat} {A : AP} (w : WFb D A) {v : Nat} (hv : v ≤ E) : WFb E (setA A 33 v) := by
  have s3 := w.2.2.2.1
  have s2 := w.2.2.1
  have s0 := w.1.2
  have n : ∀ {j : Nat}, j ≠ 33 → setA A 33 v j = A j := fun q => setA_n q
  obtain ⟨w1, w2, w3, w4, w5, w6, w7, w8, w9, w10, w11⟩ := w
  unfold WFb
  rw [n (j := 0) (by omega), n (j := 1) (by omega), n (j := 2) (by omega), n (j := 3) (by omega), n (j := 39) (by omega), setA_s]
  exact ⟨w1, w2, w3, w4, fun c hc => by rw [n (by omega)]; exact w5 c hc, fun g hg => by rw [n (by omega)]; exact w6 g hg, hv, fun u hu => by rw [n (by omega)]; exact w8 u hu, fun u hu => by rw [n (by omega), n (by omega)]; exact w9 u hu, w10, fun g hg => by rw [n (by omega), n (by omega), n (by omega)]; exact w11 g hg⟩
theorem WFb.ended {D E : Nat} {A : AP} (w : WFb D A) {law : Nat} (hv : A 33 + 1 ≤ E) : WFb E (endA A law) := by
  unfold endA
  by_cases h : law = 0
  · rw [if_pos h]; exact w.day hv
  · rw [if_neg h]
    refine (w.faded (pow_or w.2.2.2.2.2.2.2.2.2.1 ?_)).day hv
    exact Nat.pow_lt_pow_right (by omega) (Nat.mod_lt _ (by have := w.1.1; omega))
theorem end_told {A : AP} {law : Nat} : Told A (endA A law) := by
  unfold endA
  by_cases h : law = 0
  · rw [if_pos h]; exact Told.set (by omega)
  · rw [if_neg h]; exact (Told.set (by omega)).trans (Told.set (by omega))
theorem end_33 {A : AP} {law : Nat} : endA A law 33 = A 33 + 1 := by unfold endA; rw [setA_s]
theorem walk_33 {A : AP} {f k : Nat} : walkA A f k 33 = A 33 := walk_low 33 (by omega)
theorem walks_low {A : AP} {kf : Nat → Nat} : ∀ n, Low A (walks A kf n)
  | 0 => fun _ _ => rfl
  | n + 1 => fun i hi => (walk_low i hi).trans (walks_low n i hi)
theorem walks_told {A : AP} {kf : Nat → Nat} (n : Nat) : Told A (walks A kf n) := fun i hi => walks_low n i (by omega)
theorem WFb.walks {D : Nat} {A : AP} (w : WFb D A) (kf : Nat → Nat) : ∀ n, n ≤ A 3 → WFb D (walks A kf n)
  | 0, _ => w
  | n + 1, h => (WFb.walks w kf n (by omega)).walk (by rw [walks_low n 3 (by omega)]; omega) _
theorem day_told {A : AP} {kf : Nat → Nat} {law : Nat} : Told A (dayA A kf law) := (walks_told _).trans end_told
theorem day_33 {A : AP} {kf : Nat → Nat} {law : Nat} : dayA A kf law 33 = A 33 + 1 := by
  unfold dayA; rw [end_33, walks_low _ 33 (by omega)]
theorem WFb.dayA {D E : Nat} {A : AP} (w : WFb D A) (kf : Nat → Nat) (law : Nat) (hE : A 33 + 1 ≤ E) : WFb E (dayA A kf law) :=
  (w.walks kf (A 3) (Nat.le_refl _)).ended (by rw [walks_low _ 33 (by omega)]; exact hE)
theorem rem_nI {a d : Nat} (ha : a < 2147483648) (h0 : 0 < d) (hd : d < 2147483648) : nI a - nI a / nI d * nI d = nI (a % d) := pk_rem ha h0 hd
theorem s_endDay {D b : Nat} {M : Mm} {A : AP} (p : PapC M b A) (w : WFb D A) (hD : D ≤ 1000000) {K : Mm → Prop} (h : ∀ M' : Mm, (∀ q, q ≠ b → M' q = M q) → PapC M' b (endA A (A 1)) → K M') : f_X6_endDay b M K := by
  have s := w.sm
  have s0 := s.1
  have s1 := s.2.1
  have w0 := w.1.1
  have w7 := w.2.2.2.2.2.2.1
  have l39 : ∀ (M1 : Mm) (B : AP), (∀ q, q ≠ b → M1 q = M q) → PapC M1 b B → Sm B → B 33 = A 33 → setA B 33 (A 33 + 1) = endA A (A 1) → f_X6_endDay_39 K b M1 := by
    intro M1 B h1 p1 sB hB hE M2 e2
    rw [p1.1.2.2.2.2.2.2, hB, nI_1] at e2
    refine h M2 (fun q hq => by rw [e2, gU_cell hq]; exact h1 q hq) ?_
    rw [← hE]
    exact p1.uDay sB e2
  unfold f_X6_endDay
  rw [p.1.1, p.1.2.1, p.1.2.2.2.2.2.1, p.1.2.2.2.2.2.2]
  have hm : A 33 * A 1 ≤ 1000000 * 24 := Nat.mul_le_mul (by omega) s1
  refine br_c (fun q => ?_) (fun q => br_f ?_ ⟨?_, fun M6 e6 => ?_⟩)
  · rw [le_I, nI_I (by omega)] at q
    have q : (A 1 : Int) ≤ 0 := q
    exact l39 M A (fun _ _ => rfl) p s rfl (by unfold endA; rw [if_pos (by omega)])
  · rw [le_I, nI_I (by omega)]
    show ¬ (A 0 : Int) ≤ 0
    omega
  · rw [nI_is0 (by omega)]; omega
  · rw [le_I, nI_I (by omega)] at q
    have q : ¬ (A 1 : Int) ≤ 0 := q
    have hlt := Nat.mod_lt (A 33 * A 1) (show A 0 > 0 by omega)
    rw [pk_mul, rem_nI (by omega) (by omega) (by omega), nI_shl1 (by omega), nI_or] at e6
    refine l39 M6 _ (fun q hq => by rw [e6, gU_cell hq]) (p.uFaded s e6) ?_ (setA_n (by omega)) (by unfold endA; rw [if_neg (by omega)])
    exact ⟨by rw [setA_n (by omega)]; exact s0, by rw [setA_n (by omega)]; exact s1, by rw [setA_n (by omega)]; exact s.2.2.1, by rw [setA_n (by omega)]; exact s.2.2.2⟩
theorem s_passDay {D b : Nat} {M : Mm} {A : AP} (p : PapC M b A) (w : WFb D A) (hD : D ≤ 1000000) {K : Mm → Prop} (h : ∀ M' : Mm, (∀ q, ¬ (b ≤ q ∧ q ≤ b + 6) → M' q = M q) → PapC M' b (dayA A (fun f => A (28 + f)) (A 1)) → K M') : f_X6_passDay b M K := by
  have s3 := w.sm.2.2.2
  have L : ∀ (j n : Nat) (M1 : Mm), n + j = A 3 → (∀ q, ¬ (b ≤ q ∧ q ≤ b + 6) → M1 q = M q) → PapC M1 b (walks A (fun f => A (28 + f)) n) → l_X6_passDay_2 K b (j + 1) (nI n) M1 := by
    intro j
    induction j with
    | zero =>
      intro n M1 hn h1 p1
      have e3 := walks_low (A := A) (kf := fun f => A (28 + f)) n 3 (by omega)
      have e1 := walks_low (A := A) (kf := fun f => A (28 + f)) n 1 (by omega)
      rw [l_X6_passDay_2, p1.1.2.2.2.1, e3]
      refine br_t (by rw [le_I, nI_I (by omega), nI_I (by omega)]; omega) ?_
      refine s_endDay p1 (w.walks _ n (by omega)) hD (fun M' h2 p2 => h M' (fun q hq => by rw [h2 q (by omega)]; exact h1 q hq) ?_)
      rw [e1] at p2
      unfold dayA
      rw [show A 3 = n by omega]
      exact p2
    | succ j ih =>
      intro n M1 hn h1 p1
      have e3 := walks_low (A := A) (kf := fun f => A (28 + f)) n 3 (by omega)
      have e28 := walks_low (A := A) (kf := fun f => A (28 + f)) n (28 + n) (by omega)
      rw [l_X6_passDay_2, p1.1.2.2.2.1, e3]
      refine br_f (by rw [le_I, nI_I (by omega), nI_I (by omega)]; omega) ?_
      refine s_walk p1 (w.walks _ n (by omega)) (by rw [e3]; omega) (fun M' h2 p2 => ?_)
      rw [nI_1]
      refine ih (n + 1) M' (by omega) (fun q hq => by rw [h2 q (by omega) (by omega) (by omega)]; exact h1 q hq) ?_
      rw [e28] at p2
      exact p2
  exact ⟨A 3 + 1, L (A 3) 0 M (by omega) (fun _ _ => rfl) p⟩
/-- one step of the reference -/
theorem s_rstep {D c f k : Nat} {M : Mm} {A : AP} (hc : c = 9 ∨ c = 10) (p : PapR (M 7) (M c) A) (w : WFb D A) (hf : f < A 3) (hk : 1 ≤ k ∧ k ≤ 5) (v2 v3 v4 : Int32) (hk1 : nI f = v2 → v3 = nI k) (hk2 : ¬ nI f = v2 → A (28 + f) = k) {K : Mm → Prop} {k3 : Int32 → Mm → Prop} (h : ∀ M' : Mm, (∀ q, q ≠ c → M' q = M q) → PapR (M' 7) (M' c) (walkA A f k) → k3 (nI (f + 1)) M') : (vp_in (7 + nI f) 22 ∧ (vp_in (12 + nI f) 22 ∧ ((((M c (12 + nI f : Int32).toNatClampNeg : Int32) = 0 : Prop) → ((((M c (7 + nI f : Int32).toNatClampNeg : Int32) = 0 : Prop) → f_X12_passBy_62 K k3 c v2 v3 v4 (nI f) (1) M) ∧ (¬ ((M c (7 + nI f : Int32).toNatClampNeg : Int32) = 0 : Prop) → f_X12_passBy_62 K k3 c v2 v3 v4 (nI f) (0) M))) ∧ (¬ ((M c (12 + nI f : Int32).toNatClampNeg : Int32) = 0 : Prop) → ((((M c (7 + nI f : Int32).toNatClampNeg : Int32) = M 7 (2 : Int32).toNatClampNeg : Prop) → f_X12_passBy_62 K k3 c v2 v3 v4 (nI f) (1) M) ∧ (¬ ((M c (7 + nI f : Int32).toNatClampNeg : Int32) = M 7 (2 : Int32).toNatClampNeg : Prop) → f_X12_passBy_62 K k3 c v2 v3 v4 (nI f) (0) M)))))) := by
  have s := w.sm
  have s3 := s.2.2.2
  have s2 := s.2.2.1
  have hA := w.2.2.2.2.2.2.2.2.2.2 f hf
  have t2 : M 7 (2 : Int32).toNatClampNeg = nI (A 2) := p.1 2 (by omega)
  have a7 : (7 : Int32) + nI f = nI (7 + f) := c_add rfl
  have a12 : (12 : Int32) + nI f = nI (12 + f) := c_add rfl
  have a17 : (17 : Int32) + nI f = nI (17 + f) := c_add rfl
  have a28 : (28 : Int32) + nI f = nI (28 + f) := c_add rfl
  have b7 : (nI (7 + f)).toNatClampNeg = 7 + f := nI_cl (by omega)
  have b12 : (nI (12 + f)).toNatClampNeg = 12 + f := nI_cl (by omega)
  have b17 : (nI (17 + f)).toNatClampNeg = 17 + f := nI_cl (by omega)
  have b28 : (nI (28 + f)).toNatClampNeg = 28 + f := nI_cl (by omega)
  have v7 : vp_in (nI (7 + f)) 22 := vp_nI (by omega) (by decide)
  have v12 : vp_in (nI (12 + f)) 22 := vp_nI (by omega) (by decide)
  have v17 : vp_in (nI (17 + f)) 22 := vp_nI (by omega) (by decide)
  have v28 : vp_in (nI (28 + f)) 33 := vp_nI (by omega) (by decide)
  have w1 := w.way hf (nw_le A f)
  have e3 : setA A (45 + f) (nw A f) 3 = A 3 := setA_n (by omega)
  have e2 : setA A (45 + f) (nw A f) 2 = A 2 := setA_n (by omega)
  have w2 := w1.house (f := f) (h := nh A f) (by rw [e3]; exact hf) (by rw [e2]; exact nh_le w hf)
  have e20 : setA (setA A (45 + f) (nw A f)) (40 + f) (nh A f) 2 = A 2 := by rw [setA_n (by omega), e2]
  have k28 : setA (setA A (45 + f) (nw A f)) (40 + f) (nh A f) (28 + f) = A (28 + f) := by rw [setA_n (by omega), setA_n (by omega)]
  have k50 : setA (setA A (45 + f) (nw A f)) (40 + f) (nh A f) (50 + f) = A (50 + f) := by rw [setA_n (by omega), setA_n (by omega)]
  have lo : Low A (setA (setA A (45 + f) (nw A f)) (40 + f) (nh A f)) := fun i hi => by rw [setA_n (by omega), setA_n (by omega)]
  have l129 : ∀ (M1 : Mm), (∀ q, q ≠ c → M1 q = M q) → PapR (M1 7) (M1 c) (setA (setA A (45 + f) (nw A f)) (40 + f) (nh A f)) → f_X12_passBy_129 K k3 c v2 v3 v4 (nI f) M1 := by
    intro M1 h1 p1
    have m7 : M1 c (7 + f) = nI (nh A f) := by rw [p1.2 (7 + f) (by omega), show 33 + (7 + f) = 40 + f by omega, setA_s]
    have m17 : M1 c (17 + f) = nI (A (50 + f)) := by rw [p1.2 (17 + f) (by omega), show 33 + (17 + f) = 50 + f by omega, k50]
    have go : f_X12_passBy_166 K k3 c v2 v3 v4 (nI f) (nI k) (nI (nh A f)) c 0 (nI (A (50 + f))) (nI (17 + f)) c M1 := by
      unfold f_X12_passBy_166
      refine e_rsees p1 w2 hk (by rw [e20]; exact nh_le w hf) _ ⟨v17, fun M6 e6 => ?_⟩
      rw [b17, lo.sees s, nI_or] at e6
      rw [nI_1]
      refine h M6 (fun q hq => by rw [e6, gU_cell hq]; exact h1 q hq) ?_
      rw [show M6 7 = M1 7 by rw [e6, gU_cell (by omega)]]
      unfold walkA
      rw [show 50 + f = 33 + (17 + f) by omega]
      refine p1.up (by omega) (fun i => ?_)
      rw [e6, gU_now, show 33 + (17 + f) = 50 + f by omega]
    unfold f_X12_passBy_129
    rw [a7, a17, a28, b7, b17, b28, m7, m17]
    refine ⟨v17, v7, br_c (fun q => ?_) (fun q => ⟨v28, ?_⟩)⟩
    · rw [hk1 q]; exact go
    · rw [p1.1 (28 + f) (by omega), k28, hk2 q]; exact go
  have l94 : f_X12_passBy_94 K k3 c v2 v3 v4 (nI f) (nI (nw A f)) (nI (12 + f)) c M := by
    unfold f_X12_passBy_94
    rw [b12]
    refine ⟨v12, fun M16 e16 => ?_⟩
    have h1 : ∀ q, q ≠ c → M16 q = M q := fun q hq => by rw [e16, gU_cell hq]
    have p1 : PapR (M16 7) (M16 c) (setA A (45 + f) (nw A f)) := by
      rw [h1 7 (by omega), show 45 + f = 33 + (12 + f) by omega]
      refine p.up (by omega) (fun i => ?_)
      rw [e16, gU_now]
    have e40 : setA A (45 + f) (nw A f) (40 + f) = A (40 + f) := setA_n (by omega)
    have m2 : M16 7 (2 : Int32).toNatClampNeg = nI (A 2) := by rw [h1 7 (by omega)]; exact t2
    have m12 : M16 c (12 + f) = nI (nw A f) := by rw [e16, gU_same]
    have m7 : M16 c (7 + f) = nI (A (40 + f)) := by rw [p1.2 (7 + f) (by omega), show 33 + (7 + f) = 40 + f by omega, e40]
    have l127 : ∀ z : Int32, nI (A (40 + f)) + z = nI (nh A f) → f_X12_passBy_127 K k3 c v2 v3 v4 (nI f) z (nI (A (40 + f))) (nI (7 + f)) c M16 := by
      intro z hz
      unfold f_X12_passBy_127
      rw [b7, hz]
      refine ⟨v7, fun M13 e13 => l129 M13 (fun q hq => by rw [e13, gU_cell hq]; exact h1 q hq) ?_⟩
      rw [show M13 7 = M16 7 by rw [e13, gU_cell (by omega)], show 40 + f = 33 + (7 + f) by omega]
      refine p1.up (by omega) (fun i => ?_)
      rw [e13, gU_now]
    rw [a7, a12, b7, b12, m2, m12, m7]
    refine br_c (fun q => ?_) (fun q => ⟨v7, v12, ?_⟩)
    · rw [le_I, nI_I (by omega)] at q
      have q : (A 2 : Int) ≤ 0 := q
      refine l129 M16 h1 ?_
      rw [setA_id (i := 40 + f) (v := nh A f) (by rw [e40]; unfold nh; rw [if_pos (by omega)])]
      exact p1
    · rw [le_I, nI_I (by omega)] at q
      have q : ¬ (A 2 : Int) ≤ 0 := q
      have lw := nw_le A f
      rw [nI_is0 (by omega)]
      refine br_c (fun q2 => l127 (-1) ?_) (fun q2 => l127 1 ?_)
      · have : nh A f = A (40 + f) - 1 := by unfold nh; rw [if_neg (by omega), if_pos q2]
        have ge : 1 ≤ A (40 + f) := by
          unfold nw at q2
          by_cases h45 : A (45 + f) = 0
          · rw [if_pos h45] at q2
            by_cases h40 : A (40 + f) = 0
            · rw [if_pos h40] at q2; omega
            · omega
          · rw [if_neg h45] at q2
            by_cases h40 : A (40 + f) = A 2
            · omega
            · rw [if_neg h40] at q2; omega
        rw [this]
        exact sb_m1 ge
      · have : nh A f = A (40 + f) + 1 := by unfold nh; rw [if_neg (by omega), if_neg q2]
        rw [this]
        exact nI_1 _
  have m12 : M c (12 + f) = nI (A (45 + f)) := by rw [p.2 (12 + f) (by omega), show 33 + (12 + f) = 45 + f by omega]
  have m7 : M c (7 + f) = nI (A (40 + f)) := by rw [p.2 (7 + f) (by omega), show 33 + (7 + f) = 40 + f by omega]
  have lw := nw_le A f
  have l62t : nw A f = 1 - A (45 + f) → f_X12_passBy_62 K k3 c v2 v3 v4 (nI f) 1 M := by
    intro hn
    unfold f_X12_passBy_62
    rw [a12, b12, m12]
    refine br_f (by decide) ⟨v12, ?_⟩
    rw [show (1 : Int32) = nI 1 from rfl, pk_sub (by omega), ← hn]
    exact l94
  have l62f : nw A f = A (45 + f) → f_X12_passBy_62 K k3 c v2 v3 v4 (nI f) 0 M := by
    intro hn
    unfold f_X12_passBy_62
    rw [a12, b12, m12]
    refine br_t rfl ⟨v12, ?_⟩
    rw [← hn]
    exact l94
  rw [a7, a12, b7, b12, m12, m7, t2, nI_is0 (by omega), nI_is0 (by omega), nI_ne (by omega) (by omega)]
  refine ⟨v7, v12, br_c (fun q => br_c (fun q2 => l62t ?_) (fun q2 => l62f ?_)) (fun q => br_c (fun q2 => l62t ?_) (fun q2 => l62f ?_))⟩
  · unfold nw; rw [if_pos q, if_pos q2, q]
  · unfold nw; rw [if_pos q, if_neg q2, q]
  · unfold nw; rw [if_neg q, if_pos q2]; omega
  · unfold nw; rw [if_neg q, if_neg q2]; omega
theorem s_passBy {D c : Nat} {M : Mm} {A : AP} (hc : c = 9 ∨ c = 10) (p : PapR (M 7) (M c) A) (w : WFb D A) (hD : D ≤ 1000000) (kf : Nat → Nat) (law : Nat) (hl : law ≤ 24) (v2 v3 : Int32) (hkf : ∀ f, f < A 3 → (1 ≤ kf f ∧ kf f ≤ 5) ∧ (nI f = v2 → v3 = nI (kf f)) ∧ (¬ nI f = v2 → A (28 + f) = kf f)) {K : Mm → Prop} (h : ∀ M' : Mm, (∀ q, q ≠ c → M' q = M q) → PapR (M' 7) (M' c) (dayA A kf law) → K M') : f_X12_passBy c v2 v3 (nI law) M K := by
  have s3 := w.sm.2.2.2
  have L : ∀ (j n : Nat) (M1 : Mm), n + j = A 3 → (∀ q, q ≠ c → M1 q = M q) → PapR (M1 7) (M1 c) (walks A kf n) → l_X12_passBy_3 K c v2 v3 (nI law) (j + 1) (nI n) M1 := by
    intro j
    induction j with
    | zero =>
      intro n M1 hn h1 p1
      have lo := walks_low (A := A) (kf := kf) n
      have wn := w.walks kf n (by omega)
      have t3 : M1 7 (3 : Int32).toNatClampNeg = nI (A 3) := by rw [← lo 3 (by omega)]; exact p1.1 3 (by omega)
      have t0 : M1 7 (0 : Int32).toNatClampNeg = nI (A 0) := by rw [← lo 0 (by omega)]; exact p1.1 0 (by omega)
      have r6 : M1 c (6 : Int32).toNatClampNeg = nI (A 39) := by rw [← lo 39 (by omega)]; exact p1.2 6 (by omega)
      have r0 : M1 c (0 : Int32).toNatClampNeg = nI (A 33) := by rw [← lo 33 (by omega)]; exact p1.2 0 (by omega)
      have w0 := w.1.1
      have w02 := w.1.2
      have w7 := w.2.2.2.2.2.2.1
      have l204 : ∀ (M2 : Mm) (B : AP), (∀ q, q ≠ c → M2 q = M q) → PapR (M2 7) (M2 c) B → B 33 = A 33 → setA B 33 (A 33 + 1) = dayA A kf law → f_X12_passBy_204 K c M2 := by
        intro M2 B h2 p2 hB hE M3 e3
        rw [show M2 c (0 : Int32).toNatClampNeg = nI (A 33) by rw [← hB]; exact p2.2 0 (by omega), nI_1, c_0] at e3
        refine h M3 (fun q hq => by rw [e3, gU_cell hq]; exact h2 q hq) ?_
        rw [← hE, show M3 7 = M2 7 by rw [e3, gU_cell (by omega)]]
        refine (show PapR (M2 7) (M3 c) (setA B (33 + 0) _) from p2.up (by omega) (fun i => ?_))
        rw [e3, gU_now]
      have lo33 : walks A kf n 33 = A 33 := lo 33 (by omega)
      have hm : A 33 * law ≤ 1000000 * 24 := Nat.mul_le_mul (by omega) hl
      rw [l_X12_passBy_3, t3, t0, r6, r0]
      refine br_t (by rw [le_I, nI_I (by omega), nI_I (by omega)]; omega) (br_c (fun q => ?_) (fun q => ⟨?_, fun M28 e28 => ?_⟩))
      · rw [le_I, nI_I (by omega)] at q
        have q : (law : Int) ≤ 0 := q
        refine l204 M1 _ h1 p1 lo33 ?_
        unfold dayA endA
        rw [if_pos (by omega), show A 3 = n by omega, lo33]
      · rw [nI_is0 (by omega)]; omega
      · rw [le_I, nI_I (by omega)] at q
        have q : ¬ (law : Int) ≤ 0 := q
        have hlt := Nat.mod_lt (A 33 * law) (show A 0 > 0 by omega)
        rw [pk_mul, rem_nI (by omega) (by omega) (by omega), nI_shl1 (by omega), nI_or, c_6] at e28
        refine l204 M28 (setA (walks A kf n) 39 (A 39 ||| 2 ^ (A 33 * law % A 0))) (fun q hq => by rw [e28, gU_cell hq]; exact h1 q hq) ?_ (by rw [setA_n (by omega)]; exact lo33) ?_
        · rw [show M28 7 = M1 7 by rw [e28, gU_cell (by omega)]]
          refine (show PapR (M1 7) (M28 c) (setA (walks A kf n) (33 + 6) _) from p1.up (by omega) (fun i => ?_))
          rw [e28, gU_now]
        · unfold dayA endA
          rw [if_neg (by omega), show A 3 = n by omega, lo33, lo 39 (by omega), lo 0 (by omega)]
    | succ j ih =>
      intro n M1 hn h1 p1
      have lo := walks_low (A := A) (kf := kf) n
      have wn := w.walks kf n (by omega)
      have t3 : M1 7 (3 : Int32).toNatClampNeg = nI (A 3) := by rw [← lo 3 (by omega)]; exact p1.1 3 (by omega)
      have hk := hkf n (by omega)
      rw [l_X12_passBy_3]
      refine br_f (by rw [t3, le_I, nI_I (by omega), nI_I (by omega)]; omega) ?_
      refine s_rstep hc p1 wn (by rw [lo 3 (by omega)]; omega) hk.1 v2 v3 (nI law) hk.2.1 (fun q => by rw [lo (28 + n) (by omega)]; exact hk.2.2 q) (fun M' h2 p2 => ?_)
      exact ih (n + 1) M' (by omega) (fun q hq => by rw [h2 q hq]; exact h1 q hq) p2
  exact ⟨A 3 + 1, L (A 3) 0 M (by omega) (fun _ _ => rfl) p⟩
theorem s_pass {D c : Nat} {M : Mm} {A : AP} (hc : c = 9 ∨ c = 10) (p : PapR (M 7) (M c) A) (w : WFb D A) (hD : D ≤ 1000000) {K : Mm → Prop} (h : ∀ M' : Mm, (∀ q, q ≠ c → M' q = M q) → PapR (M' 7) (M' c) (dayA A (fun f => A (28 + f)) (A 1)) → K M') : f_X12_pass c M K := by
  have s3 := w.sm.2.2.2
  unfold f_X12_pass
  rw [show M 7 (1 : Int32).toNatClampNeg = nI (A 1) from p.1 1 (by omega)]
  refine s_passBy hc p w hD _ (A 1) w.2.1 _ _ (fun f hf => ⟨w.2.2.2.2.2.1 f hf, fun q => ?_, fun _ => rfl⟩) h
  rw [nI_neg (by omega) (by decide)] at q
  exact q.elim
