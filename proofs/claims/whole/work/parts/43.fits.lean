theorem WFb.kind {D : Nat} {A : AP} (w : WFb D A) {f v : Nat} (hf : f < A 3) (hv : 1 ≤ v ∧ v ≤ 5) : WFb D (setA A (28 + f) v) := by
  have s3 := w.2.2.2.1
  have s2 := w.2.2.1
  have s0 := w.1.2
  have n : ∀ {j : Nat}, j ≠ 28 + f → setA A (28 + f) v j = A j := fun q => setA_n q
  obtain ⟨w1, w2, w3, w4, w5, w6, w7, w8, w9, w10, w11⟩ := w
  unfold WFb
  rw [n (j := 0) (by omega), n (j := 1) (by omega), n (j := 2) (by omega), n (j := 3) (by omega), n (j := 33) (by omega), n (j := 39) (by omega)]
  refine ⟨w1, w2, w3, w4, fun c hc => by rw [n (by omega)]; exact w5 c hc, fun g hg => ?_, w7, fun u hu => by rw [n (by omega)]; exact w8 u hu, fun u hu => by rw [n (by omega), n (by omega)]; exact w9 u hu, w10, fun g hg => by rw [n (by omega), n (by omega), n (by omega)]; exact w11 g hg⟩
  by_cases e : g = f
  · rw [e, setA_s]; exact hv
  · rw [n (by omega)]; exact w6 g hg
theorem WFb.law {D : Nat} {A : AP} (w : WFb D A) {v : Nat} (hv : v ≤ 24) : WFb D (setA A 1 v) := by
  have s3 := w.2.2.2.1
  have s2 := w.2.2.1
  have s0 := w.1.2
  have n : ∀ {j : Nat}, j ≠ 1 → setA A 1 v j = A j := fun q => setA_n q
  obtain ⟨w1, w2, w3, w4, w5, w6, w7, w8, w9, w10, w11⟩ := w
  unfold WFb
  rw [n (j := 0) (by omega), setA_s, n (j := 2) (by omega), n (j := 3) (by omega), n (j := 33) (by omega), n (j := 39) (by omega)]
  exact ⟨w1, hv, w3, w4, fun c hc => by rw [n (by omega)]; exact w5 c hc, fun g hg => by rw [n (by omega)]; exact w6 g hg, w7, fun u hu => by rw [n (by omega)]; exact w8 u hu, fun u hu => by rw [n (by omega), n (by omega)]; exact w9 u hu, w10, fun g hg => by rw [n (by omega), n (by omega), n (by omega)]; exact w11 g hg⟩
theorem ris_same {A B : AP} (s : A 0 ≤ 24) (h : ∀ i, i < 28 → i ≠ 1 → B i = A i) : rising B = rising A := by
  unfold rising
  rw [h 0 (by omega) (by omega)]
  refine msk_congr (fun c hc => ?_)
  rw [h (4 + (c - 1)) (by omega) (by omega), h (4 + c) (by omega) (by omega)]
theorem PapC.uKind {M M' : Mm} {b f v : Nat} {A : AP} (p : PapC M b A) (s : Sm A) (e : M' = gU M (b + 3) f (nI v)) (hf : f < A 3) : PapC M' b (setA A (28 + f) v) := by
  have s0 := s.1
  have s2 := s.2.2.1
  have s3 := s.2.2.2
  have n : ∀ {j : Nat}, j ≠ 28 + f → setA A (28 + f) v j = A j := fun q => setA_n q
  obtain ⟨⟨p7, p8, p9, p10, p11, p12, p13⟩, pf, pw, po⟩ := p
  have o : ∀ q, q ≠ b + 3 → M' q = M q := fun q hq => by rw [e, gU_cell hq]
  unfold PapC
  rw [o b (by omega), o (b + 1) (by omega), o (b + 2) (by omega), o (b + 4) (by omega), o (b + 5) (by omega), o (b + 6) (by omega), n (j := 0) (by omega), n (j := 1) (by omega), n (j := 2) (by omega), n (j := 3) (by omega), n (j := 33) (by omega), n (j := 39) (by omega), ris_same s0 (fun i hi _ => n (by omega))]
  refine ⟨⟨p7, p8, p9, p10, p11, p12, p13⟩, fun c hc => by rw [n (by omega)]; exact pf c hc, fun u hu => by rw [n (by omega)]; exact pw u hu, fun g hg => ?_⟩
  rw [n (j := 40 + g) (by omega), n (j := 45 + g) (by omega), n (j := 50 + g) (by omega)]
  refine ⟨?_, (po g hg).2⟩
  rw [e, gU_now]
  by_cases q : g = f
  · rw [if_pos q, q, setA_s]
  · rw [if_neg q, n (by omega)]; exact (po g hg).1
theorem PapC.uLaw {M M' : Mm} {b v : Nat} {A : AP} (p : PapC M b A) (s : Sm A) (e : M' = gU M b 7 (nI v)) : PapC M' b (setA A 1 v) := by
  have s0 := s.1
  have s2 := s.2.2.1
  have s3 := s.2.2.2
  have n : ∀ {j : Nat}, j ≠ 1 → setA A 1 v j = A j := fun q => setA_n q
  obtain ⟨⟨p7, p8, p9, p10, p11, p12, p13⟩, pf, pw, po⟩ := p
  have o : ∀ q, q ≠ b → M' q = M q := fun q hq => by rw [e, gU_cell hq]
  have ob : ∀ j, j ≠ 7 → M' b j = M b j := fun j hj => by rw [e, gU_place hj]
  unfold PapC
  rw [o (b + 1) (by omega), o (b + 2) (by omega), o (b + 3) (by omega), o (b + 4) (by omega), o (b + 5) (by omega), o (b + 6) (by omega), n (j := 0) (by omega), setA_s, n (j := 2) (by omega), n (j := 3) (by omega), n (j := 33) (by omega), n (j := 39) (by omega), ris_same s0 (fun i hi h1 => n h1)]
  refine ⟨⟨by rw [e, gU_same], by rw [ob 8 (by omega)]; exact p8, by rw [ob 9 (by omega)]; exact p9, by rw [ob 10 (by omega)]; exact p10, by rw [ob 11 (by omega)]; exact p11, by rw [ob 12 (by omega)]; exact p12, by rw [ob 13 (by omega)]; exact p13⟩, fun c hc => by rw [n (by omega)]; exact pf c hc, fun u hu => by rw [n (by omega)]; exact pw u hu, fun g hg => ?_⟩
  rw [n (j := 28 + g) (by omega), n (j := 40 + g) (by omega), n (j := 45 + g) (by omega), n (j := 50 + g) (by omega)]
  exact po g hg
/-- what is supposed -/
def supA (A : AP) (f t v : Nat) : AP := if t = 0 then setA A (28 + f) v else if t = 1 then setA A (40 + f) v else if t = 2 then setA A (45 + f) v else setA A 1 v
def supOk (A : AP) (t v : Nat) : Prop := (t = 0 → 1 ≤ v ∧ v ≤ 5) ∧ (t = 1 → v ≤ A 2) ∧ (t = 2 → v ≤ 1) ∧ (t = 3 → v ≤ 24)
theorem WFb.sup {D : Nat} {A : AP} (w : WFb D A) {f t v : Nat} (hf : f < A 3) (ht : t < 4) (hv : supOk A t v) : WFb D (supA A f t v) := by
  unfold supA
  by_cases h0 : t = 0
  · rw [if_pos h0]; exact w.kind hf (hv.1 h0)
  · rw [if_neg h0]
    by_cases h1 : t = 1
    · rw [if_pos h1]; exact w.house hf (hv.2.1 h1)
    · rw [if_neg h1]
      by_cases h2 : t = 2
      · rw [if_pos h2]; exact w.way hf (hv.2.2.1 h2)
      · rw [if_neg h2]; exact w.law (hv.2.2.2 (by omega))
theorem sup_3 {A : AP} {f t v i : Nat} (s : f < 5) (hi : i = 0 ∨ i = 2 ∨ i = 3) : supA A f t v i = A i := by
  unfold supA
  by_cases h0 : t = 0
  · rw [if_pos h0, setA_n (by omega)]
  · rw [if_neg h0]
    by_cases h1 : t = 1
    · rw [if_pos h1, setA_n (by omega)]
    · rw [if_neg h1]
      by_cases h2 : t = 2
      · rw [if_pos h2, setA_n (by omega)]
      · rw [if_neg h2, setA_n (by omega)]
theorem s_suppose {M : Mm} {A : AP} (p : PapC M 56 A) (s : Sm A) {f t v : Nat} (hf : f < A 3) (ht : t < 4) {K : Mm → Prop} (h : ∀ M' : Mm, (∀ q, ¬ (56 ≤ q ∧ q ≤ 62) → M' q = M q) → PapC M' 56 (supA A f t v) → K M') : f_X4_suppose (nI f) (nI t) (nI v) M K := by
  have s3 := s.2.2.2
  have v5 : vp_in (nI f) 5 := vp_nI (by omega) (by decide)
  have d : ∀ n, n < 4 → ((nI t = nI n) = (t = n)) := fun n hn => nI_ne (by omega) (by omega)
  have z1 : (1 : Int32) = nI 1 := rfl
  have z2 : (2 : Int32) = nI 2 := rfl
  have z0 : (0 : Int32) = nI 0 := rfl
  unfold f_X4_suppose
  rw [nI_cl (by omega), z0, z1, z2, d 0 (by omega), d 1 (by omega), d 2 (by omega)]
  unfold supA at h
  refine br_c (fun q => ⟨v5, fun M3 e3 => ?_⟩) (fun q => br_c (fun q1 => ⟨v5, fun M3 e3 => ?_⟩) (fun q1 => br_c (fun q2 => ⟨v5, fun M3 e3 => ?_⟩) (fun q2 M3 e3 => ?_)))
  · rw [if_pos q] at h
    exact h M3 (fun q hq => by rw [e3, gU_cell (by omega)]) (p.uKind s e3 hf)
  · rw [if_neg q, if_pos q1] at h
    exact h M3 (fun q hq => by rw [e3, gU_cell (by omega)]) (p.uHouse s e3 hf)
  · rw [if_neg q, if_neg q1, if_pos q2] at h
    exact h M3 (fun q hq => by rw [e3, gU_cell (by omega)]) (p.uWay s e3 hf)
  · rw [if_neg q, if_neg q1, if_neg q2] at h
    exact h M3 (fun q hq => by rw [e3, gU_cell (by omega)]) (p.uLaw s e3)
def fitB (A : AP) (f : Nat) (R : Nat → Int32) (i n : Nat) : Bool := decide (∀ k, k < n → nI (bc (onIt A f (k + 1) (50 + f)) 24) = R (i + k))
theorem s_came {D f r i n : Nat} {M : Mm} {A : AP} (p : PapC M 56 A) (w : WFb D A) (hD : D + n ≤ 1000000) (hf : f < A 3) (hr : r + 1 < 56) (hi : i + n ≤ 40) {K : Int32 → Mm → Prop} (h : ∀ M' : Mm, (∀ q, ¬ (56 ≤ q ∧ q ≤ 62) → M' q = M q) → K (if fitB A f (M (r + 1)) i n = true then 1 else 0) M') : f_X4_cameToKnow (nI f) r (nI i) (nI n) M K := by
  have s3 := w.2.2.2.1
  have L : ∀ (j k : Nat) (M1 : Mm), k + j = n → (∀ q, ¬ (56 ≤ q ∧ q ≤ 62) → M1 q = M q) → PapC M1 56 (onIt A f k) → (∀ q, q < k → nI (bc (onIt A f (q + 1) (50 + f)) 24) = M (r + 1) (i + q)) → l_X4_cameToKnow_3 K (nI f) r (nI i) (nI n) (j + 1) (nI k) M1 := by
    intro j
    induction j with
    | zero =>
      intro k M1 hk h1 p1 hq
      have hK := h M1 h1
      rw [if_pos (show fitB A f (M (r + 1)) i n = true from decide_eq_true (fun q h2 => hq q (by omega)))] at hK
      rw [l_X4_cameToKnow_3]
      exact br_t (by rw [le_I, nI_I (by omega), nI_I (by omega)]; omega) hK
    | succ j ih =>
      intro k M1 hk h1 p1 hq
      have e3 : onIt A f k 3 = A 3 := onIt_told k 3 (by omega)
      rw [l_X4_cameToKnow_3, nI_1, nI_add, nI_cl (by omega), nI_cl (by omega)]
      refine br_f (by rw [le_I, nI_I (by omega), nI_I (by omega)]; omega) (s_one p1 (w.onIt hf k) (by omega) (by rw [e3]; exact hf) (fun M2 h2 p2 => ?_))
      have wn := w.onIt hf (k + 1)
      have e3' : onIt A f (k + 1) 3 = A 3 := onIt_told (k + 1) 3 (by omega)
      have kn := pow24 (wn.2.2.2.2.2.2.2.2.2.2 f (by rw [e3']; exact hf)).2.2 wn.1.2
      have p2' : PapC M2 56 (onIt A f (k + 1)) := p2
      have fr : ∀ q, ¬ (56 ≤ q ∧ q ≤ 62) → M2 q = M q := fun q hq => by rw [h2 q hq]; exact h1 q hq
      rw [(p2'.2.2.2 f (by rw [e3']; exact hf)).2.2.2, e_bitCount kn, fr (r + 1) (by omega)]
      refine ⟨vp_nI (by omega) (by decide), vp_nI (by omega) (by decide), br_c (fun z => ih (k + 1) M2 (by omega) fr p2' (fun q h3 => ?_)) (fun z => ?_)⟩
      · by_cases e : q = k
        · rw [e]; exact z
        · exact hq q (by omega)
      · have hK := h M2 fr
        rw [if_neg (show ¬ fitB A f (M (r + 1)) i n = true from fun y => z (of_decide_eq_true y k (by omega)))] at hK
        exact hK
  exact ⟨n + 1, L n 0 M (by omega) (fun _ _ => rfl) p (fun q hq => by omega)⟩
/-- the guesses that fit, as bits, from lo on -/
def fitS (t : Nat → Bool) (lo : Nat) : Nat → Nat
  | 0 => 0
  | j + 1 => fitS t lo j ||| (if t (lo + j) = true then 2 ^ (lo + j) else 0)
def hiG (A : AP) (t : Nat) : Nat := if t = 0 then 5 else if t = 1 then A 2 else if t = 2 then 1 else 24
def loG (t : Nat) : Nat := if t = 0 then 1 else 0
theorem sup_ok {A : AP} {t v : Nat} (h1 : loG t ≤ v) (h2 : v ≤ hiG A t) : supOk A t v := by
  unfold loG at h1
  unfold hiG at h2
  refine ⟨fun e => ?_, fun e => ?_, fun e => ?_, fun e => ?_⟩
  · rw [if_pos e] at h1 h2; omega
  · rw [if_neg (by omega), if_pos e] at h2; exact h2
  · rw [if_neg (by omega), if_neg (by omega), if_pos e] at h2; exact h2
  · rw [if_neg (by omega), if_neg (by omega), if_neg (by omega)] at h2; exact h2
theorem lo_hi' {A : AP} (t : Nat) : loG t ≤ hiG A t + 1 := by
  unfold loG hiG
  by_cases h0 : t = 0
  · rw [if_pos h0, if_pos h0]; omega
  · rw [if_neg h0]; omega
theorem hi_le {A : AP} (s2 : A 2 ≤ 5) (t : Nat) : hiG A t ≤ 24 := by
  unfold hiG
  split
  · omega
  · split
    · omega
    · split <;> omega
def fitT (A : AP) (f t : Nat) (R : Nat → Int32) (i n v : Nat) : Bool := fitB (supA A f t v) f R i n
theorem s_whichFit {f r i n t : Nat} {M : Mm} {A : AP} (pc : PapC M 26 A) (w : WF A) (hf : f < A 3) (hr : r + 1 < 26) (hi : i + n ≤ 40) (ht : t < 4) {K : Int32 → Mm → Prop} (h : ∀ M' : Mm, (∀ q, ¬ (56 ≤ q ∧ q ≤ 62) → M' q = M q) → K (nI (fitS (fitT A f t (M (r + 1)) i n) (loG t) (hiG A t + 1 - loG t))) M') : f_X4_whichFit (nI f) r (nI i) (nI n) (nI t) M K := by
  have s3 := w.2.2.2.1
  have s2 := w.2.2.1
  have hl := lo_hi' (A := A) t
  have hh := hi_le s2 t
  have d : ∀ n, n < 4 → ((nI t = nI n) = (t = n)) := fun n hn => nI_ne (by omega) (by omega)
  have z1 : (1 : Int32) = nI 1 := rfl
  have z2 : (2 : Int32) = nI 2 := rfl
  have z0 : (0 : Int32) = nI 0 := rfl
  have hg : ∀ (M1 : Mm) (K1 : Int32 → Mm → Prop), M1 26 9 = nI (A 2) → K1 (nI (hiG A t)) M1 → f_X4_greatestGuess (nI t) M1 K1 := by
    intro M1 K1 m9 hk
    unfold f_X4_greatestGuess
    unfold hiG at hk
    rw [m9, z0, z2]
    have d1 : (nI t = (1 : Int32)) = (t = 1) := d 1 (by omega)
    rw [d 0 (by omega), d 2 (by omega), d1]
    refine br_c (fun q => ?_) (fun q => br_c (fun q1 => ?_) (fun q1 => br_c (fun q2 => ?_) (fun q2 => ?_)))
    · rw [if_pos q] at hk; exact hk
    · rw [if_neg q, if_pos q1] at hk; exact hk
    · rw [if_neg q, if_neg q1, if_pos q2] at hk; exact hk
    · rw [if_neg q, if_neg q1, if_neg q2] at hk; exact hk
  have L : ∀ (j m : Nat) (M1 : Mm), m + j = hiG A t + 1 - loG t → (∀ q, ¬ (56 ≤ q ∧ q ≤ 62) → M1 q = M q) → l_X4_whichFit_10 K (nI f) r (nI i) (nI n) (nI t) (j + 1) (nI (fitS (fitT A f t (M (r + 1)) i n) (loG t) m)) (nI (loG t + m)) M1 := by
    intro j
    induction j with
    | zero =>
      intro m M1 hm h1
      rw [l_X4_whichFit_10]
      refine hg M1 _ (by rw [h1 26 (by omega)]; exact pc.1.2.2.1) ?_
      have hK := h M1 h1
      rw [← show m = hiG A t + 1 - loG t by omega] at hK
      exact br_t (by rw [lt_I, nI_I (by omega), nI_I (by omega)]; omega) hK
    | succ j ih =>
      intro m M1 hm h1
      rw [l_X4_whichFit_10]
      refine hg M1 _ (by rw [h1 26 (by omega)]; exact pc.1.2.2.1) ?_
      refine br_f (by rw [lt_I, nI_I (by omega), nI_I (by omega)]; omega) (s_become (by omega) (pc.congr (fun k _ _ => h1 k (by omega))) w.sm (fun M2 h2 p2 => s_suppose p2 w.sm hf ht (fun M3 h3 p3 => ?_)))
      have fr3 : ∀ q, ¬ (56 ≤ q ∧ q ≤ 62) → M3 q = M q := fun q hq => by rw [h3 q hq, h2 q (by omega)]; exact h1 q hq
      have sw := w.sup hf ht (sup_ok (A := A) (t := t) (v := loG t + m) (by omega) (by omega))
      refine s_came p3 sw (by omega) (by rw [sup_3 (by omega) (by omega)]; exact hf) (by omega) hi (fun M4 h4 => ?_)
      have fr4 : ∀ q, ¬ (56 ≤ q ∧ q ≤ 62) → M4 q = M q := fun q hq => by rw [h4 q hq]; exact fr3 q hq
      have nx := ih (m + 1) M4 (by omega) fr4
      rw [fr3 (r + 1) (by omega), nI_1, nI_shl1 (by omega), nI_or]
      unfold fitS at nx
      by_cases q : fitT A f t (M (r + 1)) i n (loG t + m) = true
      · rw [if_pos q] at nx
        rw [if_pos (show fitB (supA A f t (loG t + m)) f (M (r + 1)) i n = true from q)]
        exact br_f (by decide) nx
      · rw [if_neg q, Nat.or_zero] at nx
        rw [if_neg (show ¬ fitB (supA A f t (loG t + m)) f (M (r + 1)) i n = true from q)]
        exact br_t rfl nx
  unfold f_X4_whichFit f_X4_leastGuess
  have lz : loG t = if t = 0 then 1 else 0 := rfl
  have go := L (hiG A t + 1 - loG t) 0 M (by omega) (fun _ _ => rfl)
  have d0 : (nI t = (0 : Int32)) = (t = 0) := d 0 (by omega)
  rw [d0]
  refine br_c (fun q => ?_) (fun q => ?_)
  · rw [lz, if_pos q] at go; exact ⟨_, go⟩
  · rw [lz, if_neg q] at go; exact ⟨_, go⟩
/-- the reference's state beside a supposed one -/
def RgS (A : AP) (A' : AP) (f n : Nat) (M : Mm) : Prop := ∃ B : AP, PapR (M 7) (M 10) B ∧ WFb (9999 + n) B ∧ Told A B ∧ Sf f (onIt A' f n) B
theorem s_isSo {A A' : AP} {f r i n k law : Nat} {M : Mm} {R : Nat → Int32} (w : WF A) (w' : WF A') (hf : f < A 3) (hf' : A' 3 = A 3) (hk : A' (28 + f) = k) (hl : A' 1 = law) (hr : r < 8) (hi : i + n ≤ 40) (hR : ∀ k, k < 40 → R k = M 3 (40 * r + k)) (h0 : RgS A A' f 0 M) {K : Int32 → Mm → Prop} (h : ∀ M' : Mm, (∀ q, q ≠ 10 → M' q = M q) → K (if fitB A' f R i n = true then 1 else 0) M') : f_X12_isSo (nI f) (nI k) (nI law) (nI (40 * r + i)) (nI n) M K := by
  have s3 := w.2.2.2.1
  have L : ∀ (j m : Nat) (v : Int32) (M1 : Mm), m + j = n → (∀ q, q ≠ 10 → M1 q = M q) → RgS A A' f m M1 → ((v = 1 ∧ ∀ q, q < m → nI (bc (onIt A' f (q + 1) (50 + f)) 24) = R (i + q)) ∨ (v = 0 ∧ fitB A' f R i n = false)) → l_X12_isSo_6 K (nI f) (nI k) (nI law) (nI (40 * r + i)) (nI n) (j + 1) v (nI m) M1 := by
    intro j
    induction j with
    | zero =>
      intro m v M1 hm h1 p1 hv
      have hK := h M1 h1
      rw [l_X12_isSo_6]
      refine br_t (by rw [le_I, nI_I (by omega), nI_I (by omega)]; omega) ?_
      rcases hv with ⟨rfl, hq⟩ | ⟨rfl, hq⟩
      · rw [if_pos (show fitB A' f R i n = true from decide_eq_true (fun q h2 => hq q (by omega)))] at hK
        exact ⟨Or.inr rfl, hK⟩
      · rw [if_neg (by rw [hq]; decide)] at hK
        exact ⟨Or.inl rfl, hK⟩
    | succ j ih =>
      intro m v M1 hm h1 p1 hv
      obtain ⟨B, p, wB, tB, s⟩ := p1
      have e3 : onIt A' f m 3 = A 3 := by rw [onIt_told m 3 (by omega), hf']
      have e28 : onIt A' f m (28 + f) = k := by rw [onIt_told m (28 + f) (by omega), hk]
      have e1 : onIt A' f m 1 = law := by rw [onIt_told m 1 (by omega), hl]
      have b3 : B 3 = A 3 := tB 3 (by omega)
      have wo := WFb.onIt w' (by rw [hf']; exact hf) m
      have hk5 : 1 ≤ k ∧ k ≤ 5 := by rw [← hk]; exact w'.2.2.2.2.2.1 f (by rw [hf']; exact hf)
      have hl24 : law ≤ 24 := by rw [← hl]; exact w'.2.1
      rw [l_X12_isSo_6, nI_1]
      refine br_f (by rw [le_I, nI_I (by omega), nI_I (by omega)]; omega) (s_passBy (Or.inr rfl) p wB (by omega) (fun g => if g = f then k else A (28 + g)) law hl24 _ _ (fun g hg => ?_) (fun M2 h2 p2 => ?_))
      · show (1 ≤ (if g = f then k else A (28 + g)) ∧ (if g = f then k else A (28 + g)) ≤ 5) ∧ (nI g = nI f → nI k = nI (if g = f then k else A (28 + g))) ∧ (¬ nI g = nI f → B (28 + g) = (if g = f then k else A (28 + g)))
        rw [nI_ne (by omega) (by omega)]
        by_cases e : g = f
        · rw [if_pos e]
          exact ⟨hk5, fun _ => rfl, fun q => absurd e q⟩
        · rw [if_neg e]
          exact ⟨w.2.2.2.2.2.1 g (by omega), fun q => absurd q e, fun _ => tB (28 + g) (by omega)⟩
      · have r2 : RgS A A' f (m + 1) M2 := by
          refine ⟨_, p2, wB.dayA _ _ (by have := wB.2.2.2.2.2.2.1; omega), tB.trans day_told, ?_⟩
          show Sf f (endA (walkA (onIt A' f m) f (onIt A' f m (28 + f))) (onIt A' f m 1)) _
          rw [e1, e28]
          exact sf_day s wo.sm wB.sm (by rw [e3]; exact hf) (if_pos rfl)
        have fr : ∀ q, q ≠ 10 → M2 q = M q := fun q hq => by rw [h2 q hq]; exact h1 q hq
        have kn : M2 10 (17 + f) = nI (onIt A' f (m + 1) (50 + f)) := by
          obtain ⟨B2, q2, _, _, t2⟩ := r2
          rw [q2.2 (17 + f) (by omega), show 33 + (17 + f) = 50 + f by omega, t2.2.2.2]
        have wn := WFb.onIt w' (f := f) (by rw [hf']; exact hf) (m + 1)
        have e3' : onIt A' f (m + 1) 3 = A 3 := by rw [onIt_told (m + 1) 3 (by omega), hf']
        have k24 := pow24 (wn.2.2.2.2.2.2.2.2.2.2 f (by rw [e3']; exact hf)).2.2 wn.1.2
        rw [c_add (c := 17) (n := 17) rfl, nI_add, nI_cl (by omega), nI_cl (by omega), kn]
        rcases hv with ⟨rfl, hq⟩ | ⟨rfl, hq⟩
        · refine br_f (by decide) ⟨vp_nI (by omega) (by decide), e_bitsOf k24 _ _ ?_⟩
          rw [fr 3 (by omega), show M 3 (40 * r + i + m) = R (i + m) by rw [hR (i + m) (by omega), Nat.add_assoc]]
          refine ⟨vp_nI (by omega) (by decide), br_c (fun z => ih (m + 1) 1 M2 (by omega) fr r2 (Or.inl ⟨rfl, fun q h3 => ?_⟩)) (fun z => ih (m + 1) 0 M2 (by omega) fr r2 (Or.inr ⟨rfl, decide_eq_false (fun y => z (y m (by omega)))⟩))⟩
          by_cases e : q = m
          · rw [e]; exact z
          · exact hq q (by omega)
        · exact br_t rfl (ih (m + 1) 0 M2 (by omega) fr r2 (Or.inr ⟨rfl, hq⟩))
  exact ⟨n + 1, L n 0 1 M (by omega) (fun _ _ => rfl) h0 (Or.inl ⟨rfl, fun q hq => by omega⟩)⟩
theorem s_rfits {A : AP} {f r i n t : Nat} {M : Mm} {R : Nat → Int32} (pr : PapR (M 7) (M 9) A) (w : WF A) (hf : f < A 3) (hr : r < 8) (hi : i + n ≤ 40) (ht : t < 4) (hR : ∀ k, k < 40 → R k = M 3 (40 * r + k)) {K : Int32 → Mm → Prop} (h : ∀ M' : Mm, (∀ q, q ≠ 10 → M' q = M q) → K (nI (fitS (fitT A f t R i n) (loG t) (hiG A t + 1 - loG t))) (gU M' 0 4 0)) : ∃ z, l_X12_fits_130 K (nI f) (nI r) (nI i) (nI n) (nI t) (nI (hiG A t)) z 0 (nI (loG t)) M := by
  have s3 := w.2.2.2.1
  have s2 := w.2.2.1
  have hl := lo_hi' (A := A) t
  have hh := hi_le s2 t
  have d : ∀ n, n < 4 → ((nI t = nI n) = (t = n)) := fun n hn => nI_ne (by omega) (by omega)
  have d0 : (nI t = (0 : Int32)) = (t = 0) := d 0 (by omega)
  have d1 : (nI t = (1 : Int32)) = (t = 1) := d 1 (by omega)
  have d2 : (nI t = (2 : Int32)) = (t = 2) := d 2 (by omega)
  have d3 : (nI t = (3 : Int32)) = (t = 3) := d 3 (by omega)
  have L : ∀ (j m : Nat) (M1 : Mm), m + j = hiG A t + 1 - loG t → (∀ q, q ≠ 10 → M1 q = M q) → l_X12_fits_130 K (nI f) (nI r) (nI i) (nI n) (nI t) (nI (hiG A t)) (j + 1) (nI (fitS (fitT A f t R i n) (loG t) m)) (nI (loG t + m)) M1 := by
    intro j
    induction j with
    | zero =>
      intro m M1 hm h1
      rw [l_X12_fits_130, e_well]
      have hK := h M1 h1
      rw [← show m = hiG A t + 1 - loG t by omega] at hK
      exact br_t (by rw [lt_I, nI_I (by omega), nI_I (by omega)]; omega) hK
    | succ j ih =>
      intro m M1 hm h1
      have pr1 : PapR (M1 7) (M1 9) A := by rw [h1 7 (by omega), h1 9 (by omega)]; exact pr
      have ok := sup_ok (A := A) (t := t) (v := loG t + m) (by omega) (by omega)
      have sw := w.sup hf ht ok
      -- from the ask on
      have l213 : ∀ M2 : Mm, (∀ q, q ≠ 10 → M2 q = M q) → RgS A (supA A f t (loG t + m)) f 0 M2 → f_X12_fits_213 K (fun a0 a1 a => l_X12_fits_130 K (nI f) (nI r) (nI i) (nI n) (nI t) (nI (hiG A t)) (j + 1) a0 a1 a) (nI f) (nI r) (nI i) (nI n) (nI t) (nI (hiG A t)) (nI (fitS (fitT A f t R i n) (loG t) m)) (nI (loG t + m)) (nI (supA A f t (loG t + m) (28 + f))) (nI (supA A f t (loG t + m) 1)) M2 := by
        intro M2 h2 r2
        unfold f_X12_fits_213
        rw [ix2 (c := 40) 40 r i rfl]
        refine s_isSo (R := R) w sw hf (sup_3 (by omega) (by omega)) rfl rfl hr hi (fun k hk => by rw [h2 3 (by omega)]; exact hR k hk) r2 (fun M3 h3 => ?_)
        have nx := ih (m + 1) M3 (by omega) (fun q hq => by rw [h3 q hq]; exact h2 q hq)
        rw [nI_1, nI_shl1 (by omega), nI_or, show (0 : Int32) = nI 0 from rfl, nI_or]
        unfold fitS at nx
        by_cases q : fitT A f t R i n (loG t + m) = true
        · rw [if_pos q] at nx
          rw [if_pos (show fitB (supA A f t (loG t + m)) f R i n = true from q)]
          exact br_f (by decide) nx
        · rw [if_neg q] at nx
          rw [if_neg (show ¬ fitB (supA A f t (loG t + m)) f R i n = true from q)]
          exact br_t rfl nx
      have l175 : ∀ M2 : Mm, (∀ q, q ≠ 10 → M2 q = M q) → RgS A (supA A f t (loG t + m)) f 0 M2 → f_X12_fits_175 K (fun a0 a1 a => l_X12_fits_130 K (nI f) (nI r) (nI i) (nI n) (nI t) (nI (hiG A t)) (j + 1) a0 a1 a) (nI f) (nI r) (nI i) (nI n) (nI t) (nI (hiG A t)) (nI (fitS (fitT A f t R i n) (loG t) m)) (nI (loG t + m)) M2 := by
        intro M2 h2 r2
        have go := l213 M2 h2 r2
        have t28 : M2 7 (28 + f) = nI (A (28 + f)) := by rw [h2 7 (by omega)]; exact pr.1 (28 + f) (by omega)
        have t1 : M2 7 (1 : Int32).toNatClampNeg = nI (A 1) := by rw [h2 7 (by omega)]; exact pr.1 1 (by omega)
        unfold f_X12_fits_175 f_X12_fits_194
        rw [d0, d3, c_add (c := 28) (n := 28) rfl, nI_cl (by omega), t28, t1]
        refine br_c (fun q => br_f (by omega) ?_) (fun q => ⟨vp_nI (by omega) (by decide), br_c (fun q3 => ?_) (fun q3 => ?_)⟩)
        · have e1 : supA A f t (loG t + m) (28 + f) = loG t + m := by unfold supA; rw [if_pos q, setA_s]
          have e2 : supA A f t (loG t + m) 1 = A 1 := by unfold supA; rw [if_pos q, setA_n (by omega)]
          rw [e1, e2] at go
          exact go
        · have e1 : supA A f t (loG t + m) (28 + f) = A (28 + f) := by unfold supA; rw [if_neg q, if_neg (by omega), if_neg (by omega), setA_n (by omega)]
          have e2 : supA A f t (loG t + m) 1 = loG t + m := by unfold supA; rw [if_neg q, if_neg (by omega), if_neg (by omega), setA_s]
          rw [e1, e2] at go
          exact go
        · have e1 : supA A f t (loG t + m) (28 + f) = A (28 + f) := by
            unfold supA
            rw [if_neg q]
            by_cases y : t = 1
            · rw [if_pos y, setA_n (by omega)]
            · rw [if_neg y, if_pos (by omega), setA_n (by omega)]
          have e2 : supA A f t (loG t + m) 1 = A 1 := by
            unfold supA
            rw [if_neg q]
            by_cases y : t = 1
            · rw [if_pos y, setA_n (by omega)]
            · rw [if_neg y, if_pos (by omega), setA_n (by omega)]
          rw [e1, e2] at go
          exact go
      have tl1 : ∀ {j v : Nat}, 33 ≤ j → Told A (setA A j v) := fun hj => Told.set hj
      rw [l_X12_fits_130]
      refine br_f (by rw [lt_I, nI_I (by omega), nI_I (by omega)]; omega) (s_take pr1 (fun M2 h2 p2 => ?_))
      have fr2 : ∀ q, q ≠ 10 → M2 q = M q := fun q hq => by rw [h2 q hq]; exact h1 q hq
      unfold f_X12_fits_158
      rw [d1, d2, c_add (c := 7) (n := 7) rfl, c_add (c := 12) (n := 12) rfl, nI_cl (by omega), nI_cl (by omega)]
      refine br_c (fun q1 => ⟨vp_nI (by omega) (by decide), fun M3 e3 => br_f (by omega) ?_⟩) (fun q1 => br_c (fun q2 => ⟨vp_nI (by omega) (by decide), fun M3 e3 => ?_⟩) (fun q2 => ?_))
      · have es : supA A f t (loG t + m) = setA A (40 + f) (loG t + m) := by unfold supA; rw [if_neg (by omega), if_pos q1]
        refine l175 M3 (fun q hq => by rw [e3, gU_cell hq]; exact fr2 q hq) ⟨supA A f t (loG t + m), ?_, sw, by rw [es]; exact tl1 (by omega), Sf.rfl'⟩
        rw [es, show M3 7 = M2 7 by rw [e3, gU_cell (by omega)], show 40 + f = 33 + (7 + f) by omega]
        exact p2.up (by omega) (fun i => by rw [e3, gU_now])
      · have es : supA A f t (loG t + m) = setA A (45 + f) (loG t + m) := by unfold supA; rw [if_neg (by omega), if_neg q1, if_pos q2]
        refine l175 M3 (fun q hq => by rw [e3, gU_cell hq]; exact fr2 q hq) ⟨supA A f t (loG t + m), ?_, sw, by rw [es]; exact tl1 (by omega), Sf.rfl'⟩
        rw [es, show M3 7 = M2 7 by rw [e3, gU_cell (by omega)], show 45 + f = 33 + (12 + f) by omega]
        exact p2.up (by omega) (fun i => by rw [e3, gU_now])
      · refine l175 M2 fr2 ⟨A, p2, w, Told.rfl', ?_⟩
        show Sf f (supA A f t (loG t + m)) A
        unfold supA
        by_cases y : t = 0
        · rw [if_pos y]
          exact ⟨fun i hi h1 h28 => by rw [setA_n (by omega)], by rw [setA_n (by omega)], by rw [setA_n (by omega)], by rw [setA_n (by omega)]⟩
        · rw [if_neg y, if_neg q1, if_neg q2]
          exact ⟨fun i hi h1 h28 => by rw [setA_n (by omega)], by rw [setA_n (by omega)], by rw [setA_n (by omega)], by rw [setA_n (by omega)]⟩
  have go := L (hiG A t + 1 - loG t) 0 M (by omega) (fun _ _ => rfl)
  exact ⟨_, go⟩
theorem op_fits {Mc Mr : Mm} (hI : Inv Mc Mr) (a b c d e : Int32) : f_X11_fits a b c d e Mc (fun r Mc' => f_X12_fits a b c d e Mr (fun r' Mr' => r = r' ∧ Inv Mc' Mr')) := by
  obtain ⟨hrows, -, -, -, -, A, hC, hR, -, -, -, hr⟩ := id hI
  have s := hr.sm
  have s3 := s.2.2.2
  have e0 : (0 : Int32).toInt = 0 := rfl
  have e1 : (1 : Int32).toInt = 1 := rfl
  have e3 : (3 : Int32).toInt = 3 := rfl
  have e12 : (12 : Int32).toInt = 12 := rfl
  simp only [f_X11_fits, f_X12_fits, e_hasFolk hC s, e_isOne hR hr, e_rowAt, e_isRow, e_in, br_eq, b2i_0, lt_I, le_I, e0, e1, e3, e12, e_missing, e_found, e_rfound, e_sound]
  by_cases hb : 0 ≤ b.toInt ∧ b.toInt < 8
  · simp only [if_neg (not_not_intro hb), if_pos hb, reduceCtorEq, false_implies, true_and, Option.some.injEq, forall_eq']
    by_cases ha : 0 ≤ a.toInt ∧ a.toInt < A 3
    · simp only [if_neg (not_not_intro ha)]
      by_cases hd : 1 ≤ d.toInt ∧ d.toInt ≤ 12
      · simp only [if_neg (not_not_intro hd), if_neg (show ¬ d.toInt < 1 by omega), if_neg (show ¬ 12 < d.toInt by omega)]
        by_cases he : 0 ≤ e.toInt ∧ e.toInt ≤ 3
        · simp only [if_neg (not_not_intro he), if_neg (show ¬ e.toInt < 0 by omega), if_pos he.2]
          obtain ⟨f, hf, rfl⟩ := of_arg (n := A 3) (a := a) (by omega) ha
          obtain ⟨r, hr8, rfl⟩ := of_arg (n := 8) (a := b) (by decide) hb
          obtain ⟨n, hn, rfl⟩ := of_arg (n := 13) (a := d) (by decide) (by omega)
          obtain ⟨t, ht, rfl⟩ := of_arg (n := 4) (a := e) (by decide) (by omega)
          have w := hr.of3 hf
          have cr : (nI r).toNatClampNeg = r := nI_cl (by omega)
          have vr : vp_in (nI r) 8 := vp_nI hr8 (by decide)
          simp only [cr, vr, true_and]
          refine ⟨by unfold isRow; omega, ?_⟩
          rcases hrows r hr8 with ⟨m1, m2⟩ | ⟨L, S, hL, hS, m1, m2, m3, m4, m5⟩
          · simp only [m1, m2, not_true, if_true, if_false]
            first | exact hI.find 1 | exact ⟨trivial, hI.find 1⟩
          · have n1 : ¬ (nI L = (-1 : Int32)) := by rw [nI_neg (by omega) (by decide)]; exact id
            have n2 : ¬ (nI L = (-1000000 : Int32)) := by rw [nI_neg (by omega) (by decide)]; exact id
            simp only [m1, m2, if_pos n1, if_neg n2, e_has c (nI n) m3 hS, e_isIn hr8 c (nI n) m4 hS, b2i_0]
            by_cases hc : 0 ≤ c.toInt ∧ 0 ≤ (nI n).toInt ∧ c.toInt + (nI n).toInt ≤ S
            · simp only [if_neg (not_not_intro hc)]
              rw [nI_I (by omega)] at hc
              obtain ⟨i, hi, rfl⟩ := of_arg (n := 41) (a := c) (by decide) (by omega)
              rw [nI_I (by omega)] at hc
              have t2 : Mr 7 (2 : Int32).toNatClampNeg = nI (A 2) := hR.1 2 (by omega)
              have d : ∀ n, n < 4 → ((nI t = nI n) = (t = n)) := fun n hn => nI_ne (by omega) (by omega)
              have d0 : (nI t = (0 : Int32)) = (t = 0) := d 0 (by omega)
              have d1 : (nI t = (1 : Int32)) = (t = 1) := d 1 (by omega)
              have d2 : (nI t = (2 : Int32)) = (t = 2) := d 2 (by omega)
              refine s_whichFit hC w hf (by omega) (by omega) ht (fun M1 h1 => ?_)
              have go := s_rfits (K := fun r' Mr' => nI (fitS (fitT A f t (Mc (2 + 2 * r + 1)) i n) (loG t) (hiG A t + 1 - loG t)) = r' ∧ Inv (gU M1 0 11 0) Mr') hR w hf hr8 (show i + n ≤ 40 by omega) ht m5 (fun M2 h2 => ⟨rfl, (hI.scr (Mc' := M1) (Mr' := M2) (fun k _ _ => h1 k (by omega)) (fun k _ _ _ q _ => h2 k q)).find 0⟩)
              have lz : loG t = if t = 0 then 1 else 0 := rfl
              have hz : hiG A t = if t = 0 then 5 else if t = 1 then A 2 else if t = 2 then 1 else 24 := rfl
              simp only [d0]
              unfold f_X12_fits_83 f_X12_fits_121
              simp only [br_eq, d0, d1, d2, t2]
              by_cases q0 : t = 0
              · simp only [if_pos q0]
                rw [lz, hz, if_pos q0, if_pos q0] at go
                rw [lz, hz, if_pos q0, if_pos q0]
                exact go
              · simp only [if_neg q0]
                rw [lz, if_neg q0] at go
                rw [lz, if_neg q0]
                by_cases q1 : t = 1
                · simp only [if_pos q1]
                  rw [hz, if_neg q0, if_pos q1] at go
                  rw [hz, if_neg q0, if_pos q1]
                  exact go
                · simp only [if_neg q1]
                  by_cases q2 : t = 2
                  · simp only [if_pos q2]
                    rw [hz, if_neg q0, if_neg q1, if_pos q2] at go
                    rw [hz, if_neg q0, if_neg q1, if_pos q2]
                    exact go
                  · simp only [if_neg q2]
                    rw [hz, if_neg q0, if_neg q1, if_neg q2] at go
                    rw [hz, if_neg q0, if_neg q1, if_neg q2]
                    exact go
            · simp only [if_pos hc]
              first | exact hI.find 2 | exact ⟨trivial, hI.find 2⟩
        · simp only [if_pos he]
          by_cases he1 : e.toInt < 0
          · simp only [if_pos he1]; first | exact hI | exact ⟨trivial, hI⟩
          · simp only [if_neg he1, if_neg (show ¬ e.toInt ≤ 3 by omega)]; first | exact hI | exact ⟨trivial, hI⟩
      · simp only [if_pos hd]
        by_cases hd1 : d.toInt < 1
        · simp only [if_pos hd1]; first | exact hI | exact ⟨trivial, hI⟩
        · simp only [if_neg hd1, if_pos (show 12 < d.toInt by omega)]; first | exact hI | exact ⟨trivial, hI⟩
    · simp only [if_pos ha]; first | exact hI | exact ⟨trivial, hI⟩
  · simp only [if_pos hb, if_neg hb]
    simp
    exact hI
