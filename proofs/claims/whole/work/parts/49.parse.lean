abbrev Ou : Type := Nat × Nat × AP
def eO (X : Nat → Nat) (T c p : Nat) (A : AP) : Ou := if tkn X T p = c then (0, p + 1, A) else (1, p, A)
def nO (X : Nat → Nat) (T lo hi p : Nat) (A : AP) : Ou := if tkn X T p = 257 then (if lo ≤ vl X T p ∧ vl X T p ≤ hi then (0, p + wd X T p, A) else (2, p, A)) else (1, p, A)
def bnd (o : Ou) (k : Nat → AP → Ou) : Ou := if o.1 = 0 then k o.2.1 o.2.2 else o
def lawO (X : Nat → Nat) (T p : Nat) (A : AP) : Ou := bnd (eO X T 113 p A) (fun p1 A1 => bnd (nO X T 0 24 p1 A1) (fun p2 A2 => eO X T 59 p2 (setA A2 1 (vl X T p1))))
def figA (A : AP) (v : Nat) : AP := setA (setA A (4 + A 0) v) 0 (A 0 + 1)
def picL (X : Nat → Nat) (T : Nat) : Nat → Nat → AP → Ou
  | 0, p, A => (0, p, A)
  | n + 1, p, A => if 97 ≤ tkn X T p ∧ tkn X T p ≤ 106 then (if A 0 = 24 then (3, p, A) else picL X T n (p + 1) (figA A (tkn X T p - 97))) else (if A 0 < 6 then (1, p, A) else eO X T 59 p A)
def picO (X : Nat → Nat) (T p : Nat) (A : AP) : Ou := bnd (eO X T 112 p A) (fun p1 A1 => picL X T (25 - A1 0) p1 A1)
def loW (A : AP) : Nat := if A 2 = 0 then 1 else A (34 + (A 2 - 1)) + 1
def wallA (A : AP) (v : Nat) : AP := setA (setA A (34 + A 2) v) 2 (A 2 + 1)
def wallL (X : Nat → Nat) (T : Nat) : Nat → Nat → AP → Ou
  | 0, p, A => (0, p, A)
  | n + 1, p, A => if tkn X T p = 120 then (if A 2 = 5 then (3, p, A) else bnd (nO X T (loW A) (A 0 - 1) (p + 1) A) (fun p2 _ => bnd (eO X T 59 p2 (wallA A (vl X T (p + 1)))) (fun p3 A3 => wallL X T n p3 A3))) else (0, p, A)
def kd (c : Nat) : Nat := if c = 98 then 5 else if c = 100 then 2 else if c = 108 then 1 else if c = 111 then 4 else if c = 115 then 3 else 0
def folkA (A : AP) (k h w : Nat) : AP := setA (setA (setA (setA A (28 + A 3) k) (40 + A 3) h) (45 + A 3) w) 3 (A 3 + 1)
def folkL (X : Nat → Nat) (T : Nat) : Nat → Nat → AP → Ou
  | 0, p, A => (0, p, A)
  | n + 1, p, A => if tkn X T p = 256 then (0, p, A) else if kd (tkn X T p) = 0 then (1, p, A) else if A 3 = 5 then (3, p, A) else bnd (nO X T 0 (A 2) (p + 1) A) (fun p2 _ => bnd (eO X T 44 p2 A) (fun p3 _ => bnd (nO X T 0 1 p3 A) (fun p4 _ => bnd (eO X T 59 p4 (folkA A (kd (tkn X T p)) (vl X T (p + 1)) (vl X T p3))) (fun p5 A5 => folkL X T n p5 A5))))
def prO (X : Nat → Nat) (T : Nat) : Ou := bnd (lawO X T 0 (fun _ => 0)) (fun p A => bnd (picO X T p A) (fun p A => bnd (wallL X T (6 - A 2) p A) (fun p A => folkL X T (6 - A 3) p A)))
theorem eO_t {X : Nat → Nat} {T c p : Nat} {A : AP} (h : tkn X T p = c) : eO X T c p A = (0, p + 1, A) := if_pos h
theorem eO_f {X : Nat → Nat} {T c p : Nat} {A : AP} (h : tkn X T p ≠ c) : eO X T c p A = (1, p, A) := if_neg h
theorem nO_t {X : Nat → Nat} {T lo hi p : Nat} {A : AP} (h : tkn X T p = 257) (b : lo ≤ vl X T p ∧ vl X T p ≤ hi) : nO X T lo hi p A = (0, p + wd X T p, A) := by unfold nO; rw [if_pos h, if_pos b]
theorem nO_2 {X : Nat → Nat} {T lo hi p : Nat} {A : AP} (h : tkn X T p = 257) (b : ¬ (lo ≤ vl X T p ∧ vl X T p ≤ hi)) : nO X T lo hi p A = (2, p, A) := by unfold nO; rw [if_pos h, if_neg b]
theorem nO_1 {X : Nat → Nat} {T lo hi p : Nat} {A : AP} (h : tkn X T p ≠ 257) : nO X T lo hi p A = (1, p, A) := if_neg h
theorem bnd_0 {p : Nat} {A : AP} {k : Nat → AP → Ou} : bnd (0, p, A) k = k p A := if_pos rfl
theorem bnd_e {e p : Nat} {A : AP} {k : Nat → AP → Ou} (h : e ≠ 0) : bnd (e, p, A) k = (e, p, A) := if_neg h
/-- a paper while it is read -/
def WQ (A : AP) : Prop := A 0 ≤ 24 ∧ A 1 ≤ 24 ∧ A 2 ≤ 5 ∧ A 3 ≤ 5 ∧ (∀ c, c < A 0 → A (4 + c) ≤ 9) ∧ (∀ f, f < A 3 → 1 ≤ A (28 + f) ∧ A (28 + f) ≤ 5) ∧ A 33 = 0 ∧ (∀ w, w < A 2 → 1 ≤ A (34 + w) ∧ A (34 + w) < A 0) ∧ (∀ w, w + 1 < A 2 → A (34 + w) < A (34 + (w + 1))) ∧ A 39 = 0 ∧ (∀ f, f < A 3 → A (40 + f) ≤ A 2 ∧ A (45 + f) ≤ 1) ∧ ∀ f, f < 5 → A (50 + f) = 0
theorem WQ.zero : WQ (fun _ => 0) := ⟨Nat.zero_le _, Nat.zero_le _, Nat.zero_le _, Nat.zero_le _, fun _ h => absurd h (Nat.not_lt_zero _), fun _ h => absurd h (Nat.not_lt_zero _), rfl, fun _ h => absurd h (Nat.not_lt_zero _), fun _ h => absurd h (Nat.not_lt_zero _), rfl, fun _ h => absurd h (Nat.not_lt_zero _), fun _ _ => rfl⟩
theorem WQ.wf {A : AP} (w : WQ A) (h : 6 ≤ A 0) : WF A := by
  obtain ⟨w0, w1, w2, w3, w4, w5, w6, w7, w8, w9, w10, w11⟩ := w
  have z : 0 < 2 ^ A 0 := Nat.two_pow_pos _
  exact ⟨⟨h, w0⟩, w1, w2, w3, w4, w5, by omega, w7, w8, by rw [w9]; exact z, fun f hf => ⟨(w10 f hf).1, (w10 f hf).2, by rw [w11 f (by omega)]; exact z⟩⟩
theorem WQ.law {A : AP} (w : WQ A) {v : Nat} (hv : v ≤ 24) : WQ (setA A 1 v) := by
  obtain ⟨w0, w1, w2, w3, w4, w5, w6, w7, w8, w9, w10, w11⟩ := w
  have n : ∀ {j : Nat}, j ≠ 1 → setA A 1 v j = A j := fun q => setA_n q
  unfold WQ
  rw [n (j := 0) (by omega), setA_s, n (j := 2) (by omega), n (j := 3) (by omega), n (j := 33) (by omega), n (j := 39) (by omega)]
  exact ⟨w0, hv, w2, w3, fun c hc => by rw [n (by omega)]; exact w4 c hc, fun f hf => by rw [n (by omega)]; exact w5 f hf, w6, fun u hu => by rw [n (by omega)]; exact w7 u hu, fun u hu => by rw [n (by omega), n (by omega)]; exact w8 u hu, w9, fun f hf => by rw [n (by omega), n (by omega)]; exact w10 f hf, fun f hf => by rw [n (by omega)]; exact w11 f hf⟩
theorem figA_n {A : AP} {v j : Nat} (h0 : j ≠ 0) (h : j ≠ 4 + A 0) : figA A v j = A j := by unfold figA; rw [setA_n h0, setA_n h]
theorem figA_0 {A : AP} {v : Nat} : figA A v 0 = A 0 + 1 := by unfold figA; rw [setA_s]
theorem figA_f {A : AP} {v : Nat} : figA A v (4 + A 0) = v := by unfold figA; rw [setA_n (by omega), setA_s]
theorem WQ.fig {A : AP} (w : WQ A) {v : Nat} (h : A 0 < 24) (hv : v ≤ 9) : WQ (figA A v) := by
  obtain ⟨w0, w1, w2, w3, w4, w5, w6, w7, w8, w9, w10, w11⟩ := w
  have n : ∀ {j : Nat}, j ≠ 0 → j ≠ 4 + A 0 → figA A v j = A j := fun q q2 => figA_n q q2
  unfold WQ
  rw [figA_0, n (j := 1) (by omega) (by omega), n (j := 2) (by omega) (by omega), n (j := 3) (by omega) (by omega), n (j := 33) (by omega) (by omega), n (j := 39) (by omega) (by omega)]
  refine ⟨by omega, w1, w2, w3, fun c hc => ?_, fun f hf => by rw [n (by omega) (by omega)]; exact w5 f hf, w6, fun u hu => by rw [n (by omega) (by omega)]; have := w7 u hu; omega, fun u hu => by rw [n (by omega) (by omega), n (by omega) (by omega)]; exact w8 u hu, w9, fun f hf => by rw [n (by omega) (by omega), n (by omega) (by omega)]; exact w10 f hf, fun f hf => by rw [n (by omega) (by omega)]; exact w11 f hf⟩
  by_cases e : c = A 0
  · rw [e, figA_f]; exact hv
  · rw [n (by omega) (by omega)]; exact w4 c (by omega)
theorem wallA_n {A : AP} {v j : Nat} (h0 : j ≠ 2) (h : j ≠ 34 + A 2) : wallA A v j = A j := by unfold wallA; rw [setA_n h0, setA_n h]
theorem wallA_2 {A : AP} {v : Nat} : wallA A v 2 = A 2 + 1 := by unfold wallA; rw [setA_s]
theorem wallA_w {A : AP} {v : Nat} : wallA A v (34 + A 2) = v := by unfold wallA; rw [setA_n (by omega), setA_s]
theorem loW_wall {A : AP} {v : Nat} : loW (wallA A v) = v + 1 := by
  unfold loW
  rw [wallA_2, if_neg (by omega), show A 2 + 1 - 1 = A 2 by omega, wallA_w]
theorem WQ.wall {A : AP} (w : WQ A) {v : Nat} (h : A 2 < 5) (hv : loW A ≤ v ∧ v ≤ A 0 - 1) (h6 : 6 ≤ A 0) : WQ (wallA A v) := by
  obtain ⟨w0, w1, w2, w3, w4, w5, w6, w7, w8, w9, w10, w11⟩ := w
  have n : ∀ {j : Nat}, j ≠ 2 → j ≠ 34 + A 2 → wallA A v j = A j := fun q q2 => wallA_n q q2
  unfold WQ
  rw [wallA_2, n (j := 0) (by omega) (by omega), n (j := 1) (by omega) (by omega), n (j := 3) (by omega) (by omega), n (j := 33) (by omega) (by omega), n (j := 39) (by omega) (by omega)]
  have l1 : 1 ≤ v := by
    have := hv.1
    unfold loW at this
    split at this <;> omega
  refine ⟨w0, w1, by omega, w3, fun c hc => by rw [n (by omega) (by omega)]; exact w4 c hc, fun f hf => by rw [n (by omega) (by omega)]; exact w5 f hf, w6, fun u hu => ?_, fun u hu => ?_, w9, fun f hf => by rw [n (by omega) (by omega), n (by omega) (by omega)]; have := w10 f hf; omega, fun f hf => by rw [n (by omega) (by omega)]; exact w11 f hf⟩
  · by_cases e : u = A 2
    · rw [e, wallA_w]; omega
    · rw [n (by omega) (by omega)]; exact w7 u (by omega)
  · by_cases e : u + 1 = A 2
    · rw [e, wallA_w, n (by omega) (by omega)]
      have := hv.1
      unfold loW at this
      rw [if_neg (by omega), show A 2 - 1 = u by omega] at this
      omega
    · rw [n (by omega) (by omega), n (by omega) (by omega)]; exact w8 u (by omega)
theorem folkA_n {A : AP} {k h w j : Nat} (h0 : j ≠ 3) (h1 : j ≠ 28 + A 3) (h2 : j ≠ 40 + A 3) (h3 : j ≠ 45 + A 3) : folkA A k h w j = A j := by unfold folkA; rw [setA_n h0, setA_n h3, setA_n h2, setA_n h1]
theorem folkA_3 {A : AP} {k h w : Nat} : folkA A k h w 3 = A 3 + 1 := by unfold folkA; rw [setA_s]
theorem folkA_k {A : AP} {k h w : Nat} : folkA A k h w (28 + A 3) = k := by unfold folkA; rw [setA_n (by omega), setA_n (by omega), setA_n (by omega), setA_s]
theorem folkA_h {A : AP} {k h w : Nat} : folkA A k h w (40 + A 3) = h := by unfold folkA; rw [setA_n (by omega), setA_n (by omega), setA_s]
theorem folkA_w {A : AP} {k h w : Nat} : folkA A k h w (45 + A 3) = w := by unfold folkA; rw [setA_n (by omega), setA_s]
theorem WQ.folk {A : AP} (q : WQ A) {k h w : Nat} (h5 : A 3 < 5) (hk : 1 ≤ k ∧ k ≤ 5) (hh : h ≤ A 2) (hw : w ≤ 1) : WQ (folkA A k h w) := by
  obtain ⟨w0, w1, w2, w3, w4, w5, w6, w7, w8, w9, w10, w11⟩ := q
  have n : ∀ {j : Nat}, j ≠ 3 → j ≠ 28 + A 3 → j ≠ 40 + A 3 → j ≠ 45 + A 3 → folkA A k h w j = A j := fun q1 q2 q3 q4 => folkA_n q1 q2 q3 q4
  unfold WQ
  rw [folkA_3, n (j := 0) (by omega) (by omega) (by omega) (by omega), n (j := 1) (by omega) (by omega) (by omega) (by omega), n (j := 2) (by omega) (by omega) (by omega) (by omega), n (j := 33) (by omega) (by omega) (by omega) (by omega), n (j := 39) (by omega) (by omega) (by omega) (by omega)]
  refine ⟨w0, w1, w2, by omega, fun c hc => by rw [n (by omega) (by omega) (by omega) (by omega)]; exact w4 c hc, fun f hf => ?_, w6, fun u hu => by rw [n (by omega) (by omega) (by omega) (by omega)]; exact w7 u hu, fun u hu => by rw [n (by omega) (by omega) (by omega) (by omega), n (by omega) (by omega) (by omega) (by omega)]; exact w8 u hu, w9, fun f hf => ?_, fun f hf => by rw [n (by omega) (by omega) (by omega) (by omega)]; exact w11 f hf⟩
  · by_cases e : f = A 3
    · rw [e, folkA_k]; exact hk
    · rw [n (by omega) (by omega) (by omega) (by omega)]; exact w5 f (by omega)
  · by_cases e : f = A 3
    · rw [e, folkA_h, folkA_w]; exact ⟨hh, hw⟩
    · rw [n (by omega) (by omega) (by omega) (by omega), n (by omega) (by omega) (by omega) (by omega)]; exact w10 f (by omega)
theorem kd_le (c : Nat) : kd c ≤ 5 := by
  unfold kd
  repeat (first | omega | split)
theorem kd_pos {c : Nat} (h : ¬ kd c = 0) : c < 256 ∧ 97 ≤ c ∧ c ≤ 122 := by
  unfold kd at h
  by_cases h1 : c = 98
  · omega
  · rw [if_neg h1] at h
    by_cases h2 : c = 100
    · omega
    · rw [if_neg h2] at h
      by_cases h3 : c = 108
      · omega
      · rw [if_neg h3] at h
        by_cases h4 : c = 111
        · omega
        · rw [if_neg h4] at h
          by_cases h5 : c = 115
          · omega
          · rw [if_neg h5] at h; omega
/-- the class's draft -/
def PapD (M : Mm) (A : AP) : Prop := (M 33 7 = nI (A 1) ∧ M 33 8 = nI (A 0) ∧ M 33 9 = nI (A 2) ∧ M 33 10 = nI (A 3) ∧ M 33 12 = nI 0 ∧ M 33 13 = nI 0) ∧ (∀ c, c < A 0 → M 34 c = nI (A (4 + c))) ∧ (∀ w, w < A 2 → M 35 w = nI (A (34 + w))) ∧ (∀ f, f < A 3 → M 36 f = nI (A (28 + f)) ∧ M 37 f = nI (A (40 + f)) ∧ M 38 f = nI (A (45 + f)) ∧ M 39 f = nI (A (50 + f)))
theorem PapD.congr {M M' : Mm} {A : AP} (p : PapD M A) (h : ∀ k, k ≠ 24 → M' k = M k) : PapD M' A := by
  unfold PapD at p ⊢
  rw [h 33 (by omega), h 34 (by omega), h 35 (by omega), h 36 (by omega), h 37 (by omega), h 38 (by omega), h 39 (by omega)]
  exact p
def FrC (M0 : Mm) (T : Nat) (M : Mm) : Prop := (∀ k, k ≠ 24 → ¬ (33 ≤ k ∧ k ≤ 39) → M k = M0 k) ∧ M 24 1 = nI T
def TkC (X : Nat → Nat) (T p : Nat) (M : Mm) : Prop := p ≤ T ∧ M 24 2 = nI p ∧ M 24 3 = ctI (tkn X T p) ∧ M 24 4 = nI (wd X T p) ∧ (dg X T p = true → M 24 5 = nI (vl X T p))
def StC (X : Nat → Nat) (T : Nat) (M0 : Mm) (Φ : AP → Prop) (p : Nat) (A : AP) (M : Mm) : Prop := FrC M0 T M ∧ TkC X T p M ∧ WQ A ∧ Φ A ∧ PapD M A
def FaC (M0 : Mm) (T e p : Nat) (M : Mm) : Prop := FrC M0 T M ∧ M 24 6 = nI e ∧ M 24 7 = nI p
def OC (X : Nat → Nat) (T : Nat) (M0 : Mm) (Φ : AP → Prop) (o : Ou) (r : Int32) (M : Mm) : Prop := (o.1 = 0 ∧ r = 1 ∧ StC X T M0 Φ o.2.1 o.2.2 M) ∨ (o.1 ≠ 0 ∧ r = 0 ∧ FaC M0 T o.1 o.2.1 M)
theorem ct_is {t c : Nat} (ht : t < 259) (hc : c < 256) : (ctI t = nI c) = (t = c) := by
  unfold ctI
  by_cases h : t < 256
  · rw [if_pos h]; exact nI_ne (by omega) (by omega)
  · rw [if_neg h]
    apply propext
    refine ⟨fun q => ?_, fun q => by omega⟩
    by_cases h1 : t = 256
    · rw [if_pos h1] at q
      have := nI_neg (a := c) (by omega) (z := -1) (by decide)
      rw [← q] at this
      exact (this.mp rfl).elim
    · rw [if_neg h1] at q
      by_cases h2 : t = 257
      · rw [if_pos h2] at q
        have := nI_neg (a := c) (by omega) (z := -2) (by decide)
        rw [← q] at this
        exact (this.mp rfl).elim
      · rw [if_neg h2] at q
        have := nI_neg (a := c) (by omega) (z := -3) (by decide)
        rw [← q] at this
        exact (this.mp rfl).elim
theorem ct_num {t : Nat} (ht : t < 259) : (ctI t = -2) = (t = 257) := by
  unfold ctI
  apply propext
  by_cases h : t < 256
  · rw [if_pos h, nI_neg (by omega) (by decide)]
    exact ⟨False.elim, fun q => by omega⟩
  · rw [if_neg h]
    by_cases h1 : t = 256
    · rw [if_pos h1]; exact ⟨fun q => absurd q (by decide), fun q => by omega⟩
    · rw [if_neg h1]
      by_cases h2 : t = 257
      · rw [if_pos h2]; exact ⟨fun _ => h2, fun _ => rfl⟩
      · rw [if_neg h2]; exact ⟨fun q => absurd q (by decide), fun q => absurd q h2⟩
theorem ct_end {t : Nat} (ht : t < 259) : (ctI t = -1) = (t = 256) := by
  unfold ctI
  apply propext
  by_cases h : t < 256
  · rw [if_pos h, nI_neg (by omega) (by decide)]
    exact ⟨False.elim, fun q => by omega⟩
  · rw [if_neg h]
    by_cases h1 : t = 256
    · rw [if_pos h1]; exact ⟨fun _ => h1, fun _ => rfl⟩
    · rw [if_neg h1]
      by_cases h2 : t = 257
      · rw [if_pos h2]; exact ⟨fun q => absurd q (by decide), fun q => by omega⟩
      · rw [if_neg h2]; exact ⟨fun q => absurd q (by decide), fun q => absurd q h1⟩
section
variable {X : Nat → Nat} {T : Nat} {M0 M : Mm} {Φ : AP → Prop} {p : Nat} {A : AP} {K : Int32 → Mm → Prop}
theorem FrC.tp (x : TpX X T) (t0 : TpC X T M0) (f : FrC M0 T M) : TpC X T M := ⟨f.2, fun j hj => by rw [f.1 25 (by omega) (by omega)]; exact t0.2 j hj⟩
theorem FrC.keep {M' : Mm} (f : FrC M0 T M) (h : ∀ k, k ≠ 24 → M' k = M k) (h1 : M' 24 1 = M 24 1) : FrC M0 T M' := ⟨fun k q1 q2 => by rw [h k q1]; exact f.1 k q1 q2, by rw [h1]; exact f.2⟩
theorem s_stepC {K : Mm → Prop} (x : TpX X T) (t0 : TpC X T M0) (st : StC X T M0 Φ p A M) (hne : tkn X T p ≠ 256) (h : ∀ M' : Mm, StC X T M0 Φ (p + wd X T p) A M' → (tkn X T p = 257 → M' 24 5 = nI (vl X T p)) → (∀ k, k ≠ 24 → M' k = M k) → K M') : f_X9_step M K := by
  obtain ⟨f, ⟨k1, k2, k3, k4, k5⟩, wq, φ, pd⟩ := st
  have w := wd_le (X := X) (tkn_in hne)
  refine c_step x (f.tp x t0) k2 k4 rfl w.1 (fun M' h1 h2 h3 h4 h5 h6 => h M' ⟨f.keep h1 (h2 1 (Or.inl rfl)), ⟨w.1, h3, h4, h5, fun d => by rw [h6, if_pos d]⟩, wq, φ, pd.congr h1⟩ (fun q => ?_) h1)
  rw [h6, if_neg (num_next x q)]
  exact k5 ((tkn_dg x).mpr (Or.inl q))
theorem s_failC (st : FrC M0 T M) (hp : M 24 2 = nI p) {e : Nat} {v : Int32} (hv : v = nI e) (h : ∀ M' : Mm, FaC M0 T e p M' → K 0 M') : f_X9_fail v M K := by
  unfold f_X9_fail
  intro M1 e1 M3 e3
  have m2 : M1 24 2 = nI p := by rw [e1, gU_place (by omega)]; exact hp
  rw [m2] at e3
  refine h M3 ⟨st.keep (fun k hk => by rw [e3, gU_cell hk, e1, gU_cell hk]) (by rw [e3, gU_place (by omega), e1, gU_place (by omega)]), by rw [e3, gU_place (by omega), e1, gU_same, hv], by rw [e3, gU_same]⟩
theorem s_passC (x : TpX X T) (t0 : TpC X T M0) (st : StC X T M0 Φ p A M) {c : Nat} (hc : c < 256) {v : Int32} (hv : v = nI c) (h1 : tkn X T p = c → ∀ M' : Mm, StC X T M0 Φ (p + 1) A M' → (∀ k, k ≠ 24 → M' k = M k) → K 1 M') (h0 : tkn X T p ≠ c → ∀ M' : Mm, FaC M0 T 1 p M' → K 0 M') : f_X9_pass v M K := by
  unfold f_X9_pass
  rw [st.2.1.2.2.1, hv, ct_is (tkn_lt x) hc]
  refine br_c (fun q => ?_) (fun q => ?_)
  · have nd : ¬ dg X T p = true := fun d => by have := (tkn_dg x).mp d; omega
    refine s_stepC x t0 st (by omega) (fun M' s' _ f' => ?_)
    rw [wd_1 nd] at s'
    exact h1 q M' s' f'
  · exact s_failC (e := 1) st.1 st.2.1.2.1 rfl (fun M' fa => ⟨Or.inl rfl, h0 q M' fa⟩)
theorem s_numC (x : TpX X T) (t0 : TpC X T M0) (st : StC X T M0 Φ p A M) {lo hi : Nat} (hlo : lo < 1000) (hhi : hi < 1000) {v1 v2 : Int32} (hv1 : v1 = nI lo) (hv2 : v2 = nI hi) (h1 : tkn X T p = 257 → lo ≤ vl X T p ∧ vl X T p ≤ hi → ∀ M' : Mm, StC X T M0 Φ (p + wd X T p) A M' → M' 24 5 = nI (vl X T p) → (∀ k, k ≠ 24 → M' k = M k) → K 1 M') (h2 : tkn X T p = 257 → ¬ (lo ≤ vl X T p ∧ vl X T p ≤ hi) → ∀ M' : Mm, FaC M0 T 2 p M' → K 0 M') (h0 : tkn X T p ≠ 257 → ∀ M' : Mm, FaC M0 T 1 p M' → K 0 M') : f_X9_passNumber v1 v2 M K := by
  unfold f_X9_passNumber f_X9_passNumber_31
  rw [st.2.1.2.2.1, ct_num (tkn_lt x), hv1, hv2]
  refine br_c (fun q => ?_) (fun q => s_failC (e := 1) st.1 st.2.1.2.1 rfl (fun M' fa => ⟨Or.inl rfl, h0 q M' fa⟩))
  have d := (tkn_dg x).mpr (Or.inl q)
  have vlt := vl_lt d
  rw [st.2.1.2.2.2.2 d]
  refine br_c (fun z => ?_) (fun z => br_c (fun y => ?_) (fun y => ?_))
  · rw [lt_I, nI_I (by omega), nI_I (by omega)] at z
    exact s_failC (e := 2) st.1 st.2.1.2.1 rfl (fun M' fa => ⟨Or.inl rfl, h2 q (by omega) M' fa⟩)
  · rw [lt_I, nI_I (by omega), nI_I (by omega)] at z
    rw [le_I, nI_I (by omega), nI_I (by omega)] at y
    exact s_stepC x t0 st (by omega) (fun M' s' v' f' => h1 q (by omega) M' s' (v' q) f')
  · rw [le_I, nI_I (by omega), nI_I (by omega)] at y
    exact s_failC (e := 2) st.1 st.2.1.2.1 rfl (fun M' fa => ⟨Or.inl rfl, h2 q (by omega) M' fa⟩)
theorem OC.ok {o : Ou} {p' : Nat} {A' : AP} {M' : Mm} (e : o = (0, p', A')) (s : StC X T M0 Φ p' A' M') : OC X T M0 Φ o 1 M' := by
  subst e; exact Or.inl ⟨rfl, rfl, s⟩
theorem OC.no {o : Ou} {e p' : Nat} {A' : AP} {M' : Mm} (he : o = (e, p', A')) (h0 : e ≠ 0) (s : FaC M0 T e p' M') : OC X T M0 Φ o 0 M' := by
  subst he; exact Or.inr ⟨h0, rfl, s⟩
theorem c_law (x : TpX X T) (t0 : TpC X T M0) (hΦ : ∀ A v, Φ A → Φ (setA A 1 v)) (st : StC X T M0 Φ p A M) (h : ∀ r M', OC X T M0 Φ (lawO X T p A) r M' → K r M') : f_X9_readLaw 33 M K := by
  unfold f_X9_readLaw
  refine s_passC (c := 113) x t0 st (by omega) rfl (fun q M1 s1 f1 => br_f (by decide) ?_) (fun q M1 fa => br_t rfl (h 0 M1 (OC.no (e := 1) (p' := p) (A' := A) ?_ (by omega) fa)))
  · refine s_numC (lo := 0) (hi := 24) x t0 s1 (by omega) (by omega) rfl rfl (fun q2 b M2 s2 v2 f2 => br_f (by decide) (fun M7 e7 => ?_)) (fun q2 b M2 fa => br_t rfl (h 0 M2 (OC.no (e := 2) (p' := p + 1) (A' := A) ?_ (by omega) fa))) (fun q2 M2 fa => br_t rfl (h 0 M2 (OC.no (e := 1) (p' := p + 1) (A' := A) ?_ (by omega) fa)))
    · rw [v2] at e7
      have s7 : StC X T M0 Φ (p + 1 + wd X T (p + 1)) (setA A 1 (vl X T (p + 1))) M7 := by
        obtain ⟨f, k, wq, φ, pd⟩ := s2
        have c24 : M7 24 = M2 24 := by rw [e7, gU_cell (by omega)]
        refine ⟨⟨fun k q1 q2 => by rw [e7, gU_cell (by omega)]; exact f.1 k q1 q2, by rw [c24]; exact f.2⟩, ?_, wq.law b.2, hΦ _ _ φ, ?_⟩
        · unfold TkC at k ⊢; rw [c24]; exact k
        · obtain ⟨⟨p7, p8, p9, p10, p12, p13⟩, pf, pw, po⟩ := pd
          have w0 := wq.1
          have w2 := wq.2.2.1
          have w3 := wq.2.2.2.1
          unfold PapD
          rw [setA_s, setA_n (show 0 ≠ 1 by omega), setA_n (show 2 ≠ 1 by omega), setA_n (show 3 ≠ 1 by omega)]
          refine ⟨⟨by rw [e7, gU_same], by rw [e7, gU_place (by omega)]; exact p8, by rw [e7, gU_place (by omega)]; exact p9, by rw [e7, gU_place (by omega)]; exact p10, by rw [e7, gU_place (by omega)]; exact p12, by rw [e7, gU_place (by omega)]; exact p13⟩, fun c hc => by rw [e7, gU_cell (by omega), setA_n (by omega)]; exact pf c hc, fun u hu => by rw [e7, gU_cell (by omega), setA_n (by omega)]; exact pw u hu, fun g hg => ?_⟩
          rw [setA_n (by omega), setA_n (by omega), setA_n (by omega), setA_n (by omega), e7, gU_cell (by omega), gU_cell (by omega), gU_cell (by omega), gU_cell (by omega)]
          exact po g hg
      refine s_passC (c := 59) x t0 s7 (by omega) rfl (fun q3 M3 s3 f3 => ⟨Or.inr rfl, h 1 M3 (OC.ok ?_ s3)⟩) (fun q3 M3 fa => ⟨Or.inl rfl, h 0 M3 (OC.no (e := 1) (A' := setA A 1 (vl X T (p + 1))) ?_ (by omega) fa)⟩)
      · rw [lawO, eO_t q, bnd_0, nO_t q2 b, bnd_0, eO_t q3]
      · rw [lawO, eO_t q, bnd_0, nO_t q2 b, bnd_0, eO_f q3]
    · rw [lawO, eO_t q, bnd_0, nO_2 q2 b, bnd_e (by omega)]
    · rw [lawO, eO_t q, bnd_0, nO_1 q2, bnd_e (by omega)]
  · rw [lawO, eO_f q, bnd_e (by omega)]
theorem c_pic88 (x : TpX X T) (t0 : TpC X T M0) {n : Nat} (hin : ¬ (97 ≤ tkn X T p ∧ tkn X T p ≤ 106)) (st : StC X T M0 Φ p A M) (h : ∀ r M', OC X T M0 (fun A => Φ A ∧ 6 ≤ A 0) (picL X T (n + 1) p A) r M' → K r M') : f_X9_readPicture_88 K 33 M := by
  have w0 := st.2.2.1.1
  unfold f_X9_readPicture_88
  rw [st.2.2.2.2.1.2.1, nI_leL (x := 6) (n := 6) (by omega) (by decide) rfl]
  refine br_c (fun q => ?_) (fun q => ?_)
  · have st' : StC X T M0 (fun A => Φ A ∧ 6 ≤ A 0) p A M := ⟨st.1, st.2.1, st.2.2.1, ⟨st.2.2.2.1, q⟩, st.2.2.2.2⟩
    have e : picL X T (n + 1) p A = eO X T 59 p A := by
      show (if _ then _ else _) = _
      rw [if_neg hin, if_neg (by omega)]
    rw [e] at h
    exact s_passC (c := 59) x t0 st' (by omega) rfl (fun q3 M3 s3 f3 => ⟨Or.inr rfl, h 1 M3 (OC.ok (eO_t q3) s3)⟩) (fun q3 M3 fa => ⟨Or.inl rfl, h 0 M3 (OC.no (e := 1) (eO_f q3) (by omega) fa)⟩)
  · have e : picL X T (n + 1) p A = (1, p, A) := by
      show (if _ then _ else _) = _
      rw [if_neg hin, if_pos (by omega)]
    exact s_failC (e := 1) st.1 st.2.1.2.1 rfl (fun M' fa => ⟨Or.inl rfl, h 0 M' (OC.no (e := 1) e (by omega) fa)⟩)
theorem PapD.fig {M11 M13 : Mm} {v : Nat} (wq : WQ A) (h24 : A 0 < 24) (pd : PapD M A) (e11 : M11 = gU M (33 + 1) (A 0) (nI v)) (e13 : M13 = gU M11 33 8 (nI (A 0 + 1))) : PapD M13 (figA A v) := by
  obtain ⟨⟨p7, p8, p9, p10, p12, p13⟩, pf, pw, po⟩ := pd
  have w2 := wq.2.2.1
  have w3 := wq.2.2.2.1
  have o : ∀ k, k ≠ 33 → k ≠ 34 → M13 k = M k := fun k q1 q2 => by rw [e13, gU_cell q1, e11, gU_cell (by omega)]
  have b : ∀ j, j ≠ 8 → M13 33 j = M 33 j := fun j q => by rw [e13, gU_place q, e11, gU_cell (by omega)]
  unfold PapD
  rw [figA_0, figA_n (show 1 ≠ 0 by omega) (by omega), figA_n (show 2 ≠ 0 by omega) (by omega), figA_n (show 3 ≠ 0 by omega) (by omega), b 7 (by omega), b 9 (by omega), b 10 (by omega), b 12 (by omega), b 13 (by omega), o 35 (by omega) (by omega), o 36 (by omega) (by omega), o 37 (by omega) (by omega), o 38 (by omega) (by omega), o 39 (by omega) (by omega)]
  refine ⟨⟨p7, by rw [e13, gU_same], p9, p10, p12, p13⟩, fun c hc => ?_, fun u hu => by rw [figA_n (by omega) (by omega)]; exact pw u hu, fun g hg => ?_⟩
  · rw [e13, gU_cell (by omega), e11, gU_now]
    by_cases e : c = A 0
    · rw [if_pos e, e, figA_f]
    · rw [if_neg e, figA_n (by omega) (by omega)]; exact pf c (by omega)
  · rw [figA_n (by omega) (by omega), figA_n (by omega) (by omega), figA_n (by omega) (by omega), figA_n (by omega) (by omega)]
    exact po g hg
theorem c_picL (x : TpX X T) (t0 : TpC X T M0) (hΦ : ∀ A v, Φ A → Φ (figA A v)) : ∀ (n k p : Nat) (A : AP) (M : Mm), n + A 0 = 25 → k + n ≤ 90 → StC X T M0 Φ p A M → (∀ r M', OC X T M0 (fun A => Φ A ∧ 6 ≤ A 0) (picL X T n p A) r M' → K r M') → l_X9_readPicture_13 K 33 n (nI k) M := by
  intro n
  induction n with
  | zero =>
    intro k p A M hn _ st _
    have := st.2.2.1.1
    omega
  | succ n ih =>
    intro k p A M hn hk st h
    have w0 := st.2.2.1.1
    have tl := tkn_lt (X := X) (T := T) (p := p) x
    rw [l_X9_readPicture_13, st.2.1.2.2.1, st.2.2.2.2.1.2.1]
    refine br_f (by rw [le_I, nI_I (by omega)]; show ¬ (90 : Int) ≤ _; omega) ?_
    by_cases hin : 97 ≤ tkn X T p ∧ tkn X T p ≤ 106
    · have ec : ctI (tkn X T p) = nI (tkn X T p) := by unfold ctI; rw [if_pos (by omega)]
      rw [ec]
      refine br_f (by rw [lt_I, nI_I (by omega)]; show ¬ _ < (97 : Int); omega) (br_f (by rw [lt_I, nI_I (by omega)]; show ¬ (106 : Int) < _; omega) (br_c (fun q => ?_) (fun q => ?_)))
      · rw [lt_I, nI_I (by omega)] at q
        have q : (A 0 : Int) < 24 := q
        rw [nI_cl (by omega), show (97 : Int32) = nI 97 from rfl, pk_sub hin.1, nI_1]
        refine ⟨vp_nI (by omega) (by decide), fun M11 e11 M13 e13 => ?_⟩
        have m8 : M11 33 8 = nI (A 0) := by rw [e11, gU_cell (by omega)]; exact st.2.2.2.2.1.2.1
        rw [m8, nI_1] at e13
        have s13 : StC X T M0 Φ p (figA A (tkn X T p - 97)) M13 := by
          obtain ⟨f, kk, wq, φ, pd⟩ := st
          have c24 : M13 24 = M 24 := by rw [e13, gU_cell (by omega), e11, gU_cell (by omega)]
          refine ⟨⟨fun k q1 q2 => by rw [e13, gU_cell (by omega), e11, gU_cell (by omega)]; exact f.1 k q1 q2, by rw [c24]; exact f.2⟩, ?_, wq.fig (by omega) (by omega), hΦ _ _ φ, pd.fig wq (by omega) e11 e13⟩
          unfold TkC at kk ⊢; rw [c24]; exact kk
        have nd : ¬ dg X T p = true := fun d => by have := (tkn_dg x).mp d; omega
        have e : picL X T (n + 1) p A = picL X T n (p + 1) (figA A (tkn X T p - 97)) := by
          show (if _ then _ else _) = _
          rw [if_pos hin, if_neg (by omega)]
        rw [e] at h
        refine s_stepC x t0 s13 (by omega) (fun M15 s15 _ _ => ?_)
        rw [wd_1 nd] at s15
        exact ih (k + 1) (p + 1) _ M15 (by rw [figA_0]; omega) (by omega) s15 h
      · rw [lt_I, nI_I (by omega)] at q
        have q : ¬ (A 0 : Int) < 24 := q
        have e : picL X T (n + 1) p A = (3, p, A) := by
          show (if _ then _ else _) = _
          rw [if_pos hin, if_pos (by omega)]
        exact s_failC (e := 3) st.1 st.2.1.2.1 rfl (fun M' fa => ⟨Or.inl rfl, h 0 M' (OC.no (e := 3) e (by omega) fa)⟩)
    · have go := c_pic88 (K := K) (n := n) x t0 hin st h
      refine br_c (fun _ => go) (fun q => br_c (fun _ => go) (fun q2 => ?_))
      exfalso
      unfold ctI at q q2
      by_cases h1 : tkn X T p < 256
      · rw [if_pos h1, lt_I, nI_I (by omega)] at q q2
        have q : ¬ (tkn X T p : Int) < 97 := q
        have q2 : ¬ (106 : Int) < (tkn X T p : Int) := q2
        omega
      · rw [if_neg h1] at q
        by_cases h2 : tkn X T p = 256
        · rw [if_pos h2] at q; exact q (by decide)
        · rw [if_neg h2] at q
          by_cases h3 : tkn X T p = 257
          · rw [if_pos h3] at q; exact q (by decide)
          · rw [if_neg h3] at q; exact q (by decide)
theorem c_pic (x : TpX X T) (t0 : TpC X T M0) (hΦ : ∀ A v, Φ A → Φ (figA A v)) (st : StC X T M0 Φ p A M) (h : ∀ r M', OC X T M0 (fun A => Φ A ∧ 6 ≤ A 0) (picO X T p A) r M' → K r M') : f_X9_readPicture 33 M K := by
  have w0 := st.2.2.1.1
  unfold f_X9_readPicture
  refine s_passC (c := 112) x t0 st (by omega) rfl (fun q M1 s1 f1 => br_f (by decide) ⟨25 - A 0, ?_⟩) (fun q M1 fa => br_t rfl (h 0 M1 (OC.no (e := 1) (p' := p) (A' := A) ?_ (by omega) fa)))
  · refine c_picL x t0 hΦ (25 - A 0) 0 (p + 1) A M1 (by omega) (by omega) s1 ?_
    have e : picO X T p A = picL X T (25 - A 0) (p + 1) A := by rw [picO, eO_t q, bnd_0]
    rw [e] at h
    exact h
  · rw [picO, eO_f q, bnd_e (by omega)]
theorem PapD.wall {M9 M11 : Mm} {v : Nat} (wq : WQ A) (h5 : A 2 < 5) (pd : PapD M A) (e9 : M9 = gU M (33 + 2) (A 2) (nI v)) (e11 : M11 = gU M9 33 9 (nI (A 2 + 1))) : PapD M11 (wallA A v) := by
  obtain ⟨⟨p7, p8, p9, p10, p12, p13⟩, pf, pw, po⟩ := pd
  have w0 := wq.1
  have w3 := wq.2.2.2.1
  have o : ∀ k, k ≠ 33 → k ≠ 35 → M11 k = M k := fun k q1 q2 => by rw [e11, gU_cell q1, e9, gU_cell (by omega)]
  have b : ∀ j, j ≠ 9 → M11 33 j = M 33 j := fun j q => by rw [e11, gU_place q, e9, gU_cell (by omega)]
  unfold PapD
  rw [wallA_2, wallA_n (show 0 ≠ 2 by omega) (by omega), wallA_n (show 1 ≠ 2 by omega) (by omega), wallA_n (show 3 ≠ 2 by omega) (by omega), b 7 (by omega), b 8 (by omega), b 10 (by omega), b 12 (by omega), b 13 (by omega), o 34 (by omega) (by omega), o 36 (by omega) (by omega), o 37 (by omega) (by omega), o 38 (by omega) (by omega), o 39 (by omega) (by omega)]
  refine ⟨⟨p7, p8, by rw [e11, gU_same], p10, p12, p13⟩, fun c hc => by rw [wallA_n (by omega) (by omega)]; exact pf c hc, fun u hu => ?_, fun g hg => ?_⟩
  · rw [e11, gU_cell (by omega), e9, gU_now]
    by_cases e : u = A 2
    · rw [if_pos e, e, wallA_w]
    · rw [if_neg e, wallA_n (by omega) (by omega)]; exact pw u (by omega)
  · rw [wallA_n (by omega) (by omega), wallA_n (by omega) (by omega), wallA_n (by omega) (by omega), wallA_n (by omega) (by omega)]
    exact po g hg
theorem loW_lt (wq : WQ A) : loW A < 1000 := by
  unfold loW
  by_cases h : A 2 = 0
  · rw [if_pos h]; omega
  · rw [if_neg h]
    have := wq.2.2.2.2.2.2.2.1 (A 2 - 1) (by omega)
    have := wq.1
    omega
theorem c_wallL (x : TpX X T) (t0 : TpC X T M0) : ∀ (n k p : Nat) (A : AP) (M : Mm), n + A 2 = 6 → k + n ≤ 90 → StC X T M0 (fun A => 6 ≤ A 0) p A M → (∀ r M', OC X T M0 (fun A => 6 ≤ A 0) (wallL X T n p A) r M' → K r M') → l_X9_readWalls_4 K 33 n (nI (loW A)) (nI k) M := by
  intro n
  induction n with
  | zero =>
    intro k p A M hn _ st _
    have := st.2.2.1.2.2.1
    omega
  | succ n ih =>
    intro k p A M hn hk st h
    have wq := st.2.2.1
    have w0 := wq.1
    have w2 := wq.2.2.1
    have h6 : 6 ≤ A 0 := st.2.2.2.1
    have tl := tkn_lt (X := X) (T := T) (p := p) x
    rw [l_X9_readWalls_4, st.2.1.2.2.1, st.2.2.2.2.1.2.2.1, show (120 : Int32) = nI 120 from rfl, ct_is tl (by omega)]
    refine br_f (by rw [le_I, nI_I (by omega)]; show ¬ (90 : Int) ≤ _; omega) (br_c (fun q => ?_) (fun q => ?_))
    · refine br_c (fun q5 => ?_) (fun q5 => ?_)
      · rw [lt_I, nI_I (by omega)] at q5
        have q5 : (A 2 : Int) < 5 := q5
        have nd : ¬ dg X T p = true := fun d => by have := (tkn_dg x).mp d; omega
        have e : wallL X T (n + 1) p A = bnd (nO X T (loW A) (A 0 - 1) (p + 1) A) (fun p2 _ => bnd (eO X T 59 p2 (wallA A (vl X T (p + 1)))) (fun p3 A3 => wallL X T n p3 A3)) := by
          show (if _ then _ else _) = _
          rw [if_pos q, if_neg (by omega)]
        rw [e] at h
        refine s_stepC x t0 st (by omega) (fun M4 s4 _ _ => ?_)
        rw [wd_1 nd] at s4
        rw [s4.2.2.2.2.1.2.1, show (1 : Int32) = nI 1 from rfl, pk_sub (by omega)]
        refine s_numC (lo := loW A) (hi := A 0 - 1) x t0 s4 (loW_lt wq) (by omega) rfl rfl (fun q2 b M5 s5 v5 f5 => br_f (by decide) ?_) (fun q2 b M5 fa => br_t rfl (h 0 M5 (OC.no (e := 2) (p' := p + 1) (A' := A) (by rw [nO_2 q2 b, bnd_e (by omega)]) (by omega) fa))) (fun q2 M5 fa => br_t rfl (h 0 M5 (OC.no (e := 1) (p' := p + 1) (A' := A) (by rw [nO_1 q2, bnd_e (by omega)]) (by omega) fa)))
        rw [nO_t q2 b, bnd_0] at h
        rw [s5.2.2.2.2.1.2.2.1, v5, nI_cl (by omega)]
        refine ⟨vp_nI (by omega) (by decide), fun M9 e9 M11 e11 => ?_⟩
        have m9 : M9 33 9 = nI (A 2) := by rw [e9, gU_cell (by omega)]; exact s5.2.2.2.2.1.2.2.1
        have z1 : nI (A 2) + nI 1 = nI (A 2 + 1) := nI_add _ _
        rw [m9, z1] at e11
        have v11 : M11 24 5 = nI (vl X T (p + 1)) := by rw [e11, gU_cell (by omega), e9, gU_cell (by omega)]; exact v5
        have s11 : StC X T M0 (fun A => 6 ≤ A 0) (p + 1 + wd X T (p + 1)) (wallA A (vl X T (p + 1))) M11 := by
          obtain ⟨f, kk, wq, φ, pd⟩ := s5
          have c24 : M11 24 = M5 24 := by rw [e11, gU_cell (by omega), e9, gU_cell (by omega)]
          refine ⟨⟨fun k q1 q2 => by rw [e11, gU_cell (by omega), e9, gU_cell (by omega)]; exact f.1 k q1 q2, by rw [c24]; exact f.2⟩, ?_, wq.wall (by omega) b h6, show 6 ≤ wallA A _ 0 by rw [wallA_n (by omega) (by omega)]; exact h6, pd.wall wq (by omega) e9 e11⟩
          unfold TkC at kk ⊢; rw [c24]; exact kk
        refine s_passC (c := 59) x t0 s11 (by omega) rfl (fun q3 M13 s13 f13 => br_f (by decide) ?_) (fun q3 M13 fa => br_t rfl (h 0 M13 (OC.no (e := 1) (A' := wallA A (vl X T (p + 1))) (by rw [eO_f q3, bnd_e (by omega)]) (by omega) fa)))
        rw [eO_t q3, bnd_0] at h
        have z2 : nI (vl X T (p + 1)) + nI 1 = nI (loW (wallA A (vl X T (p + 1)))) := by rw [nI_add, loW_wall]
        have z3 : nI k + nI 1 = nI (k + 1) := nI_add _ _
        rw [v11, z2, z3]
        exact ih (k + 1) _ _ M13 (by rw [wallA_2]; omega) (by omega) s13 h
      · rw [lt_I, nI_I (by omega)] at q5
        have q5 : ¬ (A 2 : Int) < 5 := q5
        have e : wallL X T (n + 1) p A = (3, p, A) := by
          show (if _ then _ else _) = _
          rw [if_pos q, if_pos (by omega)]
        exact s_failC (e := 3) st.1 st.2.1.2.1 rfl (fun M' fa => ⟨Or.inl rfl, h 0 M' (OC.no (e := 3) e (by omega) fa)⟩)
    · have e : wallL X T (n + 1) p A = (0, p, A) := by
        show (if _ then _ else _) = _
        rw [if_neg q]
      exact h 1 M (OC.ok e st)
theorem e_kind {t : Nat} (ht : t < 259) (M : Mm) (K : Int32 → Mm → Prop) : f_X9_kindByLetter (ctI t) M K = K (nI (kd t)) M := by
  unfold f_X9_kindByLetter kd
  have d : ∀ c, c < 256 → ∀ v : Int32, v = nI c → ((ctI t = v) = (t = c)) := fun c hc v hv => by rw [hv]; exact ct_is ht hc
  simp only [br_eq, d 98 (by omega) 98 rfl, d 100 (by omega) 100 rfl, d 108 (by omega) 108 rfl, d 111 (by omega) 111 rfl, d 115 (by omega) 115 rfl]
  by_cases h1 : t = 98
  · rw [if_pos h1, if_pos h1]; rfl
  · rw [if_neg h1, if_neg h1]
    by_cases h2 : t = 100
    · rw [if_pos h2, if_pos h2]; rfl
    · rw [if_neg h2, if_neg h2]
      by_cases h3 : t = 108
      · rw [if_pos h3, if_pos h3]; rfl
      · rw [if_neg h3, if_neg h3]
        by_cases h4 : t = 111
        · rw [if_pos h4, if_pos h4]; rfl
        · rw [if_neg h4, if_neg h4]
          by_cases h5 : t = 115
          · rw [if_pos h5, if_pos h5]; rfl
          · rw [if_neg h5, if_neg h5]; rfl
theorem s_addFolk {K : Mm → Prop} {k h w : Nat} (wq : WQ A) (h5 : A 3 < 5) (pd : PapD M A) (hK : ∀ M' : Mm, (∀ q, ¬ (33 ≤ q ∧ q ≤ 39) → M' q = M q) → PapD M' (folkA A k h w) → K M') : f_X6_addFolk 33 (nI k) (nI h) (nI w) M K := by
  obtain ⟨⟨p7, p8, p9, p10, p12, p13⟩, pf, pw, po⟩ := pd
  have w0 := wq.1
  have w2 := wq.2.2.1
  have w11 := wq.2.2.2.2.2.2.2.2.2.2.2
  have v5 : vp_in (nI (A 3)) 5 := vp_nI h5 (by decide)
  unfold f_X6_addFolk
  rw [p10, nI_cl (by omega)]
  refine ⟨v5, fun M2 e2 => ?_⟩
  have a2 : M2 33 10 = nI (A 3) := by rw [e2, gU_cell (by omega)]; exact p10
  rw [a2, nI_cl (by omega)]
  refine ⟨v5, fun M5 e5 => ?_⟩
  have a5 : M5 33 10 = nI (A 3) := by rw [e5, gU_cell (by omega)]; exact a2
  rw [a5, nI_cl (by omega)]
  refine ⟨v5, fun M8 e8 => ?_⟩
  have a8 : M8 33 10 = nI (A 3) := by rw [e8, gU_cell (by omega)]; exact a5
  rw [a8, nI_cl (by omega)]
  refine ⟨v5, fun M11 e11 M13 e13 => ?_⟩
  have a11 : M11 33 10 = nI (A 3) := by rw [e11, gU_cell (by omega)]; exact a8
  rw [a11, nI_1] at e13
  have o : ∀ q, q ≠ 33 → q ≠ 36 → q ≠ 37 → q ≠ 38 → q ≠ 39 → M13 q = M q := fun q q1 q2 q3 q4 q5 => by rw [e13, gU_cell q1, e11, gU_cell (by omega), e8, gU_cell (by omega), e5, gU_cell (by omega), e2, gU_cell (by omega)]
  have b : ∀ j, j ≠ 10 → M13 33 j = M 33 j := fun j q => by rw [e13, gU_place q, e11, gU_cell (by omega), e8, gU_cell (by omega), e5, gU_cell (by omega), e2, gU_cell (by omega)]
  refine hK M13 (fun q hq => o q (by omega) (by omega) (by omega) (by omega) (by omega)) ?_
  unfold PapD
  rw [folkA_3, folkA_n (show 0 ≠ 3 by omega) (by omega) (by omega) (by omega), folkA_n (show 1 ≠ 3 by omega) (by omega) (by omega) (by omega), folkA_n (show 2 ≠ 3 by omega) (by omega) (by omega) (by omega), b 7 (by omega), b 8 (by omega), b 9 (by omega), b 12 (by omega), b 13 (by omega), o 34 (by omega) (by omega) (by omega) (by omega) (by omega), o 35 (by omega) (by omega) (by omega) (by omega) (by omega)]
  refine ⟨⟨p7, p8, p9, by rw [e13, gU_same], p12, p13⟩, fun c hc => by rw [folkA_n (by omega) (by omega) (by omega) (by omega)]; exact pf c hc, fun u hu => by rw [folkA_n (by omega) (by omega) (by omega) (by omega)]; exact pw u hu, fun g hg => ?_⟩
  have k36 : M13 36 = M2 36 := by rw [e13, gU_cell (by omega), e11, gU_cell (by omega), e8, gU_cell (by omega), e5, gU_cell (by omega)]
  have k37 : M13 37 = M5 37 := by rw [e13, gU_cell (by omega), e11, gU_cell (by omega), e8, gU_cell (by omega)]
  have k38 : M13 38 = M8 38 := by rw [e13, gU_cell (by omega), e11, gU_cell (by omega)]
  have k39 : M13 39 = M11 39 := by rw [e13, gU_cell (by omega)]
  have z37 : M2 37 = M 37 := by rw [e2, gU_cell (by omega)]
  have z38 : M5 38 = M 38 := by rw [e5, gU_cell (by omega), e2, gU_cell (by omega)]
  have z39 : M8 39 = M 39 := by rw [e8, gU_cell (by omega), e5, gU_cell (by omega), e2, gU_cell (by omega)]
  have y36 : M2 36 g = if g = A 3 then nI k else M 36 g := by rw [e2]; exact gU_now g
  have y37 : M5 37 g = if g = A 3 then nI h else M2 37 g := by rw [e5]; exact gU_now g
  have y38 : M8 38 g = if g = A 3 then nI w else M5 38 g := by rw [e8]; exact gU_now g
  have y39 : M11 39 g = if g = A 3 then 0 else M8 39 g := by rw [e11]; exact gU_now g
  rw [k36, k37, k38, k39, y36, y37, y38, y39, z37, z38, z39]
  by_cases e : g = A 3
  · rw [if_pos e, if_pos e, if_pos e, if_pos e, e, folkA_k, folkA_h, folkA_w, folkA_n (by omega) (by omega) (by omega) (by omega), w11 (A 3) h5]
    exact ⟨rfl, rfl, rfl, rfl⟩
  · rw [if_neg e, if_neg e, if_neg e, if_neg e, folkA_n (by omega) (by omega) (by omega) (by omega), folkA_n (by omega) (by omega) (by omega) (by omega), folkA_n (by omega) (by omega) (by omega) (by omega), folkA_n (by omega) (by omega) (by omega) (by omega)]
    exact po g (by omega)
theorem c_folkL (x : TpX X T) (t0 : TpC X T M0) : ∀ (n k p : Nat) (A : AP) (M : Mm), n + A 3 = 6 → k + n ≤ 90 → StC X T M0 (fun A => 6 ≤ A 0) p A M → (∀ r M', OC X T M0 (fun A => 6 ≤ A 0) (folkL X T n p A) r M' → K r M') → l_X9_readFolk_2 K 33 n (nI k) M := by
  intro n
  induction n with
  | zero =>
    intro k p A M hn _ st _
    have := st.2.2.1.2.2.2.1
    omega
  | succ n ih =>
    intro k p A M hn hk st h
    have wq := st.2.2.1
    have w2 := wq.2.2.1
    have w3 := wq.2.2.2.1
    have tl := tkn_lt (X := X) (T := T) (p := p) x
    rw [l_X9_readFolk_2, st.2.1.2.2.1, ct_end tl, e_kind tl]
    refine br_f (by rw [le_I, nI_I (by omega)]; show ¬ (90 : Int) ≤ _; omega) (br_c (fun q => ?_) (fun q => ?_))
    · have e : folkL X T (n + 1) p A = (0, p, A) := by
        show (if _ then _ else _) = _
        rw [if_pos q]
      exact h 1 M (OC.ok e st)
    · have kl := kd_le (tkn X T p)
      rw [nI_is0 (by omega), st.2.2.2.2.1.2.2.2.1]
      refine br_c (fun z => ?_) (fun z => br_c (fun q5 => ?_) (fun q5 => ?_))
      · have e : folkL X T (n + 1) p A = (1, p, A) := by
          show (if _ then _ else _) = _
          rw [if_neg q, if_pos z]
        exact s_failC (e := 1) st.1 st.2.1.2.1 rfl (fun M' fa => ⟨Or.inl rfl, h 0 M' (OC.no (e := 1) e (by omega) fa)⟩)
      · rw [lt_I, nI_I (by omega)] at q5
        have q5 : (A 3 : Int) < 5 := q5
        have kp := kd_pos z
        have nd : ¬ dg X T p = true := fun d => by have := (tkn_dg x).mp d; omega
        have e : folkL X T (n + 1) p A = bnd (nO X T 0 (A 2) (p + 1) A) (fun p2 _ => bnd (eO X T 44 p2 A) (fun p3 _ => bnd (nO X T 0 1 p3 A) (fun p4 _ => bnd (eO X T 59 p4 (folkA A (kd (tkn X T p)) (vl X T (p + 1)) (vl X T p3))) (fun p5 A5 => folkL X T n p5 A5)))) := by
          show (if _ then _ else _) = _
          rw [if_neg q, if_neg z, if_neg (by omega)]
        rw [e] at h
        refine s_stepC x t0 st (by omega) (fun M7 s7 _ _ => ?_)
        rw [wd_1 nd] at s7
        rw [s7.2.2.2.2.1.2.2.1]
        refine s_numC (lo := 0) (hi := A 2) x t0 s7 (by omega) (by omega) rfl rfl (fun q2 b M8 s8 v8 f8 => br_f (by decide) ?_) (fun q2 b M5 fa => br_t rfl (h 0 M5 (OC.no (e := 2) (p' := p + 1) (A' := A) (by rw [nO_2 q2 b, bnd_e (by omega)]) (by omega) fa))) (fun q2 M5 fa => br_t rfl (h 0 M5 (OC.no (e := 1) (p' := p + 1) (A' := A) (by rw [nO_1 q2, bnd_e (by omega)]) (by omega) fa)))
        rw [nO_t q2 b, bnd_0] at h
        rw [v8]
        refine s_passC (c := 44) x t0 s8 (by omega) rfl (fun q3 M11 s11 f11 => br_f (by decide) ?_) (fun q3 M13 fa => br_t rfl (h 0 M13 (OC.no (e := 1) (A' := A) (by rw [eO_f q3, bnd_e (by omega)]) (by omega) fa)))
        rw [eO_t q3, bnd_0] at h
        refine s_numC (lo := 0) (hi := 1) x t0 s11 (by omega) (by omega) rfl rfl (fun q4 b4 M14 s14 v14 f14 => br_f (by decide) ?_) (fun q4 b4 M5 fa => br_t rfl (h 0 M5 (OC.no (e := 2) (A' := A) (by rw [nO_2 q4 b4, bnd_e (by omega)]) (by omega) fa))) (fun q4 M5 fa => br_t rfl (h 0 M5 (OC.no (e := 1) (A' := A) (by rw [nO_1 q4, bnd_e (by omega)]) (by omega) fa)))
        rw [nO_t q4 b4, bnd_0] at h
        rw [v14]
        refine s_addFolk wq (by omega) s14.2.2.2.2 (fun M17 f17 pd17 => ?_)
        have s17 : StC X T M0 (fun A => 6 ≤ A 0) (p + 1 + wd X T (p + 1) + 1 + wd X T (p + 1 + wd X T (p + 1) + 1)) (folkA A (kd (tkn X T p)) (vl X T (p + 1)) (vl X T (p + 1 + wd X T (p + 1) + 1))) M17 := by
          obtain ⟨f, kk, wq, φ, pd⟩ := s14
          have c24 : M17 24 = M14 24 := f17 24 (by omega)
          refine ⟨⟨fun k q1 q2 => by rw [f17 k q2]; exact f.1 k q1 q2, by rw [c24]; exact f.2⟩, ?_, wq.folk (by omega) ⟨by omega, kl⟩ b.2 b4.2, show 6 ≤ folkA A _ _ _ 0 by rw [folkA_n (by omega) (by omega) (by omega) (by omega)]; exact φ, pd17⟩
          unfold TkC at kk ⊢; rw [c24]; exact kk
        refine s_passC (c := 59) x t0 s17 (by omega) rfl (fun q6 M18 s18 f18 => br_f (by decide) ?_) (fun q6 M18 fa => br_t rfl (h 0 M18 (OC.no (e := 1) (A' := folkA A (kd (tkn X T p)) (vl X T (p + 1)) (vl X T (p + 1 + wd X T (p + 1) + 1))) (by rw [eO_f q6, bnd_e (by omega)]) (by omega) fa)))
        rw [eO_t q6, bnd_0] at h
        rw [nI_1]
        exact ih (k + 1) _ _ M18 (by rw [folkA_3]; omega) (by omega) s18 h
      · rw [lt_I, nI_I (by omega)] at q5
        have q5 : ¬ (A 3 : Int) < 5 := q5
        have e : folkL X T (n + 1) p A = (3, p, A) := by
          show (if _ then _ else _) = _
          rw [if_neg q, if_neg z, if_pos (by omega)]
        exact s_failC (e := 3) st.1 st.2.1.2.1 rfl (fun M' fa => ⟨Or.inl rfl, h 0 M' (OC.no (e := 3) e (by omega) fa)⟩)
end
