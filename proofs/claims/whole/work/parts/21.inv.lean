/-! THE INVARIANT between the class's memory Mc and the reference's memory Mr -/
abbrev AP : Type := Nat → Nat
/-- the numbers below n of which p holds, as bits -/
def msk (p : Nat → Bool) : Nat → Nat
  | 0 => 0
  | n + 1 => msk p n + if p n then 2 ^ n else 0
theorem msk_lt (p : Nat → Bool) : ∀ n, msk p n < 2 ^ n
  | 0 => by simp [msk]
  | n + 1 => by
    have h := msk_lt p n
    have h2 : 2 ^ (n + 1) = 2 ^ n + 2 ^ n := by rw [Nat.pow_succ]; omega
    unfold msk
    by_cases hp : p n = true
    · rw [if_pos hp]; omega
    · rw [if_neg hp]; omega
theorem msk_bit (p : Nat → Bool) : ∀ n i, (msk p n).testBit i = (decide (i < n) && p i)
  | 0, i => by simp [msk]
  | n + 1, i => by
    have ih := msk_bit p n i
    have hlt := msk_lt p n
    unfold msk
    by_cases hp : p n = true
    · rw [if_pos hp, Nat.add_comm]
      rcases Nat.lt_trichotomy i n with h | h | h
      · rw [Nat.testBit_two_pow_add_gt h, ih]
        simp [h, Nat.lt_succ_of_lt h]
      · subst h
        rw [Nat.testBit_two_pow_add_eq, ih]
        simp [hp]
      · have h2 : 2 ^ (n + 1) = 2 ^ n + 2 ^ n := by rw [Nat.pow_succ]; omega
        have h3 : 2 ^ (n + 1) ≤ 2 ^ i := Nat.pow_le_pow_right (by omega) h
        rw [Nat.testBit_lt_two_pow (by omega)]
        have : ¬ i < n + 1 := by omega
        simp [this]
    · rw [if_neg hp, Nat.add_zero, ih]
      by_cases h : i = n
      · subst h; simp [hp]
      · have : (i < n + 1) ↔ i < n := by omega
        simp [this]
/-- A: 0 cells, 1 law, 2 walls, 3 folk, 4.. figures, 28.. kinds; 33 day, 34.. walls, 39 faded, 40.. houses, 45.. ways, 50.. knows -/
def rising (A : AP) : Nat := msk (fun c => c == 0 || decide (A (4 + (c - 1)) < A (4 + c))) (A 0)
def WFb (D : Nat) (A : AP) : Prop := (6 ≤ A 0 ∧ A 0 ≤ 24) ∧ A 1 ≤ 24 ∧ A 2 ≤ 5 ∧ A 3 ≤ 5 ∧ (∀ c, c < A 0 → A (4 + c) ≤ 9) ∧ (∀ f, f < A 3 → 1 ≤ A (28 + f) ∧ A (28 + f) ≤ 5) ∧ A 33 ≤ D ∧ (∀ w, w < A 2 → 1 ≤ A (34 + w) ∧ A (34 + w) < A 0) ∧ (∀ w, w + 1 < A 2 → A (34 + w) < A (34 + (w + 1))) ∧ A 39 < 2 ^ A 0 ∧ (∀ f, f < A 3 → A (40 + f) ≤ A 2 ∧ A (45 + f) ≤ 1 ∧ A (50 + f) < 2 ^ A 0)
abbrev WF (A : AP) : Prop := WFb 9999 A
def PapC (M : Mm) (b : Nat) (A : AP) : Prop := (M b 7 = nI (A 1) ∧ M b 8 = nI (A 0) ∧ M b 9 = nI (A 2) ∧ M b 10 = nI (A 3) ∧ M b 11 = nI (rising A) ∧ M b 12 = nI (A 39) ∧ M b 13 = nI (A 33)) ∧ (∀ c, c < A 0 → M (b + 1) c = nI (A (4 + c))) ∧ (∀ w, w < A 2 → M (b + 2) w = nI (A (34 + w))) ∧ (∀ f, f < A 3 → M (b + 3) f = nI (A (28 + f)) ∧ M (b + 4) f = nI (A (40 + f)) ∧ M (b + 5) f = nI (A (45 + f)) ∧ M (b + 6) f = nI (A (50 + f)))
def PapR (told now : Nat → Int32) (A : AP) : Prop := (∀ i, i < 33 → told i = nI (A i)) ∧ ∀ j, j < 22 → now j = nI (A (33 + j))
def joinA (A S : AP) : AP := fun i => if i < 33 then A i else S (i - 33)
def SceneC (M : Mm) (a : Nat) (A S : AP) : Prop := M a 0 = nI (S 0) ∧ M a 1 = nI (S 6) ∧ (∀ w, w < A 2 → M a (2 + w) = nI (S (1 + w))) ∧ ∀ f, f < A 3 → M a (7 + f) = nI (S (7 + f)) ∧ M a (12 + f) = nI (S (12 + f)) ∧ M a (17 + f) = nI (S (17 + f))
def RowOne (Mc Mr : Mm) (r : Nat) : Prop := (Mc (2 + 2 * r) 1 = -1 ∧ Mr 1 r = -1000000) ∨ ∃ L S : Nat, L < 3 ∧ S ≤ 40 ∧ Mc (2 + 2 * r) 1 = nI L ∧ Mr 1 r = nI L ∧ Mc (2 + 2 * r) 2 = nI S ∧ Mr 2 r = nI S ∧ ∀ k, k < 40 → Mc (2 + 2 * r + 1) k = Mr 3 (40 * r + k)
def RowsRel (Mc Mr : Mm) : Prop := ∀ r, r < 8 → RowOne Mc Mr r
def TapeRel (Mc Mr : Mm) : Prop := ∃ t : Nat, t ≤ 90 ∧ Mc 24 1 = nI t ∧ Mr 0 6 = nI t ∧ ∀ j, j < t → ∃ x : Nat, x < 256 ∧ Mc 25 j = nI x ∧ Mr 5 j = (nI x).toInt8.toInt32
def TraceRel (Mc Mr : Mm) : Prop := ∃ n : Nat, n ≤ 16 ∧ Mc 64 1 = nI n ∧ Mr 0 26 = nI n ∧ ∀ j, j < n → Mc 65 j = Mr 16 j
def ActsRel (Mc Mr : Mm) (A : AP) : Prop := ∃ k x : Nat, k ≤ 24 ∧ x < 24 ∧ Mc 0 9 = nI k ∧ Mc 0 10 = nI x ∧ Mr 0 19 = nI k ∧ ∀ j, j < k → ∃ S : AP, WF (joinA A S) ∧ SceneC Mc (67 + (x + 24 - k + j) % 24) A S ∧ ∀ i, i < 22 → Mr 11 (22 * j + i) = nI (S i)
def ImgRel (Mc Mr : Mm) (k : Nat) : Prop := (Mr 14 k = 0 ∧ Mc (41 + 7 * k) 8 = 0) ∨ (Mr 14 k = 1 ∧ ∃ A : AP, WF A ∧ PapC Mc (41 + 7 * k) A ∧ (∀ i, i < 33 → Mr 12 (33 * k + i) = nI (A i)) ∧ ∀ j, j < 22 → Mr 13 (22 * k + j) = nI (A (33 + j)))
def ReadRel (Mr : Mm) (A : AP) : Prop := (Mr 0 20 = 0 ∧ (∀ i, A i = 0) ∧ Mr 14 0 = 0 ∧ Mr 14 1 = 0 ∧ Mr 0 19 = 0) ∨ (Mr 0 20 = 1 ∧ WF A)
def PartP (Mc Mr : Mm) : Prop := Mc 0 12 = Mr 0 12 ∧ TapeRel Mc Mr ∧ TraceRel Mc Mr ∧ ∃ A : AP, PapC Mc 26 A ∧ PapR (Mr 7) (Mr 9) A ∧ ActsRel Mc Mr A ∧ ImgRel Mc Mr 0 ∧ ImgRel Mc Mr 1 ∧ ReadRel Mr A
def Inv (Mc Mr : Mm) : Prop := RowsRel Mc Mr ∧ Mc 0 11 = Mr 0 4 ∧ PartP Mc Mr
theorem PapC.congr {M M' : Mm} {b : Nat} {A : AP} (h : PapC M b A) (e : ∀ k, b ≤ k → k ≤ b + 6 → M' k = M k) : PapC M' b A := by
  unfold PapC at h ⊢
  rw [e b (by omega) (by omega), e (b + 1) (by omega) (by omega), e (b + 2) (by omega) (by omega), e (b + 3) (by omega) (by omega), e (b + 4) (by omega) (by omega), e (b + 5) (by omega) (by omega), e (b + 6) (by omega) (by omega)]
  exact h
theorem SceneC.congr {M M' : Mm} {a : Nat} {A S : AP} (h : SceneC M a A S) (e : M' a = M a) : SceneC M' a A S := by
  unfold SceneC at h ⊢
  rw [e]
  exact h
theorem RowsRel.congr {Mc Mr Mc' Mr' : Mm} (h : RowsRel Mc Mr) (e : ∀ k, 2 ≤ k → k ≤ 17 → Mc' k = Mc k) (e1 : Mr' 1 = Mr 1) (e2 : Mr' 2 = Mr 2) (e3 : Mr' 3 = Mr 3) : RowsRel Mc' Mr' := by
  intro r hr
  have h := h r hr
  unfold RowOne at h ⊢
  rw [e (2 + 2 * r) (by omega) (by omega), e (2 + 2 * r + 1) (by omega) (by omega), e1, e2, e3]
  exact h
theorem TapeRel.congr {Mc Mr Mc' Mr' : Mm} (h : TapeRel Mc Mr) (e1 : Mc' 24 1 = Mc 24 1) (e2 : Mc' 25 = Mc 25) (e3 : Mr' 0 6 = Mr 0 6) (e4 : Mr' 5 = Mr 5) : TapeRel Mc' Mr' := by
  unfold TapeRel at h ⊢
  rw [e1, e2, e3, e4]
  exact h
theorem TraceRel.congr {Mc Mr Mc' Mr' : Mm} (h : TraceRel Mc Mr) (e1 : Mc' 64 1 = Mc 64 1) (e2 : Mc' 65 = Mc 65) (e3 : Mr' 0 26 = Mr 0 26) (e4 : Mr' 16 = Mr 16) : TraceRel Mc' Mr' := by
  unfold TraceRel at h ⊢
  rw [e1, e2, e3, e4]
  exact h
theorem ActsRel.congr {Mc Mr Mc' Mr' : Mm} {A : AP} (h : ActsRel Mc Mr A) (e1 : Mc' 0 9 = Mc 0 9) (e2 : Mc' 0 10 = Mc 0 10) (e : ∀ k, 67 ≤ k → Mc' k = Mc k) (e3 : Mr' 0 19 = Mr 0 19) (e4 : Mr' 11 = Mr 11) : ActsRel Mc' Mr' A := by
  obtain ⟨k, x, h1, h2, h3, h4, h5, h6⟩ := h
  refine ⟨k, x, h1, h2, by rw [e1, h3], by rw [e2, h4], by rw [e3, h5], fun j hj => ?_⟩
  obtain ⟨S, a, b, c⟩ := h6 j hj
  exact ⟨S, a, b.congr (e _ (by omega)), by rw [e4]; exact c⟩
theorem ImgRel.congr {Mc Mr Mc' Mr' : Mm} {k : Nat} (h : ImgRel Mc Mr k) (e : ∀ q, 41 + 7 * k ≤ q → q ≤ 41 + 7 * k + 6 → Mc' q = Mc q) (e1 : Mr' 14 = Mr 14) (e2 : Mr' 12 = Mr 12) (e3 : Mr' 13 = Mr 13) : ImgRel Mc' Mr' k := by
  unfold ImgRel at h ⊢
  rw [e1, e2, e3, e (41 + 7 * k) (by omega) (by omega)]
  rcases h with h | ⟨h1, A, a, b, c⟩
  · exact Or.inl h
  · exact Or.inr ⟨h1, A, a, b.congr e, c⟩
/-- the part of the paper, where only rows and the finding have changed -/
theorem PartP.congr {Mc Mr Mc' Mr' : Mm} (h : PartP Mc Mr) (h0 : ∀ j, j ≠ 11 → Mc' 0 j = Mc 0 j) (hk : ∀ k, 18 ≤ k → Mc' k = Mc k) (r0 : ∀ j, j ≠ 4 → Mr' 0 j = Mr 0 j) (rk : ∀ k, 5 ≤ k → Mr' k = Mr k) : PartP Mc' Mr' := by
  obtain ⟨a, b, c, A, d, e, f, g1, g2, g3⟩ := h
  refine ⟨by rw [h0 12 (by omega), r0 12 (by omega), a], b.congr (by rw [hk 24 (by omega)]) (hk 25 (by omega)) (r0 6 (by omega)) (rk 5 (by omega)), c.congr (by rw [hk 64 (by omega)]) (hk 65 (by omega)) (r0 26 (by omega)) (rk 16 (by omega)), A, d.congr (fun k h1 h2 => hk k (by omega)), ?_, f.congr (h0 9 (by omega)) (h0 10 (by omega)) (fun k hk' => hk k (by omega)) (r0 19 (by omega)) (rk 11 (by omega)), g1.congr (fun q h1 h2 => hk q (by omega)) (rk 14 (by omega)) (rk 12 (by omega)) (rk 13 (by omega)), g2.congr (fun q h1 h2 => hk q (by omega)) (rk 14 (by omega)) (rk 12 (by omega)) (rk 13 (by omega)), ?_⟩
  · rw [rk 7 (by omega), rk 9 (by omega)]; exact e
  · unfold ReadRel at g3 ⊢
    rw [r0 20 (by omega), r0 19 (by omega), rk 14 (by omega)]
    exact g3
theorem e_rowAt (v : Int32) (M : Mm) (K : Option Nat → Mm → Prop) : f_X11_rowAt v M K = if 0 ≤ v.toInt ∧ v.toInt < 8 then K (some (2 + 2 * v.toNatClampNeg)) M else K none M := by
  unfold f_X11_rowAt
  simp only [br_eq, lt_I, le_I, vp_I]
  have e0 : (0 : Int32).toInt = 0 := rfl
  have e8 : (8 : Int32).toInt = 8 := rfl
  rw [e0, e8]
  by_cases h1 : v.toInt < 0
  · rw [if_pos h1, if_neg (by omega)]
  · rw [if_neg h1]
    by_cases h2 : (8 : Int) ≤ v.toInt
    · rw [if_pos h2, if_neg (by omega)]
    · rw [if_neg h2, if_pos (by omega)]
      simp [show 0 ≤ v.toInt ∧ v.toInt < 8 by omega]
theorem e_in (v a b : Int32) (M : Mm) (K : Int32 → Mm → Prop) : f_X12_in v a b M K = K (b2i (a.toInt ≤ v.toInt ∧ v.toInt ≤ b.toInt)) M := by
  unfold f_X12_in
  simp only [br_eq, lt_I]
  by_cases h1 : v.toInt < a.toInt
  · rw [if_pos h1, b2i_f (by omega)]
  · rw [if_neg h1]
    by_cases h2 : b.toInt < v.toInt
    · rw [if_pos h2, b2i_f (by omega)]
    · rw [if_neg h2, b2i_t (by omega)]
theorem e_isRow (v : Int32) (M : Mm) (K : Int32 → Mm → Prop) : f_X12_isRow v M K = K (b2i (0 ≤ v.toInt ∧ v.toInt < 8)) M := by
  unfold f_X12_isRow
  rw [e_in]
  simp only [b2i_01', true_and]
  rw [b2i_c (p := (0 : Int32).toInt ≤ v.toInt ∧ v.toInt ≤ (7 : Int32).toInt) (q := 0 ≤ v.toInt ∧ v.toInt < 8)]
  show 0 ≤ v.toInt ∧ v.toInt ≤ 7 ↔ _
  omega
