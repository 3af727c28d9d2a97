/-- where a house starts; the one behind the last starts at the end -/
def stO (A : AP) (h : Nat) : Nat := if h = 0 then 0 else if h ≤ A 2 then A (34 + (h - 1)) else A 0
theorem stO_0 (A : AP) : stO A 0 = 0 := rfl
theorem stO_s {A : AP} {h : Nat} (hh : h < A 2) : stO A (h + 1) = A (34 + h) := by
  unfold stO; rw [if_neg (by omega), if_pos (by omega)]; rfl
theorem stO_e {A : AP} {h : Nat} (hh : A 2 < h) : stO A h = A 0 := by
  unfold stO; rw [if_neg (by omega), if_neg (by omega)]
theorem stO_le {A : AP} {D : Nat} (w : WFb D A) (h : Nat) : stO A h ≤ A 0 := by
  by_cases h0 : h = 0
  · rw [h0]; exact Nat.zero_le _
  · by_cases h1 : h ≤ A 2
    · obtain ⟨k, rfl⟩ : ∃ k, h = k + 1 := ⟨h - 1, by omega⟩
      rw [stO_s (by omega)]
      have := (w.2.2.2.2.2.2.2.1 k (by omega)).2
      omega
    · rw [stO_e (by omega)]; exact Nat.le_refl _
theorem stO_lt {A : AP} {D : Nat} (w : WFb D A) {h : Nat} (hh : h ≤ A 2) : stO A h < stO A (h + 1) := by
  have w1 := w.1.1
  by_cases he : h = A 2
  · rw [stO_e (h := h + 1) (by omega)]
    by_cases h0 : h = 0
    · rw [h0, stO_0]; omega
    · obtain ⟨k, rfl⟩ : ∃ k, h = k + 1 := ⟨h - 1, by omega⟩
      rw [stO_s (by omega)]
      exact (w.2.2.2.2.2.2.2.1 k (by omega)).2
  · rw [stO_s (by omega)]
    by_cases h0 : h = 0
    · rw [h0, stO_0]; exact (w.2.2.2.2.2.2.2.1 0 (by omega)).1
    · obtain ⟨k, rfl⟩ : ∃ k, h = k + 1 := ⟨h - 1, by omega⟩
      rw [stO_s (by omega)]
      exact w.2.2.2.2.2.2.2.2.1 k (by omega)
theorem e_startOf {b h : Nat} {M : Mm} {A : AP} (p : PapC M b A) (s : Sm A) (hh : h ≤ A 2 + 1) (K : Int32 → Mm → Prop) : f_X6_startOf b (nI h) M K = K (nI (stO A h)) M := by
  have s0 := s.1
  have s2 := s.2.2.1
  simp only [f_X6_startOf, br_eq, lt_I, p.1.2.2.1, p.1.2.1, nI_I (show h < 2147483648 by omega), nI_I (show A 2 < 2147483648 by omega), show (0 : Int32).toInt = 0 from rfl]
  by_cases h0 : h = 0
  · subst h0; rw [if_neg (by omega), stO_0]; rfl
  · rw [if_pos (by omega)]
    by_cases h1 : (A 2 : Int) < h
    · rw [if_pos h1, stO_e (by omega)]
    · obtain ⟨k, rfl⟩ : ∃ k, h = k + 1 := ⟨h - 1, by omega⟩
      rw [if_neg h1, nI_pred, nI_cl (by omega), p.2.2.1 k (by omega), stO_s (by omega)]
      exact propext ⟨fun q => q.2, fun q => ⟨vp_nI (by omega) (by decide), q⟩⟩
def hb (A : AP) (h : Nat) : Nat := 2 ^ stO A (h + 1) - 2 ^ stO A h
theorem e_cellBits {b h : Nat} {M : Mm} {A : AP} (p : PapC M b A) {D : Nat} (w : WFb D A) (hh : h ≤ A 2) (K : Int32 → Mm → Prop) : f_X6_cellBits b (nI h) M K = K (nI (hb A h)) M := by
  have s := w.sm
  have l1 := stO_le w h
  have l2 := stO_le w (h + 1)
  have l3 := stO_lt w hh
  have s0 := s.1
  unfold f_X6_cellBits
  rw [nI_1, e_startOf p s (by omega), e_startOf p s (by omega), nI_shl1 (by omega), nI_shl1 (by omega), pk_sub (Nat.pow_le_pow_right (by omega) (by omega))]
  rfl
theorem e_cellsIn {b h : Nat} {M : Mm} {A : AP} (p : PapC M b A) {D : Nat} (w : WFb D A) (hh : h ≤ A 2) (K : Int32 → Mm → Prop) : f_X6_cellsIn b (nI h) M K = K (nI (stO A (h + 1) - stO A h)) M := by
  have s := w.sm
  have l3 := stO_lt w hh
  unfold f_X6_cellsIn
  rw [nI_1, e_startOf p s (by omega), e_startOf p s (by omega), pk_sub (by omega)]
theorem e_allCells {b : Nat} {M : Mm} {A : AP} (p : PapC M b A) (s : Sm A) (K : Int32 → Mm → Prop) : f_X6_allCells b M K = K (nI (2 ^ A 0 - 1)) M := by
  have s0 := s.1
  unfold f_X6_allCells
  rw [p.1.2.1, nI_shl1 (by omega), show (1 : Int32) = nI 1 from rfl, pk_sub (Nat.one_le_two_pow)]
theorem msk_zero {p : Nat → Bool} : ∀ {n : Nat}, (∀ c, c < n → p c = false) → msk p n = 0
  | 0, _ => rfl
  | n + 1, h => by
    unfold msk
    rw [msk_zero (fun c hc => h c (by omega)), h n (by omega)]
    rfl
theorem msk_rng {s : Nat} : ∀ {e : Nat}, s ≤ e → msk (fun c => decide (s ≤ c)) e = 2 ^ e - 2 ^ s
  | 0, h => by
    have : s = 0 := by omega
    subst this; rfl
  | e + 1, h => by
    unfold msk
    by_cases hs : s ≤ e
    · have h2 : 2 ^ (e + 1) = 2 ^ e + 2 ^ e := by rw [Nat.pow_succ]; omega
      have h3 : 2 ^ s ≤ 2 ^ e := Nat.pow_le_pow_right (by omega) hs
      have h4 : ∀ x y z : Nat, z = x + x → y ≤ x → x - y + x = z - y := by intro x y z; omega
      rw [msk_rng hs, if_pos (by simpa using hs)]
      exact h4 _ _ _ h2 h3
    · have : s = e + 1 := by omega
      subst this
      rw [msk_zero (fun c hc => by simp; omega), if_neg (by simp)]
      omega
theorem hb_bit {A : AP} {D : Nat} (w : WFb D A) {h : Nat} (hh : h ≤ A 2) (c : Nat) : (hb A h).testBit c = (decide (stO A h ≤ c) && decide (c < stO A (h + 1))) := by
  unfold hb
  rw [← msk_rng (Nat.le_of_lt (stO_lt w hh)), msk_bit, Bool.and_comm]
theorem hb_lt {A : AP} {D : Nat} (w : WFb D A) (h : Nat) : hb A h < 16777216 := by
  have l2 := stO_le w (h + 1)
  have := w.1.2
  have h3 : 2 ^ stO A (h + 1) ≤ 2 ^ 24 := Nat.pow_le_pow_right (by omega) (by omega)
  have h4 : 0 < 2 ^ stO A h := Nat.two_pow_pos _
  unfold hb
  omega
def inH (A : AP) (h c : Nat) : Bool := decide (stO A h ≤ c) && decide (c < stO A (h + 1))
def rise (A : AP) (c : Nat) : Bool := c == 0 || decide (A (4 + (c - 1)) < A (4 + c))
def seP (A : AP) (k h c : Nat) : Bool :=
  if k = 2 then (inH A h c || inH A h (c + 1) || (decide (1 ≤ c) && inH A h (c - 1))) && !(A 39).testBit c
  else if k = 3 then inH A h c && decide (c % 2 = 0) && !(A 39).testBit c
  else if k = 4 then inH A h c && rise A c && !(A 39).testBit c
  else if k = 5 then inH A h c && rise A c
  else inH A h c && !(A 39).testBit c
/-- what one of kind k sees in house h -/
def sees (A : AP) (k h : Nat) : Nat := msk (seP A k h) (A 0)
theorem sees_lt (A : AP) (k h : Nat) : sees A k h < 2 ^ A 0 := msk_lt _ _
theorem inH_out {A : AP} {D : Nat} (w : WFb D A) {h c : Nat} (hc : A 0 ≤ c) : inH A h c = false := by
  have := stO_le w (h + 1)
  unfold inH
  have : ¬ c < stO A (h + 1) := by omega
  simp [this]
theorem not_bit (F i : Nat) : (F ^^^ 4294967295).testBit i = (F.testBit i ^^ decide (i < 32)) := by
  rw [Nat.testBit_xor, show (4294967295 : Nat) = 2 ^ 32 - 1 from rfl, Nat.testBit_two_pow_sub_one]
theorem rising_bit (A : AP) (c : Nat) : (rising A).testBit c = (decide (c < A 0) && rise A c) := msk_bit _ _ _
theorem hb_inH {A : AP} {D : Nat} (w : WFb D A) {h : Nat} (hh : h ≤ A 2) (c : Nat) : (hb A h).testBit c = inH A h c := hb_bit w hh c
theorem sees_bit (A : AP) (k h c : Nat) : (sees A k h).testBit c = (decide (c < A 0) && seP A k h c) := msk_bit _ _ _
theorem fd_out {A : AP} {D : Nat} (w : WFb D A) {c : Nat} (hc : A 0 ≤ c) : (A 39).testBit c = false := by
  have h := w.2.2.2.2.2.2.2.2.2.1
  exact Nat.testBit_lt_two_pow (Nat.lt_of_lt_of_le h (Nat.pow_le_pow_right (by omega) hc))
theorem even_bit : ∀ c, c < 24 → (5592405 : Nat).testBit c = decide (c % 2 = 0) := by decide +kernel
theorem se1 {A : AP} {D : Nat} (w : WFb D A) {h : Nat} (hh : h ≤ A 2) : hb A h &&& (A 39 ^^^ 4294967295) = sees A 1 h := by
  have s0 := w.1.2
  apply Nat.eq_of_testBit_eq
  intro c
  rw [Nat.testBit_and, not_bit, hb_inH w hh, sees_bit]
  unfold seP
  by_cases hc : c < A 0
  · simp [hc, show c < 32 by omega]
  · rw [inH_out w (by omega)]; simp [hc]
theorem se2 {A : AP} {D : Nat} (w : WFb D A) {h : Nat} (hh : h ≤ A 2) : (((hb A h ||| hb A h * 2 ^ 1) ||| hb A h / 2 ^ 1) &&& (2 ^ A 0 - 1)) &&& (A 39 ^^^ 4294967295) = sees A 2 h := by
  have s0 := w.1.2
  apply Nat.eq_of_testBit_eq
  intro c
  rw [Nat.testBit_and, Nat.testBit_and, Nat.testBit_or, Nat.testBit_or, not_bit, Nat.testBit_mul_two_pow, Nat.testBit_div_two_pow, Nat.testBit_two_pow_sub_one, hb_inH w hh, hb_inH w hh, hb_inH w hh, sees_bit]
  unfold seP
  rw [if_pos rfl]
  by_cases hc : c < A 0
  · cases inH A h c <;> cases inH A h (c + 1) <;> cases inH A h (c - 1) <;> simp [hc, show c < 32 by omega]
  · simp [hc]
theorem se3 {A : AP} {D : Nat} (w : WFb D A) {h : Nat} (hh : h ≤ A 2) : (hb A h &&& (A 39 ^^^ 4294967295)) &&& 5592405 = sees A 3 h := by
  have s0 := w.1.2
  apply Nat.eq_of_testBit_eq
  intro c
  rw [Nat.testBit_and, Nat.testBit_and, not_bit, hb_inH w hh, sees_bit]
  unfold seP
  by_cases hc : c < A 0
  · rw [even_bit c (by omega)]
    cases inH A h c <;> cases (A 39).testBit c <;> simp [hc, show c < 32 by omega]
  · rw [inH_out w (by omega)]; simp [hc]
theorem se4 {A : AP} {D : Nat} (w : WFb D A) {h : Nat} (hh : h ≤ A 2) : (hb A h &&& rising A) &&& (A 39 ^^^ 4294967295) = sees A 4 h := by
  have s0 := w.1.2
  apply Nat.eq_of_testBit_eq
  intro c
  rw [Nat.testBit_and, Nat.testBit_and, not_bit, hb_inH w hh, sees_bit, rising_bit]
  unfold seP
  by_cases hc : c < A 0
  · simp [hc, show c < 32 by omega]
  · rw [inH_out w (by omega)]; simp [hc]
theorem se5 {A : AP} {D : Nat} (w : WFb D A) {h : Nat} (hh : h ≤ A 2) : hb A h &&& rising A = sees A 5 h := by
  have s0 := w.1.2
  apply Nat.eq_of_testBit_eq
  intro c
  rw [Nat.testBit_and, hb_inH w hh, sees_bit, rising_bit]
  unfold seP
  by_cases hc : c < A 0
  · simp [hc]
  · simp [hc]
theorem e_seenBy {b f : Nat} {M : Mm} {A : AP} (p : PapC M b A) {D : Nat} (w : WFb D A) (hf : f < A 3) (K : Int32 → Mm → Prop) (h : K (nI (sees A (A (28 + f)) (A (40 + f)))) M) : f_X6_seenBy b (nI f) M K := by
  have s := w.sm
  have s3 := s.2.2.2
  have hk := w.2.2.2.2.2.1 f hf
  have hh := (w.2.2.2.2.2.2.2.2.2.2 f hf).1
  have hl := hb_lt w (A (40 + f))
  have p12 := p.1.2.2.2.2.2.1
  have p11 := p.1.2.2.2.2.1
  unfold f_X6_seenBy
  rw [e_sortOf p hf s3 hk]
  refine ⟨(fun q => by cases q), fun q e => ?_⟩
  cases e
  refine ⟨vp_nI (by omega) (by decide), ?_⟩
  rw [nI_cl (by omega), (p.2.2.2 f hf).2.1, e_cellBits p w hh]
  refine ⟨by unfold isFolk; omega, fun e => ?_, fun e => ?_, fun e => ?_, fun e => ?_, fun e => ?_⟩
  · rw [show A (28 + f) = 1 by omega] at h
    unfold f_X5_sees_19
    rw [p12, nI_m1, nI_xor, nI_and, se1 w hh]
    exact h
  · rw [show A (28 + f) = 2 by omega] at h
    unfold f_X10_sees_20
    rw [e_allCells p s, p12, nI_m1, nI_xor, show (1 : Int32) = nI 1 from rfl, nI_shl (by omega) (by omega), nI_shr (by omega) (by omega), nI_or, nI_or, nI_and, nI_and, se2 w hh]
    exact h
  · rw [show A (28 + f) = 3 by omega] at h
    unfold f_X8_sees_21 f_X5_sees_21
    rw [p12, nI_m1, nI_xor, nI_and]
    show K (nI _ &&& 5592405) M
    rw [show (5592405 : Int32) = nI 5592405 from rfl, nI_and, se3 w hh]
    exact h
  · rw [show A (28 + f) = 4 by omega] at h
    unfold f_X2_sees_22
    rw [p12, p11, nI_m1, nI_xor, nI_and, nI_and, se4 w hh]
    exact h
  · rw [show A (28 + f) = 5 by omega] at h
    unfold f_X1_sees_23
    rw [p11, nI_and, se5 w hh]
    exact h
