/-! THE PURE PART: words for numbers, branches and memories -/
theorem br_eq {c A B : Prop} [Decidable c] : ((c → A) ∧ (¬ c → B)) = (if c then A else B) := by
  by_cases h : c <;> simp [h]
def b2i (p : Prop) [Decidable p] : Int32 := if p then 1 else 0
theorem b2i_t {p : Prop} [Decidable p] (h : p) : b2i p = 1 := if_pos h
theorem b2i_f {p : Prop} [Decidable p] (h : ¬ p) : b2i p = 0 := if_neg h
theorem b2i_0 {p : Prop} [Decidable p] : (b2i p = 0) = ¬ p := by
  by_cases h : p <;> simp [b2i, h]
theorem b2i_1 {p : Prop} [Decidable p] : (b2i p = 1) = p := by
  by_cases h : p <;> simp [b2i, h]
theorem b2i_01 {p : Prop} [Decidable p] : b2i p = 0 ∨ b2i p = 1 := by
  by_cases h : p <;> simp [b2i, h]
theorem b2i_01' {p : Prop} [Decidable p] : (b2i p = 0 ∨ b2i p = 1) = True := eq_true b2i_01
theorem b2i_c {p q : Prop} [Decidable p] [Decidable q] (h : p ↔ q) : b2i p = b2i q := by
  by_cases hp : p
  · rw [b2i_t hp, b2i_t (h.mp hp)]
  · rw [b2i_f hp, b2i_f (fun hq => hp (h.mpr hq))]
theorem gU_at {M : Mm} {k j : Nat} {v : Int32} (a i : Nat) : gU M k j v a i = if a = k ∧ i = j then v else M a i := by
  unfold gU va_up upd
  by_cases h : a = k
  · subst h
    by_cases h2 : i = j <;> simp [h2]
  · simp [h]
theorem gU_same {M : Mm} {k j : Nat} {v : Int32} : gU M k j v k j = v := by rw [gU_at]; simp
theorem gU_cell {M : Mm} {k j : Nat} {v : Int32} {a : Nat} (h : a ≠ k) : gU M k j v a = M a := by
  unfold gU va_up
  simp [h]
theorem gU_place {M : Mm} {k j : Nat} {v : Int32} {a i : Nat} (h : i ≠ j) : gU M k j v a i = M a i := by
  rw [gU_at]; simp [h]
theorem gCp_at {M : Mm} {a b sp dp n : Nat} (c i : Nat) : gCp M a b sp dp n c i = if c = b ∧ dp ≤ i ∧ i < dp + n then M a (sp + (i - dp)) else M c i := by
  unfold gCp va_up va_cpy
  by_cases h : c = b
  · subst h
    by_cases h2 : dp ≤ i ∧ i < dp + n <;> simp [h2]
  · simp [h]
theorem gCp_cell {M : Mm} {a b sp dp n c : Nat} (h : c ≠ b) : gCp M a b sp dp n c = M c := by
  unfold gCp va_up
  simp [h]
theorem lt_I (a b : Int32) : a < b ↔ a.toInt < b.toInt := Int32.lt_iff_toInt_lt
theorem le_I (a b : Int32) : a ≤ b ↔ a.toInt ≤ b.toInt := Int32.le_iff_toInt_le
theorem eq_I (a b : Int32) : a = b ↔ a.toInt = b.toInt := Int32.toInt_inj.symm
theorem nI_I {n : Nat} (h : n < 2147483648) : (nI n).toInt = (n : Int) := nI_toInt h
theorem nI_cl {n : Nat} (h : n < 2147483648) : (nI n).toNatClampNeg = n := nI_clamp h
/-- a number from outside: below 0, at least n, or one of 0 .. n - 1 -/
theorem arg (x : Int32) (n : Nat) (hn : n < 2147483648) : x.toInt < 0 ∨ (n : Int) ≤ x.toInt ∨ ∃ j : Nat, j < n ∧ x = nI j := by
  rcases pk_ix x (n := n) hn with h | h | h
  · left
    have := (lt_I _ _).mp h
    simpa using this
  · right; left
    have := (le_I _ _).mp h
    rw [nI_I hn] at this
    exact this
  · right; right; exact h
theorem vp_I {x : Int32} {n : Nat} : vp_in x n ↔ 0 ≤ x.toInt ∧ x.toInt < n := vp_in_iff
theorem vp_nI {n N : Nat} (h : n < N) (hN : N < 2147483648) : vp_in (nI n) N := vp_in_nI h hN
theorem i_add {x y : Int32} (h1 : -2147483648 ≤ x.toInt + y.toInt) (h2 : x.toInt + y.toInt < 2147483648) : (x + y).toInt = x.toInt + y.toInt := by
  rw [Int32.toInt_add]
  exact Int.bmod_eq_of_le (by simpa using h1) (by simpa using h2)
theorem i_sub {x y : Int32} (h1 : -2147483648 ≤ x.toInt - y.toInt) (h2 : x.toInt - y.toInt < 2147483648) : (x - y).toInt = x.toInt - y.toInt := by
  rw [Int32.toInt_sub]
  exact Int.bmod_eq_of_le (by simpa using h1) (by simpa using h2)
theorem i_mul {x y : Int32} (h1 : -2147483648 ≤ x.toInt * y.toInt) (h2 : x.toInt * y.toInt < 2147483648) : (x * y).toInt = x.toInt * y.toInt := by
  rw [Int32.toInt_mul]
  exact Int.bmod_eq_of_le (by simpa using h1) (by simpa using h2)
theorem i_rng (x : Int32) : -2147483648 ≤ x.toInt ∧ x.toInt < 2147483648 := ⟨Int32.le_toInt x, Int32.toInt_lt x⟩
/-- an int that is a natural number, by its toInt -/
theorem nI_eqI {x : Int32} {n : Nat} (h : x.toInt = (n : Int)) : x = nI n := by
  have h2 := (i_rng x).2
  apply Int32.toInt_inj.mp
  rw [nI_I (by omega)]
  exact h
