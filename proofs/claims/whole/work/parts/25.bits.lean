theorem nI_and (a b : Nat) : nI a &&& nI b = nI (a &&& b) := by
  apply Int32.toBitVec_inj.1
  show BitVec.ofNat 32 a &&& BitVec.ofNat 32 b = BitVec.ofNat 32 (a &&& b)
  apply BitVec.eq_of_getLsbD_eq
  intro i hi
  simp [hi]
theorem nI_or (a b : Nat) : nI a ||| nI b = nI (a ||| b) := by
  apply Int32.toBitVec_inj.1
  show BitVec.ofNat 32 a ||| BitVec.ofNat 32 b = BitVec.ofNat 32 (a ||| b)
  apply BitVec.eq_of_getLsbD_eq
  intro i hi
  simp [hi]
theorem nI_xor (a b : Nat) : nI a ^^^ nI b = nI (a ^^^ b) := by
  apply Int32.toBitVec_inj.1
  show BitVec.ofNat 32 a ^^^ BitVec.ofNat 32 b = BitVec.ofNat 32 (a ^^^ b)
  apply BitVec.eq_of_getLsbD_eq
  intro i hi
  simp [hi]
theorem nI_m1 : (-1 : Int32) = nI 4294967295 := by decide
theorem sh_l : ∀ n, n < 32 → ((nI n &&& 31).toBitVec.smod 32).toNat = n := by decide +kernel
theorem nI_shl {a k : Nat} (hk : k < 32) (h : a * 2 ^ k < 2 ^ 32) : nI a <<< (nI k &&& 31) = nI (a * 2 ^ k) := pk_shlN _ k (sh_l k hk) h
theorem nI_shl1 {k : Nat} (hk : k < 32) : (1 : Int32) <<< (nI k &&& 31) = nI (2 ^ k) := by
  have h := nI_shl (a := 1) hk (by rw [Nat.one_mul]; exact Nat.pow_lt_pow_right (by omega) hk)
  rw [Nat.one_mul] at h
  exact h
theorem nI_shr {a k : Nat} (hk : k < 32) (h : a < 2147483648) : nI a >>> (nI k &&& 31) = nI (a / 2 ^ k) := pk_shrN h _ k (sh_l k hk)
theorem nI_bit {a k : Nat} (hk : k < 32) (h : a < 2147483648) : (nI a >>> (nI k &&& 31)) &&& 1 = nI (a / 2 ^ k % 2) := by
  rw [nI_shr hk h, show (1 : Int32) = nI 1 from rfl, nI_and]
  congr 1
  exact Nat.and_one_is_mod _
theorem bit_mod {a k : Nat} : a / 2 ^ k % 2 = if a.testBit k then 1 else 0 := by
  have h := Nat.testBit_eq_decide_div_mod_eq (x := a) (i := k)
  rw [h]
  by_cases h2 : a / 2 ^ k % 2 = 1
  · simp [h2]
  · simp [h2]; omega
/-- the number of ones below n -/
def bc (X : Nat) : Nat → Nat
  | 0 => 0
  | n + 1 => bc X n + X / 2 ^ n % 2
theorem bc_le (X : Nat) : ∀ n, bc X n ≤ n
  | 0 => Nat.le_refl _
  | n + 1 => by have := bc_le X n; unfold bc; omega
theorem bc_add (X m : Nat) : ∀ n, bc X (m + n) = bc X m + bc (X / 2 ^ m) n
  | 0 => rfl
  | n + 1 => by
    show bc X (m + n) + X / 2 ^ (m + n) % 2 = bc X m + (bc (X / 2 ^ m) n + X / 2 ^ m / 2 ^ n % 2)
    rw [bc_add X m n, Nat.pow_add, Nat.div_div_eq_div_mul]
    omega
theorem bc_mod (X m : Nat) : ∀ n, n ≤ m → bc (X % 2 ^ m) n = bc X n
  | 0, _ => rfl
  | n + 1, h => by
    unfold bc
    rw [bc_mod X m n (by omega)]
    have h1 := bit_mod (a := X % 2 ^ m) (k := n)
    have h2 := bit_mod (a := X) (k := n)
    rw [h1, h2, Nat.testBit_mod_two_pow]
    simp [show n < m by omega]
theorem and_byte {p P m Q : Nat} (hp : p < 256) (hm : m < 256) : (p + 256 * P) &&& (m + 256 * Q) = (p &&& m) + 256 * (P &&& Q) := by
  have e1 : p + 256 * P = 2 ^ 8 * P + p := by omega
  have e2 : m + 256 * Q = 2 ^ 8 * Q + m := by omega
  have h3 : (p &&& m) < 2 ^ 8 := Nat.and_lt_two_pow _ hm
  have e3 : (p &&& m) + 256 * (P &&& Q) = 2 ^ 8 * (P &&& Q) + (p &&& m) := by omega
  rw [e1, e2, e3]
  apply Nat.eq_of_testBit_eq
  intro i
  rw [Nat.testBit_and, Nat.testBit_two_pow_mul_add _ hp, Nat.testBit_two_pow_mul_add _ hm, Nat.testBit_two_pow_mul_add _ h3]
  by_cases h : i < 8 <;> simp [h]
def g1 (a : Nat) : Nat := a - (a / 2 &&& 85)
def g2 (a : Nat) : Nat := (a &&& 51) + (a / 4 &&& 51)
def g3 (a : Nat) : Nat := (a + a / 16) &&& 15
theorem d_1 : ∀ a, a < 256 → ∀ r, r < 2 → ((a / 2 + 128 * r) &&& 85) = (a / 2 &&& 85) := by decide +kernel
theorem d_1c : ∀ a, a < 256 → (a / 2 &&& 21845) = (a / 2 &&& 85) ∧ (a / 2 &&& 85) ≤ a := by decide +kernel
theorem d_2 : ∀ a, a < 256 → ∀ r, r < 4 → ((a / 4 + 64 * r) &&& 51) = (a / 4 &&& 51) := by decide +kernel
theorem d_2c : ∀ a, a < 256 → (a / 4 &&& 13107) = (a / 4 &&& 51) ∧ (a &&& 13107) = (a &&& 51) ∧ g2 a ≤ 102 := by decide +kernel
theorem d_g : ∀ a, a < 256 → g1 a < 256 ∧ g2 (g1 a) ≤ 68 ∧ g2 (g1 a) % 16 ≤ 4 ∧ g3 (g2 (g1 a)) = bc a 8 := by decide +kernel
theorem d_3 : ∀ a, a ≤ 68 → ∀ r, r ≤ 4 → ((a + a / 16 + 16 * r) &&& 15) = g3 a := by decide +kernel
theorem d_3c : ∀ a, a ≤ 68 → ((a + a / 16) &&& 3855) = g3 a := by decide +kernel
theorem swar {X : Nat} (hX : X < 16777216) : ∃ Y Z W : Nat, Y = X - (X / 2 &&& 1431655765) ∧ (X / 2 &&& 1431655765) ≤ X ∧ Z = (Y &&& 858993459) + (Y / 4 &&& 858993459) ∧ W = ((Z + Z / 16) &&& 252645135) ∧ Y < 4294967296 ∧ Z < 2147483648 ∧ W < 1073741824 ∧ ((W + W / 256 + (W + W / 256) / 65536) &&& 63) = bc X 24 := by
  obtain ⟨a, b, c, ha, hb, hc, rfl⟩ : ∃ a b c : Nat, a < 256 ∧ b < 256 ∧ c < 256 ∧ X = a + 256 * (b + 256 * c) := ⟨X % 256, X / 256 % 256, X / 65536, by omega, by omega, by omega, by omega⟩
  have i1 : (a + 256 * (b + 256 * c)) / 2 = (a / 2 + 128 * (b % 2)) + 256 * ((b / 2 + 128 * (c % 2)) + 256 * (c / 2)) := by omega
  have m1 : (1431655765 : Nat) = 85 + 256 * (85 + 256 * 21845) := by decide
  have j1 : ((a + 256 * (b + 256 * c)) / 2 &&& 1431655765) = (a / 2 &&& 85) + 256 * ((b / 2 &&& 85) + 256 * (c / 2 &&& 85)) := by
    rw [i1, m1, and_byte (by omega) (by omega), and_byte (by omega) (by omega), d_1 a ha _ (by omega), d_1 b hb _ (by omega), (d_1c c hc).1]
  have l1 := (d_1c a ha).2
  have l2 := (d_1c b hb).2
  have l3 := (d_1c c hc).2
  obtain ⟨ga1, ga2, ga3, ga4⟩ := d_g a ha
  obtain ⟨gb1, gb2, gb3, gb4⟩ := d_g b hb
  obtain ⟨gc1, gc2, gc3, gc4⟩ := d_g c hc
  have hY : (a + 256 * (b + 256 * c)) - ((a + 256 * (b + 256 * c)) / 2 &&& 1431655765) = g1 a + 256 * (g1 b + 256 * g1 c) := by
    rw [j1]; unfold g1; omega
  generalize hA1 : g1 a = a1 at *
  generalize hB1 : g1 b = b1 at *
  generalize hC1 : g1 c = c1 at *
  have i2 : (a1 + 256 * (b1 + 256 * c1)) / 4 = (a1 / 4 + 64 * (b1 % 4)) + 256 * ((b1 / 4 + 64 * (c1 % 4)) + 256 * (c1 / 4)) := by omega
  have m2 : (858993459 : Nat) = 51 + 256 * (51 + 256 * 13107) := by decide
  have j2 : ((a1 + 256 * (b1 + 256 * c1)) &&& 858993459) + ((a1 + 256 * (b1 + 256 * c1)) / 4 &&& 858993459) = g2 a1 + 256 * (g2 b1 + 256 * g2 c1) := by
    rw [i2, m2, and_byte ga1 (by omega), and_byte gb1 (by omega), and_byte (by omega) (by omega), and_byte (by omega) (by omega), d_2 a1 ga1 _ (by omega), d_2 b1 gb1 _ (by omega), (d_2c c1 gc1).1, (d_2c c1 gc1).2.1]
    unfold g2; omega
  generalize hA2 : g2 a1 = a2 at *
  generalize hB2 : g2 b1 = b2 at *
  generalize hC2 : g2 c1 = c2 at *
  have i3 : (a2 + 256 * (b2 + 256 * c2)) + (a2 + 256 * (b2 + 256 * c2)) / 16 = (a2 + a2 / 16 + 16 * (b2 % 16)) + 256 * ((b2 + b2 / 16 + 16 * (c2 % 16)) + 256 * (c2 + c2 / 16)) := by omega
  have m3 : (252645135 : Nat) = 15 + 256 * (15 + 256 * 3855) := by decide
  have j3 : ((a2 + 256 * (b2 + 256 * c2)) + (a2 + 256 * (b2 + 256 * c2)) / 16 &&& 252645135) = g3 a2 + 256 * (g3 b2 + 256 * g3 c2) := by
    rw [i3, m3, and_byte (by omega) (by omega), and_byte (by omega) (by omega), d_3 a2 ga2 _ (by omega), d_3 b2 gb2 _ (by omega), d_3c c2 gc2]
  have la := bc_le a 8
  have lb := bc_le b 8
  have lc := bc_le c 8
  refine ⟨_, _, _, rfl, ?_, rfl, rfl, ?_, ?_, ?_, ?_⟩
  · rw [j1]; omega
  · rw [hY]; omega
  · rw [hY, j2]; omega
  · rw [hY, j2, j3, ga4, gb4, gc4]; omega
  · rw [hY, j2, j3, ga4, gb4, gc4]
    have e63 : ∀ n : Nat, (n &&& 63) = n % 64 := fun n => Nat.and_two_pow_sub_one_eq_mod n 6
    rw [e63]
    have s1 : bc (a + 256 * (b + 256 * c)) 24 = bc a 8 + (bc b 8 + bc c 8) := by
      rw [show 24 = 8 + (8 + 8) from rfl, bc_add, bc_add]
      have x1 : (a + 256 * (b + 256 * c)) / 2 ^ 8 = b + 256 * c := by omega
      have x2 : (b + 256 * c) / 2 ^ 8 = c := by omega
      rw [x1, x2, ← bc_mod (a + 256 * (b + 256 * c)) 8 8 (by omega), ← bc_mod (b + 256 * c) 8 8 (by omega)]
      rw [show (a + 256 * (b + 256 * c)) % 2 ^ 8 = a by omega, show (b + 256 * c) % 2 ^ 8 = b by omega]
    rw [s1]
    clear s1 j3 m3 i3 j2 m2 i2 hY j1 m1 i1
    generalize bc a 8 = x at *
    generalize bc b 8 = y at *
    generalize bc c 8 = z at *
    have w1 : (x + 256 * (y + 256 * z)) / 256 = y + 256 * z := by omega
    have w2 : (x + 256 * (y + 256 * z) + (y + 256 * z)) / 65536 = z := by omega
    rw [w1, w2]
    omega
theorem e_bitCount {X : Nat} (hX : X < 16777216) (M : Mm) (K : Int32 → Mm → Prop) : f_J6_bitCount_0f7a4 (nI X) M K = K (nI (bc X 24)) M := by
  obtain ⟨Y, Z, W, hY, hle, hZ, hW, b1, b2, b3, b4⟩ := swar hX
  unfold f_J6_bitCount_0f7a4
  have u1 : ∀ {n : Nat}, n < 2 ^ 32 → ((nI n).toUInt32 >>> ((1 : Int32).toUInt32 &&& Int32.toUInt32 31)).toInt32 = nI (n / 2) := fun h => pk_ushrN h 1 1 (by decide)
  have u2 : ∀ {n : Nat}, n < 2 ^ 32 → ((nI n).toUInt32 >>> ((2 : Int32).toUInt32 &&& Int32.toUInt32 31)).toInt32 = nI (n / 4) := fun h => pk_ushrN h 2 2 (by decide)
  have u4 : ∀ {n : Nat}, n < 2 ^ 32 → ((nI n).toUInt32 >>> ((4 : Int32).toUInt32 &&& Int32.toUInt32 31)).toInt32 = nI (n / 16) := fun h => pk_ushrN h 4 4 (by decide)
  have u8 : ∀ {n : Nat}, n < 2 ^ 32 → ((nI n).toUInt32 >>> ((8 : Int32).toUInt32 &&& Int32.toUInt32 31)).toInt32 = nI (n / 256) := fun h => pk_ushrN h 8 8 (by decide)
  have u16 : ∀ {n : Nat}, n < 2 ^ 32 → ((nI n).toUInt32 >>> ((16 : Int32).toUInt32 &&& Int32.toUInt32 31)).toInt32 = nI (n / 65536) := fun h => pk_ushrN h 16 16 (by decide)
  have k1 : (1431655765 : Int32) = nI 1431655765 := rfl
  have k2 : (858993459 : Int32) = nI 858993459 := rfl
  have k3 : (252645135 : Int32) = nI 252645135 := rfl
  have k4 : (63 : Int32) = nI 63 := rfl
  have q1 : nI X - (((nI X).toUInt32 >>> ((1 : Int32).toUInt32 &&& Int32.toUInt32 31)).toInt32 &&& 1431655765) = nI Y := by
    rw [u1 (by omega), k1, nI_and, pk_sub hle, hY]
  rw [q1]
  have q2 : (nI Y &&& 858993459) + (((nI Y).toUInt32 >>> ((2 : Int32).toUInt32 &&& Int32.toUInt32 31)).toInt32 &&& 858993459) = nI Z := by
    rw [u2 (by omega), k2, nI_and, nI_and, nI_add, hZ]
  rw [q2]
  have q3 : (nI Z + ((nI Z).toUInt32 >>> ((4 : Int32).toUInt32 &&& Int32.toUInt32 31)).toInt32) &&& 252645135 = nI W := by
    rw [u4 (by omega), k3, nI_add, nI_and, hW]
  rw [q3]
  have q4 : nI W + ((nI W).toUInt32 >>> ((8 : Int32).toUInt32 &&& Int32.toUInt32 31)).toInt32 = nI (W + W / 256) := by
    rw [u8 (by omega), nI_add]
  rw [q4, u16 (by omega), nI_add, k4, nI_and, b4]
theorem e_bitsOf {X : Nat} (hX : X < 16777216) (M : Mm) (K : Int32 → Mm → Prop) (h : K (nI (bc X 24)) M) : f_X12_bitsOf (nI X) M K := by
  have L : ∀ (k i : Nat), i + k = 24 → l_X12_bitsOf_4 K (nI X) (k + 1) (nI (bc X i)) (nI i) M := by
    intro k
    induction k with
    | zero =>
      intro i hi
      rw [l_X12_bitsOf_4]
      refine br_t (show (24 : Int32) ≤ nI i by rw [le_I, nI_I (by omega)]; show (24 : Int) ≤ _; omega) ?_
      rw [show i = 24 by omega]
      exact h
    | succ k ih =>
      intro i hi
      rw [l_X12_bitsOf_4]
      refine br_f (show ¬ (24 : Int32) ≤ nI i by rw [le_I, nI_I (by omega)]; show ¬ (24 : Int) ≤ _; omega) ?_
      rw [nI_bit (by omega) (by omega), nI_add, nI_1]
      exact ih (i + 1) (by omega)
  exact ⟨25, L 24 0 rfl⟩
