theorem e_has {b : Nat} {S : Nat} (i n : Int32) {M : Mm} (hM : M b 2 = nI S) (hS : S ≤ 40) (K : Int32 → Mm → Prop) : f_X7_has b i n M K = K (b2i (0 ≤ i.toInt ∧ 0 ≤ n.toInt ∧ i.toInt + n.toInt ≤ S)) M := by
  have e0 : (0 : Int32).toInt = 0 := rfl
  have hr := i_rng n
  simp only [f_X7_has, br_eq, lt_I, e0, hM]
  by_cases h1 : i.toInt < 0
  · rw [if_pos h1, b2i_f (by omega)]
  · rw [if_neg h1]
    by_cases h2 : n.toInt < 0
    · rw [if_pos h2, b2i_f (by omega)]
    · rw [if_neg h2, i_sub (by rw [nI_I (by omega)]; omega) (by rw [nI_I (by omega)]; omega), nI_I (by omega)]
      by_cases h3 : (S : Int) - n.toInt < i.toInt
      · rw [if_pos h3, b2i_f (by omega)]
      · rw [if_neg h3, b2i_t (by omega)]
theorem e_isIn {r : Nat} (hr : r < 8) {S : Nat} (i n : Int32) {M : Mm} (hM : M 2 r = nI S) (hS : S ≤ 40) (K : Int32 → Mm → Prop) : f_X12_isIn (nI r) i n M K = K (b2i (0 ≤ i.toInt ∧ 0 ≤ n.toInt ∧ i.toInt + n.toInt ≤ S)) M := by
  have e0 : (0 : Int32).toInt = 0 := rfl
  have hn := i_rng n
  have hi := i_rng i
  have hv : vp_in (nI r) 8 := vp_nI hr (by decide)
  simp only [f_X12_isIn, br_eq, lt_I, e0, nI_cl (show r < 2147483648 by omega), hM, hv, true_and]
  by_cases h1 : i.toInt < 0
  · rw [if_pos h1, b2i_f (by omega)]
  · rw [if_neg h1]
    by_cases h2 : n.toInt < 0
    · rw [if_pos h2, b2i_f (by omega)]
    · rw [if_neg h2, nI_I (by omega)]
      by_cases h3 : (S : Int) < i.toInt
      · rw [if_pos h3, b2i_f (by omega)]
      · rw [if_neg h3, i_sub (by rw [nI_I (by omega)]; omega) (by rw [nI_I (by omega)]; omega), nI_I (by omega)]
        by_cases h4 : (S : Int) - i.toInt < n.toInt
        · rw [if_pos h4, b2i_f (by omega)]
        · rw [if_neg h4, b2i_t (by omega)]
def narL (L : Nat) (v : Int32) : Int32 := if L = 0 then v.toInt8.toInt32 else if L = 1 then v.toInt16.toInt32 else v
theorem nI_ne {a b : Nat} (ha : a < 2147483648) (hb : b < 2147483648) : (nI a = nI b) = (a = b) := propext (nI_eq ha hb)
theorem nI_is0 {a : Nat} (ha : a < 2147483648) : (nI a = (0 : Int32)) = (a = 0) := nI_ne ha (by decide)
theorem nI_is1 {a : Nat} (ha : a < 2147483648) : (nI a = (1 : Int32)) = (a = 1) := nI_ne ha (by decide)
theorem nI_neg {a : Nat} (ha : a < 2147483648) {z : Int32} (hz : z.toInt < 0) : (nI a = z) = False := by
  apply eq_false
  intro h
  rw [← h, nI_I ha] at hz
  omega
theorem e_store {b i L : Nat} (hi : i < 40) (hL : L < 3) (v : Int32) {M : Mm} (hM : M b 1 = nI L) (K : Int32 → Mm → Prop) : f_X7_store b (nI i) v M K = K (narL L v) (gU M (b + 1) i (narL L v)) := by
  have hv : vp_in (nI i) 40 := vp_nI hi (by decide)
  have hx : ∀ (s : Int32), f_X7_store_26 K b (nI i) s M = K s (gU M (b + 1) i s) := by
    intro s
    simp only [f_X7_store_26, hv, true_and, nI_cl (show i < 2147483648 by omega)]
    exact propext ⟨fun h => h _ rfl, fun h _ e => by rw [e]; exact h⟩
  simp only [f_X7_store, br_eq, hM, hx, nI_is0 (show L < 2147483648 by omega), nI_is1 (show L < 2147483648 by omega), narL]
  by_cases h0 : L = 0
  · simp [h0]
  · by_cases h1 : L = 1
    · simp [h1]
    · simp [h0, h1]
theorem e_rset {r i L : Nat} (hr : r < 8) (hi : i < 40) (s : Int32) {M : Mm} (K : Int32 → Mm → Prop) (q : Nat) : f_X12_set_89 K (nI r) (nI i) s (40 * nI r + nI i) q M = K s (gU (gU M 3 (40 * r + i) s) 0 4 0) := by
  have e1 : (40 : Int32) * nI r + nI i = nI (40 * r + i) := by
    rw [show (40 : Int32) = nI 40 from rfl, pk_mul, nI_add]
  have hv : vp_in (nI (40 * r + i)) 320 := vp_nI (by omega) (by decide)
  simp only [f_X12_set_89, e1, hv, true_and, nI_cl (show 40 * r + i < 2147483648 by omega), e_well]
  exact propext ⟨fun h => by have := h _ rfl; rw [gU_same] at this; exact this, fun h _ e => by rw [e, gU_same]; exact h⟩
theorem op_set {Mc Mr : Mm} (hI : Inv Mc Mr) (a b c : Int32) : f_X11_set a b c Mc (fun r Mc' => f_X12_set a b c Mr (fun r' Mr' => r = r' ∧ Inv Mc' Mr')) := by
  have e0 : (0 : Int32).toInt = 0 := rfl
  have e1 : (1 : Int32).toInt = 1 := rfl
  simp only [f_X11_set, f_X12_set, e_rowAt, e_isRow, e_missing, br_eq, b2i_0]
  by_cases ha : 0 ≤ a.toInt ∧ a.toInt < 8
  · simp only [if_pos ha, not_true, if_false, ha, reduceCtorEq, false_implies, true_and, Option.some.injEq, forall_eq', and_self]
    obtain ⟨r, hr, rfl⟩ := of_arg (n := 8) (by decide) ha
    rw [nI_cl (by omega)]
    refine ⟨by unfold isRow; omega, ?_⟩
    have hv : vp_in (nI r) 8 := vp_nI hr (by decide)
    simp only [hv, true_and]
    rcases hI.1 r hr with ⟨m1, m2⟩ | ⟨L, S, hL, hS, m1, m2, m3, m4, m5⟩
    · simp only [m1, m2, e_found, e_rfound, not_true, if_false, if_true]
      exact ⟨trivial, hI.find 1⟩
    · have n1 : ¬ (nI L = (-1 : Int32)) := by rw [nI_neg (by omega) (by decide)]; exact id
      have n2 : ¬ (nI L = (-1000000 : Int32)) := by rw [nI_neg (by omega) (by decide)]; exact id
      simp only [m1, m2, m4, n1, n2, not_false_eq_true, if_true, if_false, e_has b 1 m3 hS, e_in, b2i_0, e0, e1]
      have hb := i_rng b
      rw [i_sub (by rw [nI_I (by omega), e1]; omega) (by rw [nI_I (by omega), e1]; omega), nI_I (by omega), e1]
      by_cases hp : 0 ≤ b.toInt ∧ b.toInt < S
      · have hp1 : (0 ≤ b.toInt ∧ (0 : Int) ≤ 1 ∧ b.toInt + 1 ≤ S) := by omega
        have hp2 : (0 ≤ b.toInt ∧ b.toInt ≤ (S : Int) - 1) := by omega
        obtain ⟨i, hi, rfl⟩ := of_arg (n := S) (a := b) (by omega) hp
        simp only [hp1, hp2, not_true, if_false, and_self, e_store (show i < 40 by omega) hL c m1, e_sound, e_rset (L := L) hr (show i < 40 by omega), nI_is0 (show L < 2147483648 by omega), nI_is1 (show L < 2147483648 by omega)]
        have fin : Inv (gU (gU Mc (2 + 2 * r + 1) i (narL L c)) 0 11 0) (gU (gU Mr 3 (40 * r + i) (narL L c)) 0 4 0) := by
          refine Inv.find ?_ 0
          obtain ⟨h1, h2, h3⟩ := hI
          refine ⟨h1.one hr (fun k _ _ q1 q2 => gU_cell q2) (fun j _ _ => by rw [gU_cell (by omega)]) (fun j _ _ => by rw [gU_cell (by omega)]) (fun j hj => by rw [gU_place (by omega)]) (Or.inr ⟨L, S, hL, hS, by rw [gU_cell (by omega)]; exact m1, by rw [gU_cell (by omega)]; exact m2, by rw [gU_cell (by omega)]; exact m3, by rw [gU_cell (by omega)]; exact m4, fun k hk => ?_⟩), by rw [gU_cell (by omega), gU_cell (by omega)]; exact h2, h3.congr (fun j hj => by rw [gU_cell (by omega)]) (fun k hk => gU_cell (by omega)) (fun j hj => by rw [gU_cell (by omega)]) (fun k hk => gU_cell (by omega))⟩
          rw [gU_at, gU_at]
          by_cases hki : k = i
          · subst hki; simp
          · rw [if_neg (by omega), if_neg (by omega)]; exact m5 k hk
        by_cases h0 : L = 0
        · subst h0; exact ⟨rfl, fin⟩
        · by_cases h1 : L = 1
          · subst h1; exact ⟨rfl, fin⟩
          · simp only [h0, h1, if_false]
            have hn : narL L c = c := by simp [narL, h0, h1]
            rw [hn] at fin ⊢
            exact ⟨rfl, fin⟩
      · have hp1 : ¬ (0 ≤ b.toInt ∧ (0 : Int) ≤ 1 ∧ b.toInt + 1 ≤ S) := by omega
        have hp2 : ¬ (0 ≤ b.toInt ∧ b.toInt ≤ (S : Int) - 1) := by omega
        simp only [hp1, hp2, not_false_eq_true, if_true, e_found, e_rfound]
        exact ⟨trivial, hI.find 2⟩
  · simp only [if_neg ha, ha, not_false_eq_true, if_true, true_implies, reduceCtorEq, false_implies, implies_true, and_true]
    first | exact hI | exact ⟨trivial, hI⟩
theorem op_status {Mc Mr : Mm} (hI : Inv Mc Mr) : f_X11_status Mc (fun r Mc' => f_X12_status Mr (fun r' Mr' => r = r' ∧ Inv Mc' Mr')) := by
  unfold f_X11_status f_X12_status
  exact ⟨hI.2.1, hI⟩
theorem op_fault {Mc Mr : Mm} (hI : Inv Mc Mr) : f_X11_fault Mc (fun r Mc' => f_X12_fault Mr (fun r' Mr' => r = r' ∧ Inv Mc' Mr')) := by
  unfold f_X11_fault f_X12_fault
  exact ⟨hI.2.2.1, hI⟩
