/-- where only what is scratch has changed -/
theorem Inv.scr {Mc Mr Mc' Mr' : Mm} (hI : Inv Mc Mr) (ck : ∀ k, ¬ (33 ≤ k ∧ k ≤ 39) → ¬ (55 ≤ k ∧ k ≤ 63) → Mc' k = Mc k) (rk : ∀ k, k ≠ 4 → k ≠ 6 → k ≠ 8 → k ≠ 10 → k ≠ 15 → Mr' k = Mr k) : Inv Mc' Mr' := by
  obtain ⟨h1, h2, h3⟩ := hI
  have hp := h3
  obtain ⟨p1, p2, p3, -⟩ := hp
  refine ⟨h1.congr (fun k _ _ => ck k (by omega) (by omega)) (rk 1 (by omega) (by omega) (by omega) (by omega) (by omega)) (rk 2 (by omega) (by omega) (by omega) (by omega) (by omega)) (rk 3 (by omega) (by omega) (by omega) (by omega) (by omega)), ?_, ?_⟩
  · rw [ck 0 (by omega) (by omega), rk 0 (by omega) (by omega) (by omega) (by omega) (by omega)]; exact h2
  · have c0 := ck 0 (by omega) (by omega)
    have r0 := rk 0 (by omega) (by omega) (by omega) (by omega) (by omega)
    exact h3.but (by rw [c0, r0]; exact p1) (p2.congr (by rw [ck 24 (by omega) (by omega)]) (ck 25 (by omega) (by omega)) (by rw [r0]) (rk 5 (by omega) (by omega) (by omega) (by omega) (by omega))) (p3.congr (by rw [ck 64 (by omega) (by omega)]) (ck 65 (by omega) (by omega)) (by rw [r0]) (rk 16 (by omega) (by omega) (by omega) (by omega) (by omega))) (by rw [c0]) (by rw [c0]) (fun k _ => ck k (by omega) (by omega)) (by rw [r0]) (by rw [r0]) (fun k _ => rk k (by omega) (by omega) (by omega) (by omega) (by omega))
theorem ReadRel.of3 {Mr : Mm} {A : AP} (h : ReadRel Mr A) {f : Nat} (hf : f < A 3) : WF A := by
  rcases h with ⟨_, h, _⟩ | ⟨_, h⟩
  · rw [h 3] at hf; omega
  · exact h
theorem pow24 {a n : Nat} (h : a < 2 ^ n) (hn : n ≤ 24) : a < 16777216 :=
  Nat.lt_of_lt_of_le h (Nat.pow_le_pow_right (by omega) hn)
theorem both_bc {a b : Nat} (ha : a < 16777216) (hb : b < 16777216) : ∃ X Y : Nat, X = ((a * 2 ^ 1) &&& b) &&& (a ^^^ 4294967295) ∧ Y = (a &&& (b / 2 ^ 1)) &&& ((a / 2 ^ 1) ^^^ 4294967295) ∧ X < 16777216 ∧ Y < 16777216 ∧ bc X 24 = bc Y 24 := by
  refine ⟨_, _, rfl, rfl, ?_, ?_, ?_⟩
  · exact Nat.lt_of_le_of_lt Nat.and_le_left (Nat.lt_of_le_of_lt Nat.and_le_right hb)
  · exact Nat.lt_of_le_of_lt Nat.and_le_left (Nat.lt_of_le_of_lt Nat.and_le_left ha)
  · generalize hX : ((a * 2 ^ 1) &&& b) &&& (a ^^^ 4294967295) = X
    generalize hY : (a &&& (b / 2 ^ 1)) &&& ((a / 2 ^ 1) ^^^ 4294967295) = Y
    have hs : ∀ i, i < 31 → X.testBit (i + 1) = Y.testBit i := by
      intro i hi
      rw [← hX, ← hY]
      rw [Nat.testBit_and, Nat.testBit_and, Nat.testBit_and, Nat.testBit_and, not_bit, not_bit, Nat.testBit_mul_two_pow, Nat.testBit_div_two_pow, Nat.testBit_div_two_pow]
      simp [show i + 1 < 32 by omega, show i < 32 by omega, Nat.add_comm 1 i]
    have h0 : X.testBit 0 = false := by
      rw [← hX, Nat.testBit_and, Nat.testBit_and, Nat.testBit_mul_two_pow]
      simp
    have hy : Y.testBit 23 = false := by
      rw [← hY, Nat.testBit_and, Nat.testBit_and, Nat.testBit_div_two_pow, Nat.testBit_lt_two_pow (x := b) (by rw [show 1 + 23 = 24 from rfl]; exact hb)]
      simp
    have hn : ∀ n, n < 31 → bc X (n + 1) = bc Y n := by
      intro n
      induction n with
      | zero =>
        intro _
        show bc X 0 + X / 2 ^ 0 % 2 = 0
        rw [bit_mod, h0]; rfl
      | succ n ih =>
        intro hn
        show bc X (n + 1) + X / 2 ^ (n + 1) % 2 = bc Y n + Y / 2 ^ n % 2
        rw [ih (by omega), bit_mod, bit_mod, hs n (by omega)]
    rw [hn 23 (by omega)]
    show _ = bc Y 23 + Y / 2 ^ 23 % 2
    rw [bit_mod, hy]; rfl
theorem op_both {Mc Mr : Mm} (hI : Inv Mc Mr) (a b c : Int32) : f_X11_both a b c Mc (fun r Mc' => f_X12_both a b c Mr (fun r' Mr' => r = r' ∧ Inv Mc' Mr')) := by
  obtain ⟨-, -, -, -, -, A, hC, hR, -, -, -, hr⟩ := id hI
  have s := hr.sm
  have s3 := s.2.2.2
  simp only [f_X11_both, f_X12_both, e_hasFolk hC s, e_isOne hR hr, e_isBit, e_in, bit01, br_eq, b2i_0]
  by_cases ha : 0 ≤ a.toInt ∧ a.toInt < A 3
  · simp only [if_neg (not_not_intro ha)]
    by_cases hb : 0 ≤ b.toInt ∧ b.toInt < A 3
    · simp only [if_neg (not_not_intro hb)]
      by_cases hab : a = b
      · simp only [if_pos hab]; first | exact hI | exact ⟨trivial, hI⟩
      · simp only [if_neg hab]
        by_cases hc : 0 ≤ c.toInt ∧ c.toInt < 2
        · simp only [if_neg (not_not_intro hc)]
          obtain ⟨f, hf, rfl⟩ := of_arg (n := A 3) (a := a) (by omega) ha
          obtain ⟨g, hg, rfl⟩ := of_arg (n := A 3) (a := b) (by omega) hb
          have w := hr.of3 hf
          have kf := pow24 (w.2.2.2.2.2.2.2.2.2.2 f hf).2.2 w.1.2
          have kg := pow24 (w.2.2.2.2.2.2.2.2.2.2 g hg).2.2 w.1.2
          have m1 : Mc (26 + 6) f = nI (A (50 + f)) := (hC.2.2.2 f hf).2.2.2
          have m2 : Mc (26 + 6) g = nI (A (50 + g)) := (hC.2.2.2 g hg).2.2.2
          have r1 : Mr 9 (17 + f) = nI (A (50 + f)) := by rw [hR.2 (17 + f) (by omega), show 33 + (17 + f) = 50 + f by omega]
          have r2 : Mr 9 (17 + g) = nI (A (50 + g)) := by rw [hR.2 (17 + g) (by omega), show 33 + (17 + g) = 50 + g by omega]
          have q1 : nI (A (50 + f)) <<< ((1 : Int32) &&& 31) = nI (A (50 + f) * 2 ^ 1) := nI_shl (k := 1) (by omega) (by omega)
          have q2 : ∀ {x : Nat}, x < 16777216 → nI x >>> ((1 : Int32) &&& 31) = nI (x / 2 ^ 1) := fun hx => nI_shr (k := 1) (by omega) (by omega)
          obtain ⟨X, Y, hX, hY, lX, lY, hb'⟩ := both_bc kf kg
          simp only [c_add (c := 17) (n := 17) rfl, nI_cl (show f < 2147483648 by omega), nI_cl (show g < 2147483648 by omega), nI_cl (show 17 + f < 2147483648 by omega), nI_cl (show 17 + g < 2147483648 by omega), m1, m2, r1, r2, q1, q2 kf, q2 kg, nI_m1, nI_and, nI_xor, ← hX, ← hY]
          refine ⟨vp_nI (by omega) (by decide), vp_nI (by omega) (by decide), ?_⟩
          by_cases h0 : c = 0
          · rw [if_pos h0]
            refine ⟨vp_nI (by omega) (by decide), vp_nI (by omega) (by decide), ?_⟩
            rw [if_pos h0]; first | exact ⟨trivial, hI⟩ | exact ⟨rfl, hI⟩
          · rw [if_neg h0, e_bitCount lX]
            refine ⟨vp_nI (by omega) (by decide), vp_nI (by omega) (by decide), ?_⟩
            rw [if_neg h0]
            exact e_bitsOf lY _ _ ⟨by rw [hb'], hI⟩
        · simp only [if_pos hc]; first | exact hI | exact ⟨trivial, hI⟩
    · simp only [if_pos hb]; first | exact hI | exact ⟨trivial, hI⟩
  · simp only [if_pos ha]; first | exact hI | exact ⟨trivial, hI⟩
/-- by a period the picture goes on, as far as one knows it -/
def gonP (A : AP) (kn a t : Nat) : Prop := kn.testBit a = true → kn.testBit t = true → A (4 + a) = A (4 + t)
def gon1 (A : AP) (kn p a : Nat) : Prop := ∀ j, a + (j + 1) * p < A 0 → gonP A kn a (a + (j + 1) * p)
def gon (A : AP) (kn p : Nat) : Prop := ∀ a, a < A 0 → gon1 A kn p a
theorem s_goesOnBy {b kn p D : Nat} {M : Mm} {A : AP} (pc : PapC M b A) (w : WFb D A) (hk : kn < 16777216) (hp : 1 ≤ p ∧ p ≤ 24) {K : Int32 → Mm → Prop} (h1 : gon A kn p → K 1 M) (h0 : ¬ gon A kn p → K 0 M) : f_X6_goesOnBy b (nI kn) (nI p) M K := by
  have s0 := w.1.2
  have w5 := w.2.2.2.2.1
  have m8 := pc.1.2.1
  have L33 : ∀ (c : Nat) (k9 : Int32 → Mm → Prop), c < A 0 → kn.testBit c = true → (gon1 A kn p c → k9 (nI (c + 1)) M) → (¬ gon1 A kn p c → K 0 M) → ∀ (z j : Nat), A 0 ≤ c + (j + 1) * p + z → c + (j + 1) * p ≤ A 0 + p → (∀ i, i < j → gonP A kn c (c + (i + 1) * p)) → l_X6_goesOnBy_33 K k9 b (nI kn) (nI p) (nI c) (z + 1) (nI (c + (j + 1) * p)) M := by
    intro c k9 hc hkc g1 g0 z
    induction z with
    | zero =>
      intro j hz hle hj
      rw [l_X6_goesOnBy_33, m8]
      refine br_t (by rw [le_I, nI_I (by omega), nI_I (by omega)]; omega) ?_
      rw [nI_1]
      refine g1 (fun i hi => hj i ?_)
      refine Nat.lt_of_not_le (fun q => ?_)
      have := Nat.mul_le_mul_right p (show j + 1 ≤ i + 1 by omega)
      omega
    | succ z ih =>
      intro j hz hle hj
      rw [l_X6_goesOnBy_33, m8]
      refine br_c (fun q => ?_) (fun q => ?_)
      · rw [le_I, nI_I (by omega), nI_I (by omega)] at q
        rw [nI_1]
        refine g1 (fun i hi => hj i ?_)
        refine Nat.lt_of_not_le (fun q2 => ?_)
        have := Nat.mul_le_mul_right p (show j + 1 ≤ i + 1 by omega)
        omega
      · rw [le_I, nI_I (by omega), nI_I (by omega)] at q
        have hlt : c + (j + 1) * p < A 0 := by omega
        have hn : (j + 1 + 1) * p = (j + 1) * p + p := Nat.succ_mul _ _
        have nx : nI (c + (j + 1) * p) + nI p = nI (c + (j + 1 + 1) * p) := by rw [nI_add]; congr 1; omega
        rw [e_bitOf (by omega) (by omega), bit_mod, nx, nI_cl (by omega), nI_cl (by omega), pc.2.1 _ hlt, pc.2.1 c hc, nI_ne (by have := w5 _ hlt; omega) (by have := w5 _ hc; omega)]
        have go : gonP A kn c (c + (j + 1) * p) → l_X6_goesOnBy_33 K k9 b (nI kn) (nI p) (nI c) (z + 1) (nI (c + (j + 1 + 1) * p)) M := by
          intro hg
          refine ih (j + 1) (by omega) (by omega) (fun i hi => ?_)
          by_cases hij : i = j
          · rw [hij]; exact hg
          · exact hj i (by omega)
        by_cases hb : kn.testBit (c + (j + 1) * p) = true
        · rw [if_pos hb]
          refine br_t rfl ⟨vp_nI (by omega) (by decide), vp_nI (by omega) (by decide), br_c (fun e => go (fun _ _ => e.symm)) (fun e => g0 (fun g => e (g j hlt hkc hb).symm))⟩
        · rw [if_neg hb]
          exact br_f (by decide) (go (fun _ x => absurd x hb))
  have L9 : ∀ (j n : Nat), n + j = A 0 → (∀ a, a < n → gon1 A kn p a) → l_X6_goesOnBy_9 K b (nI kn) (nI p) (j + 1) (nI n) M := by
    intro j
    induction j with
    | zero =>
      intro n hn hg
      rw [l_X6_goesOnBy_9, m8]
      refine br_t (by rw [le_I, nI_I (by omega), nI_I (by omega)]; omega) (h1 (fun a ha => hg a (by omega)))
    | succ j ih =>
      intro n hn hg
      have go : gon1 A kn p n → l_X6_goesOnBy_9 K b (nI kn) (nI p) (j + 1) (nI (n + 1)) M := fun g => ih (n + 1) (by omega) (fun a ha => by
        by_cases e : a = n
        · rw [e]; exact g
        · exact hg a (by omega))
      rw [l_X6_goesOnBy_9, m8]
      refine br_f (by rw [le_I, nI_I (by omega), nI_I (by omega)]; omega) ?_
      rw [e_bitOf (by omega) (by omega), bit_mod]
      by_cases hb : kn.testBit n = true
      · rw [if_pos hb]
        refine br_f (by decide) ⟨A 0 + 1, ?_⟩
        have := L33 n _ (by omega) hb go (fun g => h0 (fun g2 => g (g2 n (by omega)))) (A 0) 0 (by omega) (by omega) (fun i hi => by omega)
        rw [show nI n + nI p = nI (n + (0 + 1) * p) by rw [nI_add]; congr 1; omega]
        exact this
      · rw [if_neg hb, nI_1]
        exact br_t rfl (go (fun _ _ x => absurd x hb))
  unfold f_X6_goesOnBy
  refine br_t (by rw [le_I, nI_I (by omega)]; show (1 : Int) ≤ _; omega) ⟨A 0 + 1, L9 (A 0) 0 (by omega) (fun a ha => by omega)⟩
theorem s_goesOn {c kn p D : Nat} {M : Mm} {A : AP} (pr : PapR (M 7) (M c) A) (w : WFb D A) (hk : kn < 16777216) (hp : 1 ≤ p ∧ p ≤ 24) {K : Int32 → Mm → Prop} (h1 : gon A kn p → K 1 M) (h0 : ¬ gon A kn p → K 0 M) : f_X12_goesOn (nI kn) (nI p) M K := by
  have s0 := w.1.2
  have w5 := w.2.2.2.2.1
  have t0 : M 7 (0 : Int32).toNatClampNeg = nI (A 0) := pr.1 0 (by omega)
  have L22 : ∀ (a : Nat) (k5 : Int32 → Int32 → Mm → Prop) (P : Prop), a < A 0 → (P ∧ gon1 A kn p a → k5 1 (nI (a + 1)) M) → (¬ (P ∧ gon1 A kn p a) → k5 0 (nI (a + 1)) M) → ∀ (z j : Nat) (v : Int32), A 0 ≤ a + (j + 1) * p + z → a + (j + 1) * p ≤ A 0 + p → ((v = 1 ∧ P ∧ ∀ i, i < j → gonP A kn a (a + (i + 1) * p)) ∨ (v = 0 ∧ ¬ (P ∧ gon1 A kn p a))) → l_X12_goesOn_22 K k5 (nI kn) (nI p) (nI a) (z + 1) v (nI (a + (j + 1) * p)) M := by
    intro a k5 P ha g1 g0 z
    induction z with
    | zero =>
      intro j v hz hle hv
      rw [l_X12_goesOn_22, t0]
      refine br_t (by rw [le_I, nI_I (by omega), nI_I (by omega)]; omega) ?_
      rw [nI_1]
      rcases hv with ⟨rfl, hP, hj⟩ | ⟨rfl, hn⟩
      · refine g1 ⟨hP, fun i hi => hj i ?_⟩
        refine Nat.lt_of_not_le (fun q => ?_)
        have := Nat.mul_le_mul_right p (show j + 1 ≤ i + 1 by omega)
        omega
      · exact g0 hn
    | succ z ih =>
      intro j v hz hle hv
      rw [l_X12_goesOn_22, t0]
      refine br_c (fun q => ?_) (fun q => ?_)
      · rw [le_I, nI_I (by omega), nI_I (by omega)] at q
        rw [nI_1]
        rcases hv with ⟨rfl, hP, hj⟩ | ⟨rfl, hn⟩
        · refine g1 ⟨hP, fun i hi => hj i ?_⟩
          refine Nat.lt_of_not_le (fun q2 => ?_)
          have := Nat.mul_le_mul_right p (show j + 1 ≤ i + 1 by omega)
          omega
        · exact g0 hn
      · rw [le_I, nI_I (by omega), nI_I (by omega)] at q
        have hlt : a + (j + 1) * p < A 0 := by omega
        have hn : (j + 1 + 1) * p = (j + 1) * p + p := Nat.succ_mul _ _
        have nx : nI (a + (j + 1) * p) + nI p = nI (a + (j + 1 + 1) * p) := by rw [nI_add]; congr 1; omega
        have f1 : M 7 (4 + a) = nI (A (4 + a)) := pr.1 (4 + a) (by omega)
        have f2 : M 7 (4 + (a + (j + 1) * p)) = nI (A (4 + (a + (j + 1) * p))) := pr.1 _ (by omega)
        simp only [f_X12_goesOn_76]
        rw [e_rhas (by omega) (by omega), e_rhas (by omega) (by omega), bit_mod, bit_mod, nx, c_add (c := 4) (n := 4) rfl, c_add (c := 4) (n := 4) rfl, nI_cl (by omega), nI_cl (by omega), f1, f2, nI_ne (by have := w5 _ ha; omega) (by have := w5 _ hlt; omega)]
        rcases hv with ⟨rfl, hP, hj⟩ | ⟨rfl, hnn⟩
        · have go : gonP A kn a (a + (j + 1) * p) → l_X12_goesOn_22 K k5 (nI kn) (nI p) (nI a) (z + 1) 1 (nI (a + (j + 1 + 1) * p)) M := by
            intro hg
            refine ih (j + 1) 1 (by omega) (by omega) (Or.inl ⟨rfl, hP, fun i hi => ?_⟩)
            by_cases hij : i = j
            · rw [hij]; exact hg
            · exact hj i (by omega)
          refine br_f (by decide) ?_
          by_cases ba : kn.testBit a = true
          · rw [if_pos ba]
            refine br_f (by decide) ?_
            by_cases hb : kn.testBit (a + (j + 1) * p) = true
            · rw [if_pos hb]
              refine br_f (by decide) ⟨vp_nI (by omega) (by decide), vp_nI (by omega) (by decide), br_c (fun e => go (fun _ _ => e)) (fun e => ?_)⟩
              exact ih (j + 1) 0 (by omega) (by omega) (Or.inr ⟨rfl, fun g => e (g.2 j hlt ba hb)⟩)
            · rw [if_neg hb]
              exact br_t rfl (go (fun _ x => absurd x hb))
          · rw [if_neg ba]
            exact br_t rfl (go (fun x _ => absurd x ba))
        · exact br_t rfl (ih (j + 1) 0 (by omega) (by omega) (Or.inr ⟨rfl, hnn⟩))
  have L5 : ∀ (j n : Nat) (v : Int32), n + j = A 0 → ((v = 1 ∧ ∀ a, a < n → gon1 A kn p a) ∨ (v = 0 ∧ ¬ ∀ a, a < n → gon1 A kn p a)) → l_X12_goesOn_5 K (nI kn) (nI p) (j + 1) v (nI n) M := by
    intro j
    induction j with
    | zero =>
      intro n v hn hv
      rw [l_X12_goesOn_5, t0]
      refine br_t (by rw [le_I, nI_I (by omega), nI_I (by omega)]; omega) ?_
      rcases hv with ⟨rfl, hg⟩ | ⟨rfl, hg⟩
      · exact ⟨Or.inr rfl, h1 (fun a ha => hg a (by omega))⟩
      · exact ⟨Or.inl rfl, h0 (fun g => hg (fun a ha => g a (by omega)))⟩
    | succ j ih =>
      intro n v hn hv
      rw [l_X12_goesOn_5, t0]
      refine br_f (by rw [le_I, nI_I (by omega), nI_I (by omega)]; omega) ⟨A 0 + 1, ?_⟩
      have := L22 n (fun a0 a1 a => l_X12_goesOn_5 K (nI kn) (nI p) (j + 1) a0 a1 a) (∀ a, a < n → gon1 A kn p a) (by omega) (fun g => ih (n + 1) 1 (by omega) (Or.inl ⟨rfl, fun a ha => by
        by_cases e : a = n
        · rw [e]; exact g.2
        · exact g.1 a (by omega)⟩)) (fun g => ih (n + 1) 0 (by omega) (Or.inr ⟨rfl, fun g2 => g ⟨fun a ha => g2 a (by omega), g2 n (by omega)⟩⟩)) (A 0) 0 v (by omega) (by omega) (by
          rcases hv with ⟨e, hg⟩ | ⟨e, hg⟩
          · exact Or.inl ⟨e, hg, fun i hi => by omega⟩
          · exact Or.inr ⟨e, fun g => hg g.1⟩)
      rw [show nI n + nI p = nI (n + (0 + 1) * p) by rw [nI_add]; congr 1; omega]
      exact this
  unfold f_X12_goesOn
  exact ⟨A 0 + 1, L5 (A 0) 0 1 (by omega) (Or.inl ⟨rfl, fun a ha => by omega⟩)⟩
