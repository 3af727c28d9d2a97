def isPer (A : AP) (kn p : Nat) : Prop := 1 ≤ p ∧ p ≤ A 0 ∧ gon A kn p ∧ ∀ q, 1 ≤ q → q < p → ¬ gon A kn q
theorem per_ex (A : AP) (kn : Nat) (h : 1 ≤ A 0) : ∃ p, isPer A kn p := by
  have hx : gon A kn (A 0 - 1 + 1) := by
    intro a ha j hj
    rw [show A 0 - 1 + 1 = A 0 by omega] at hj
    have : 1 * A 0 ≤ (j + 1) * A 0 := Nat.mul_le_mul_right _ (by omega)
    omega
  obtain ⟨k, h1, h2⟩ := pk_least (fun k => gon A kn (k + 1)) ⟨A 0 - 1, hx⟩
  refine ⟨k + 1, by omega, ?_, h1, fun q q1 q2 => ?_⟩
  · refine Nat.le_of_not_lt (fun q => ?_)
    exact h2 (A 0 - 1) (by omega) hx
  · have := h2 (q - 1) (by omega)
    rw [show q - 1 + 1 = q by omega] at this
    exact this
theorem s_periodOf {b f p D : Nat} {M : Mm} {A : AP} (pc : PapC M b A) (w : WFb D A) (hf : f < A 3) (hp : isPer A (A (50 + f)) p) {K : Int32 → Mm → Prop} (h : K (nI p) M) : f_X6_periodOf b (nI f) M K := by
  have s0 := w.1.2
  have s3 := w.2.2.2.1
  have m8 := pc.1.2.1
  have mk : M (b + 6) f = nI (A (50 + f)) := (pc.2.2.2 f hf).2.2.2
  have kf := pow24 (w.2.2.2.2.2.2.2.2.2.2 f hf).2.2 s0
  obtain ⟨p1, p2, p3, p4⟩ := hp
  have L : ∀ (j q : Nat), q + j = p → 1 ≤ q → l_X6_periodOf_2 K b (nI f) (j + 1) (nI q) M := by
    intro j
    induction j with
    | zero =>
      intro q hq h1
      have e : q = p := by omega
      subst e
      rw [l_X6_periodOf_2, m8, nI_cl (by omega), mk]
      refine br_c (fun z => ?_) (fun z => ⟨vp_nI (by omega) (by decide), ?_⟩)
      · rw [le_I, nI_I (by omega), nI_I (by omega)] at z
        rw [show A 0 = q by omega]; exact h
      · exact s_goesOnBy pc w kf (by omega) (fun _ => br_f (by decide) h) (fun g => absurd p3 g)
    | succ j ih =>
      intro q hq h1
      rw [l_X6_periodOf_2, m8, nI_cl (by omega), mk]
      refine br_f (by rw [le_I, nI_I (by omega), nI_I (by omega)]; omega) ⟨vp_nI (by omega) (by decide), ?_⟩
      refine s_goesOnBy pc w kf (by omega) (fun g => absurd g (p4 q h1 (by omega))) (fun g => br_t rfl ?_)
      rw [nI_1]
      exact ih (q + 1) (by omega) (by omega)
  exact ⟨p - 1 + 1, L (p - 1) 1 (by omega) (by omega)⟩
theorem s_rperiodOf {f p D : Nat} {M : Mm} {A : AP} (pr : PapR (M 7) (M 9) A) (w : WFb D A) (hf : f < A 3) (hp : isPer A (A (50 + f)) p) {K : Int32 → Mm → Prop} (h : K (nI p) M) : f_X12_periodOf (nI f) M K := by
  have s0 := w.1.2
  have s3 := w.2.2.2.1
  have mk : M 9 (17 + f) = nI (A (50 + f)) := by rw [pr.2 (17 + f) (by omega), show 33 + (17 + f) = 50 + f by omega]
  have kf := pow24 (w.2.2.2.2.2.2.2.2.2.2 f hf).2.2 s0
  obtain ⟨p1, p2, p3, p4⟩ := hp
  have L : ∀ (j q : Nat), q + j = p → 1 ≤ q → l_X12_periodOf_2 K (nI f) (j + 1) (nI q) M := by
    intro j
    induction j with
    | zero =>
      intro q hq h1
      have e : q = p := by omega
      subst e
      rw [l_X12_periodOf_2, c_add (c := 17) (n := 17) rfl, nI_cl (by omega), mk]
      refine ⟨vp_nI (by omega) (by decide), ?_⟩
      exact s_goesOn pr w kf (by omega) (fun _ => br_f (by decide) h) (fun g => absurd p3 g)
    | succ j ih =>
      intro q hq h1
      rw [l_X12_periodOf_2, c_add (c := 17) (n := 17) rfl, nI_cl (by omega), mk]
      refine ⟨vp_nI (by omega) (by decide), ?_⟩
      refine s_goesOn pr w kf (by omega) (fun g => absurd g (p4 q h1 (by omega))) (fun g => br_t rfl ?_)
      rw [nI_1]
      exact ih (q + 1) (by omega) (by omega)
  exact ⟨p - 1 + 1, L (p - 1) 1 (by omega) (by omega)⟩
theorem op_folk {Mc Mr : Mm} (hI : Inv Mc Mr) (a b : Int32) : f_X11_folk a b Mc (fun r Mc' => f_X12_folk a b Mr (fun r' Mr' => r = r' ∧ Inv Mc' Mr')) := by
  obtain ⟨-, -, -, -, -, A, hC, hR, -, -, -, hr⟩ := id hI
  have s := hr.sm
  have s3 := s.2.2.2
  simp only [f_X11_folk, f_X12_folk, e_hasFolk hC s, e_isOne hR hr, br_eq, b2i_0]
  by_cases ha : 0 ≤ a.toInt ∧ a.toInt < A 3
  · simp only [if_neg (not_not_intro ha)]
    obtain ⟨f, hf, rfl⟩ := of_arg (n := A 3) (a := a) (by omega) ha
    have w := hr.of3 hf
    have ww := w.2.2.2.2.2.2.2.2.2.2 f hf
    obtain ⟨q3, q4, q5, q6⟩ := hC.2.2.2 f hf
    have r1 : Mr 9 (7 + f) = nI (A (40 + f)) := by rw [hR.2 (7 + f) (by omega), show 33 + (7 + f) = 40 + f by omega]
    have r2 : Mr 9 (12 + f) = nI (A (45 + f)) := by rw [hR.2 (12 + f) (by omega), show 33 + (12 + f) = 45 + f by omega]
    have r3 : Mr 9 (17 + f) = nI (A (50 + f)) := by rw [hR.2 (17 + f) (by omega), show 33 + (17 + f) = 50 + f by omega]
    have r4 : Mr 7 (28 + f) = nI (A (28 + f)) := hR.1 (28 + f) (by omega)
    have v5 : vp_in (nI f) 5 := vp_nI (by omega) (by decide)
    simp only [c_add (c := 17) (n := 17) rfl, c_add (c := 12) (n := 12) rfl, c_add (c := 7) (n := 7) rfl, c_add (c := 28) (n := 28) rfl, nI_cl (show f < 2147483648 by omega), nI_cl (show 7 + f < 2147483648 by omega), nI_cl (show 12 + f < 2147483648 by omega), nI_cl (show 17 + f < 2147483648 by omega), nI_cl (show 28 + f < 2147483648 by omega), q4, q5, q6, r1, r2, r3, r4, v5, true_and, show vp_in (nI (7 + f)) 22 from vp_nI (by omega) (by decide), show vp_in (nI (12 + f)) 22 from vp_nI (by omega) (by decide), show vp_in (nI (17 + f)) 22 from vp_nI (by omega) (by decide), show vp_in (nI (28 + f)) 33 from vp_nI (by omega) (by decide)]
    by_cases h0 : b = 0
    · simp only [if_pos h0]; (first | exact hI | exact ⟨trivial, hI⟩ | exact ⟨rfl, hI⟩)
    · simp only [if_neg h0]
      by_cases h1 : b = 1
      · simp only [if_pos h1]; (first | exact hI | exact ⟨trivial, hI⟩ | exact ⟨rfl, hI⟩)
      · simp only [if_neg h1]
        by_cases h2 : b = 2
        · simp only [if_pos h2]; (first | exact hI | exact ⟨trivial, hI⟩ | exact ⟨rfl, hI⟩)
        · simp only [if_neg h2]
          by_cases h3 : b = 3
          · simp only [if_pos h3]
            exact e_seenBy hC w hf _ (e_rsees hR w (w.2.2.2.2.2.1 f hf) ww.1 _ ⟨rfl, hI⟩)
          · simp only [if_neg h3]
            by_cases h4 : b = 4
            · simp only [if_pos h4]
              obtain ⟨p, hp⟩ := per_ex A (A (50 + f)) (by have := w.1.1; omega)
              exact s_periodOf hC w hf hp (s_rperiodOf hR w hf hp ⟨rfl, hI⟩)
            · simp only [if_neg h4]; (first | exact hI | exact ⟨trivial, hI⟩ | exact ⟨rfl, hI⟩)
  · simp only [if_pos ha]; (first | exact hI | exact ⟨trivial, hI⟩)
/-- what is there by the period -/
def isFig (A : AP) (kn p t : Nat) (v : Int32) : Prop := (∃ x, x < A 0 ∧ kn.testBit x = true ∧ x % p = t % p ∧ v = nI (A (4 + x))) ∨ (v = -1000000 ∧ ∀ x, x < A 0 → kn.testBit x = true → ¬ x % p = t % p)
theorem gon_mod {A : AP} {kn p x y : Nat} (g : gon A kn p) (hxy : x < y) (hy : y < A 0) (kx : kn.testBit x = true) (ky : kn.testBit y = true) (hm : x % p = y % p) : A (4 + x) = A (4 + y) := by
  have e1 := Nat.div_add_mod x p
  have e2 := Nat.div_add_mod y p
  have lt : x / p < y / p := by
    refine Nat.lt_of_not_le (fun q => ?_)
    have := Nat.mul_le_mul_left p q
    omega
  have e3 : y = x + ((y / p - x / p - 1) + 1) * p := by
    rw [show y / p - x / p - 1 + 1 = y / p - x / p by omega, Nat.sub_mul, Nat.mul_comm (y / p), Nat.mul_comm (x / p)]
    have := Nat.mul_le_mul_left p (Nat.le_of_lt lt)
    omega
  have := g x (by omega) (y / p - x / p - 1)
  rw [← e3] at this
  exact this hy kx ky
theorem isFig.uniq {A : AP} {kn p t : Nat} {v v' : Int32} (g : gon A kn p) (h : isFig A kn p t v) (h' : isFig A kn p t v') : v = v' := by
  rcases h with ⟨x, hx, kx, mx, e⟩ | ⟨e, hn⟩
  · rcases h' with ⟨y, hy, ky, my, e'⟩ | ⟨e', hn'⟩
    · rw [e, e']
      congr 1
      rcases Nat.lt_trichotomy x y with l | l | l
      · exact gon_mod g l hy kx ky (by rw [mx, my])
      · rw [l]
      · exact (gon_mod g l hx ky kx (by rw [mx, my])).symm
    · exact absurd mx (hn' x hx kx)
  · rcases h' with ⟨y, hy, ky, my, e'⟩ | ⟨e', hn'⟩
    · exact absurd my (hn y hy ky)
    · rw [e, e']
theorem s_figureByPeriod {b f p t D : Nat} {M : Mm} {A : AP} (pc : PapC M b A) (w : WFb D A) (hf : f < A 3) (hp : isPer A (A (50 + f)) p) (ht : t < 100) {K : Int32 → Mm → Prop} (h : ∀ v, isFig A (A (50 + f)) p t v → K v M) : f_X6_figureByPeriod b (nI f) (nI t) M K := by
  have s0 := w.1.2
  have s3 := w.2.2.2.1
  have m8 := pc.1.2.1
  have mk : M (b + 6) f = nI (A (50 + f)) := (pc.2.2.2 f hf).2.2.2
  have kf := pow24 (w.2.2.2.2.2.2.2.2.2.2 f hf).2.2 s0
  have hp' := hp
  obtain ⟨p1, p2, p3, p4⟩ := hp'
  have rl : t % p < p := Nat.mod_lt _ (by omega)
  have fin : ∀ j, A 0 ≤ t % p + j * p → (∀ i, i < j → ¬ (A (50 + f)).testBit (t % p + i * p) = true) → isFig A (A (50 + f)) p t (-1000000) := by
    intro j hj hi
    refine Or.inr ⟨rfl, fun x hx kx mx => ?_⟩
    have e := Nat.div_add_mod x p
    have : x / p < j := by
      refine Nat.lt_of_not_le (fun q => ?_)
      have := Nat.mul_le_mul_right p q
      rw [Nat.mul_comm (x / p)] at this
      omega
    refine hi (x / p) this ?_
    rw [show t % p + x / p * p = x by rw [← mx, Nat.mul_comm]; omega]
    exact kx
  have L : ∀ (z j : Nat), A 0 ≤ t % p + j * p + z → t % p + j * p ≤ A 0 + p → (∀ i, i < j → ¬ (A (50 + f)).testBit (t % p + i * p) = true) → l_X6_figureByPeriod_19 K b (nI f) (nI p) (z + 1) (nI (t % p + j * p)) M := by
    intro z
    induction z with
    | zero =>
      intro j hz hle hj
      rw [l_X6_figureByPeriod_19, m8]
      exact br_t (by rw [le_I, nI_I (by omega), nI_I (by omega)]; omega) (h _ (fin j (by omega) hj))
    | succ z ih =>
      intro j hz hle hj
      rw [l_X6_figureByPeriod_19, m8]
      refine br_c (fun q => ?_) (fun q => ⟨vp_nI (by omega) (by decide), ?_⟩)
      · rw [le_I, nI_I (by omega), nI_I (by omega)] at q
        exact h _ (fin j (by omega) hj)
      · rw [le_I, nI_I (by omega), nI_I (by omega)] at q
        have hlt : t % p + j * p < A 0 := by omega
        have hn : (j + 1) * p = j * p + p := Nat.succ_mul _ _
        have nx : nI (t % p + j * p) + nI p = nI (t % p + (j + 1) * p) := by rw [nI_add]; congr 1; omega
        rw [nI_cl (show f < 2147483648 by omega), mk, e_bitOf (by omega) (by omega), bit_mod, nx, nI_cl (show t % p + j * p < 2147483648 by omega), pc.2.1 _ hlt]
        by_cases hb : (A (50 + f)).testBit (t % p + j * p) = true
        · rw [if_pos hb]
          refine br_t rfl ⟨vp_nI (by omega) (by decide), h _ (Or.inl ⟨_, hlt, hb, ?_, rfl⟩)⟩
          rw [Nat.add_mul_mod_self_right, Nat.mod_mod]
        · rw [if_neg hb]
          refine br_f (by decide) (ih (j + 1) (by omega) (by omega) (fun i hi => ?_))
          by_cases e : i = j
          · rw [e]; exact hb
          · exact hj i (by omega)
  unfold f_X6_figureByPeriod
  refine s_periodOf pc w hf hp (br_t (by rw [le_I, nI_I (by omega)]; show (1 : Int) ≤ _; omega) ⟨by rw [nI_is0 (by omega)]; omega, A 0 + 1, ?_⟩)
  have := L (A 0) 0 (by omega) (by omega) (fun i hi => by omega)
  rw [Nat.zero_mul, Nat.add_zero] at this
  rw [rem_nI (by omega) (by omega) (by omega)]
  exact this
theorem s_rbeyond {f p t D : Nat} {M : Mm} {A : AP} (pr : PapR (M 7) (M 9) A) (w : WFb D A) (hf : f < A 3) (hp : isPer A (A (50 + f)) p) (ht : t < 100) {K : Int32 → Mm → Prop} (h : ∀ v, isFig A (A (50 + f)) p t v → K v M) : ∃ z, l_X12_beyond_34 K (nI f) (nI t) (nI p) z (-1000000) 0 M := by
  have s0 := w.1.2
  have s3 := w.2.2.2.1
  have t0 : M 7 (0 : Int32).toNatClampNeg = nI (A 0) := pr.1 0 (by omega)
  have mk : M 9 (17 + f) = nI (A (50 + f)) := by rw [pr.2 (17 + f) (by omega), show 33 + (17 + f) = 50 + f by omega]
  have kf := pow24 (w.2.2.2.2.2.2.2.2.2.2 f hf).2.2 s0
  obtain ⟨p1, p2, p3, p4⟩ := hp
  have L : ∀ (j n : Nat) (v : Int32), n + j = A 0 → ((∃ x, x < A 0 ∧ (A (50 + f)).testBit x = true ∧ x % p = t % p ∧ v = nI (A (4 + x))) ∨ (v = -1000000 ∧ ∀ x, x < n → (A (50 + f)).testBit x = true → ¬ x % p = t % p)) → l_X12_beyond_34 K (nI f) (nI t) (nI p) (j + 1) v (nI n) M := by
    intro j
    induction j with
    | zero =>
      intro n v hn hv
      rw [l_X12_beyond_34, t0]
      refine br_t (by rw [le_I, nI_I (by omega), nI_I (by omega)]; omega) (h v ?_)
      rcases hv with hv | ⟨e, hv⟩
      · exact Or.inl hv
      · exact Or.inr ⟨e, fun x hx => hv x (by omega)⟩
    | succ j ih =>
      intro n v hn hv
      have m4 : M 7 (4 + n) = nI (A (4 + n)) := pr.1 (4 + n) (by omega)
      have lt1 : n % p < p := Nat.mod_lt _ (by omega)
      have lt2 : t % p < p := Nat.mod_lt _ (by omega)
      have keep : (¬ ((A (50 + f)).testBit n = true ∧ n % p = t % p)) → l_X12_beyond_34 K (nI f) (nI t) (nI p) (j + 1) v (nI (n + 1)) M := by
        intro hno
        refine ih (n + 1) v (by omega) ?_
        rcases hv with hv | ⟨e, hv⟩
        · exact Or.inl hv
        · refine Or.inr ⟨e, fun x hx kx mx => ?_⟩
          by_cases ex : x = n
          · subst ex; exact hno ⟨kx, mx⟩
          · exact hv x (by omega) kx mx
      rw [l_X12_beyond_34, t0, c_add (c := 17) (n := 17) rfl, nI_cl (show 17 + f < 2147483648 by omega), mk]
      refine br_f (by rw [le_I, nI_I (by omega), nI_I (by omega)]; omega) ⟨vp_nI (by omega) (by decide), ?_⟩
      rw [e_rhas (by omega) (by omega), bit_mod, nI_1, c_add (c := 4) (n := 4) rfl, nI_cl (show 4 + n < 2147483648 by omega), m4, rem_nI (by omega) (by omega) (by omega), rem_nI (by omega) (by omega) (by omega), nI_ne (by omega) (by omega)]
      have hp0 : ¬ nI p = 0 := by rw [nI_is0 (by omega)]; omega
      by_cases hb : (A (50 + f)).testBit n = true
      · rw [if_pos hb]
        refine br_f (by decide) ⟨hp0, hp0, br_c (fun q => ⟨vp_nI (by omega) (by decide), ?_⟩) (fun q => keep (fun z => q z.2))⟩
        exact ih (n + 1) _ (by omega) (Or.inl ⟨n, by omega, hb, q, rfl⟩)
      · rw [if_neg hb]
        exact br_t rfl (keep (fun z => hb z.1))
  exact ⟨A 0 + 1, L (A 0) 0 _ (by omega) (Or.inr ⟨rfl, fun x hx => by omega⟩)⟩
theorem op_beyond {Mc Mr : Mm} (hI : Inv Mc Mr) (a b : Int32) : f_X11_beyond a b Mc (fun r Mc' => f_X12_beyond a b Mr (fun r' Mr' => r = r' ∧ Inv Mc' Mr')) := by
  obtain ⟨-, -, -, -, -, A, hC, hR, -, -, -, hr⟩ := id hI
  have s := hr.sm
  have s3 := s.2.2.2
  have e0 : (0 : Int32).toInt = 0 := rfl
  have e9 : (99 : Int32).toInt = 99 := rfl
  simp only [f_X11_beyond, f_X12_beyond, e_hasFolk hC s, e_isOne hR hr, e_in, br_eq, b2i_0, lt_I, le_I, e0, e9]
  by_cases ha : 0 ≤ a.toInt ∧ a.toInt < A 3
  · simp only [if_neg (not_not_intro ha)]
    obtain ⟨f, hf, rfl⟩ := of_arg (n := A 3) (a := a) (by omega) ha
    have w := hr.of3 hf
    by_cases hb : 0 ≤ b.toInt ∧ b.toInt ≤ 99
    · simp only [if_neg (not_not_intro hb), if_neg (show ¬ b.toInt < 0 by omega), if_pos hb.2]
      obtain ⟨t, ht, rfl⟩ := of_arg (n := 100) (a := b) (by decide) (by omega)
      obtain ⟨p, hp⟩ := per_ex A (A (50 + f)) (by have := w.1.1; omega)
      refine s_figureByPeriod hC w hf hp ht (fun v hv => s_rperiodOf hR w hf hp (s_rbeyond hR w hf hp ht (fun v' hv' => ⟨hv.uniq hp.2.2.1 hv', hI⟩)))
    · simp only [if_pos hb]
      by_cases hb1 : b.toInt < 0
      · simp only [if_pos hb1]; first | exact hI | exact ⟨trivial, hI⟩
      · simp only [if_neg hb1, if_neg (show ¬ b.toInt ≤ 99 by omega)]; first | exact hI | exact ⟨trivial, hI⟩
  · simp only [if_pos ha]; first | exact hI | exact ⟨trivial, hI⟩
