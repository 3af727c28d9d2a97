theorem PapC.up {M M' : Mm} {b : Nat} {A B : AP} (p : PapC M b A) (t : Told A B) (s : Sm A) (h12 : M' b 12 = nI (B 39)) (h13 : M' b 13 = nI (B 33)) (hb : ∀ j, j ≠ 12 → j ≠ 13 → M' b j = M b j) (h1 : M' (b + 1) = M (b + 1)) (h3 : M' (b + 3) = M (b + 3)) (hw : ∀ w, w < A 2 → M' (b + 2) w = nI (B (34 + w))) (hf : ∀ f, f < A 3 → M' (b + 4) f = nI (B (40 + f)) ∧ M' (b + 5) f = nI (B (45 + f)) ∧ M' (b + 6) f = nI (B (50 + f))) : PapC M' b B := by
  obtain ⟨⟨p7, p8, p9, p10, p11, p12, p13⟩, pf, pw, po⟩ := p
  have s0 := s.1
  have s3 := s.2.2.2
  unfold PapC
  rw [hb 7 (by omega) (by omega), hb 8 (by omega) (by omega), hb 9 (by omega) (by omega), hb 10 (by omega) (by omega), hb 11 (by omega) (by omega), t 0 (by omega), t 1 (by omega), t 2 (by omega), t 3 (by omega), t.rising s0, h1, h3]
  refine ⟨⟨p7, p8, p9, p10, p11, h12, h13⟩, fun c hc => ?_, hw, fun f hf' => ⟨?_, hf f hf'⟩⟩
  · rw [t (4 + c) (by omega)]; exact pf c hc
  · rw [t (28 + f) (by omega)]; exact (po f hf').1
theorem gU_now {M : Mm} {k j : Nat} {v : Int32} (i : Nat) : gU M k j v k i = if i = j then v else M k i := by
  rw [gU_at]; simp
theorem PapC.uHouse {M M' : Mm} {b f v : Nat} {A : AP} (p : PapC M b A) (s : Sm A) (e : M' = gU M (b + 4) f (nI v)) (hf : f < A 3) : PapC M' b (setA A (40 + f) v) := by
  have s3 := s.2.2.2
  have s2 := s.2.2.1
  refine p.up (Told.set (by omega)) s ?_ ?_ ?_ ?_ ?_ ?_ ?_
  · rw [e, gU_cell (by omega), setA_n (by omega)]; exact p.1.2.2.2.2.2.1
  · rw [e, gU_cell (by omega), setA_n (by omega)]; exact p.1.2.2.2.2.2.2
  · intro j _ _; rw [e, gU_cell (by omega)]
  · rw [e, gU_cell (by omega)]
  · rw [e, gU_cell (by omega)]
  · intro u hu; rw [e, gU_cell (by omega), setA_n (by omega)]; exact p.2.2.1 u hu
  · intro g hg
    have y := p.2.2.2 g hg
    refine ⟨?_, by rw [e, gU_cell (by omega), setA_n (by omega)]; exact y.2.2.1, by rw [e, gU_cell (by omega), setA_n (by omega)]; exact y.2.2.2⟩
    rw [e, gU_now]
    by_cases hgf : g = f
    · subst hgf; rw [if_pos rfl, setA_s]
    · rw [if_neg hgf, setA_n (by omega)]; exact y.2.1
theorem PapC.uWay {M M' : Mm} {b f v : Nat} {A : AP} (p : PapC M b A) (s : Sm A) (e : M' = gU M (b + 5) f (nI v)) (hf : f < A 3) : PapC M' b (setA A (45 + f) v) := by
  have s3 := s.2.2.2
  have s2 := s.2.2.1
  refine p.up (Told.set (by omega)) s ?_ ?_ ?_ ?_ ?_ ?_ ?_
  · rw [e, gU_cell (by omega), setA_n (by omega)]; exact p.1.2.2.2.2.2.1
  · rw [e, gU_cell (by omega), setA_n (by omega)]; exact p.1.2.2.2.2.2.2
  · intro j _ _; rw [e, gU_cell (by omega)]
  · rw [e, gU_cell (by omega)]
  · rw [e, gU_cell (by omega)]
  · intro u hu; rw [e, gU_cell (by omega), setA_n (by omega)]; exact p.2.2.1 u hu
  · intro g hg
    have y := p.2.2.2 g hg
    refine ⟨by rw [e, gU_cell (by omega), setA_n (by omega)]; exact y.2.1, ?_, by rw [e, gU_cell (by omega), setA_n (by omega)]; exact y.2.2.2⟩
    rw [e, gU_now]
    by_cases hgf : g = f
    · subst hgf; rw [if_pos rfl, setA_s]
    · rw [if_neg hgf, setA_n (by omega)]; exact y.2.2.1
theorem PapC.uKnows {M M' : Mm} {b f v : Nat} {A : AP} (p : PapC M b A) (s : Sm A) (e : M' = gU M (b + 6) f (nI v)) (hf : f < A 3) : PapC M' b (setA A (50 + f) v) := by
  have s3 := s.2.2.2
  have s2 := s.2.2.1
  refine p.up (Told.set (by omega)) s ?_ ?_ ?_ ?_ ?_ ?_ ?_
  · rw [e, gU_cell (by omega), setA_n (by omega)]; exact p.1.2.2.2.2.2.1
  · rw [e, gU_cell (by omega), setA_n (by omega)]; exact p.1.2.2.2.2.2.2
  · intro j _ _; rw [e, gU_cell (by omega)]
  · rw [e, gU_cell (by omega)]
  · rw [e, gU_cell (by omega)]
  · intro u hu; rw [e, gU_cell (by omega), setA_n (by omega)]; exact p.2.2.1 u hu
  · intro g hg
    have y := p.2.2.2 g hg
    refine ⟨by rw [e, gU_cell (by omega), setA_n (by omega)]; exact y.2.1, by rw [e, gU_cell (by omega), setA_n (by omega)]; exact y.2.2.1, ?_⟩
    rw [e, gU_now]
    by_cases hgf : g = f
    · subst hgf; rw [if_pos rfl, setA_s]
    · rw [if_neg hgf, setA_n (by omega)]; exact y.2.2.2
theorem PapC.uWall {M M' : Mm} {b f v : Nat} {A : AP} (p : PapC M b A) (s : Sm A) (e : M' = gU M (b + 2) f (nI v)) (hf : f < A 2) : PapC M' b (setA A (34 + f) v) := by
  have s3 := s.2.2.2
  have s2 := s.2.2.1
  refine p.up (Told.set (by omega)) s ?_ ?_ ?_ ?_ ?_ ?_ ?_
  · rw [e, gU_cell (by omega), setA_n (by omega)]; exact p.1.2.2.2.2.2.1
  · rw [e, gU_cell (by omega), setA_n (by omega)]; exact p.1.2.2.2.2.2.2
  · intro j _ _; rw [e, gU_cell (by omega)]
  · rw [e, gU_cell (by omega)]
  · rw [e, gU_cell (by omega)]
  · intro u hu
    rw [e, gU_now]
    by_cases huf : u = f
    · subst huf; rw [if_pos rfl, setA_s]
    · rw [if_neg huf, setA_n (by omega)]; exact p.2.2.1 u hu
  · intro g hg
    have y := p.2.2.2 g hg
    exact ⟨by rw [e, gU_cell (by omega), setA_n (by omega)]; exact y.2.1, by rw [e, gU_cell (by omega), setA_n (by omega)]; exact y.2.2.1, by rw [e, gU_cell (by omega), setA_n (by omega)]; exact y.2.2.2⟩
theorem PapC.uFaded {M M' : Mm} {b v : Nat} {A : AP} (p : PapC M b A) (s : Sm A) (e : M' = gU M b 12 (nI v)) : PapC M' b (setA A 39 v) := by
  have s3 := s.2.2.2
  have s2 := s.2.2.1
  refine p.up (Told.set (by omega)) s ?_ ?_ ?_ ?_ ?_ ?_ ?_
  · rw [e, gU_same, setA_s]
  · rw [e, gU_place (by omega), setA_n (by omega)]; exact p.1.2.2.2.2.2.2
  · intro j h1 _; rw [e, gU_place h1]
  · rw [e, gU_cell (by omega)]
  · rw [e, gU_cell (by omega)]
  · intro u hu; rw [e, gU_cell (by omega), setA_n (by omega)]; exact p.2.2.1 u hu
  · intro g hg
    have y := p.2.2.2 g hg
    exact ⟨by rw [e, gU_cell (by omega), setA_n (by omega)]; exact y.2.1, by rw [e, gU_cell (by omega), setA_n (by omega)]; exact y.2.2.1, by rw [e, gU_cell (by omega), setA_n (by omega)]; exact y.2.2.2⟩
theorem PapC.uDay {M M' : Mm} {b v : Nat} {A : AP} (p : PapC M b A) (s : Sm A) (e : M' = gU M b 13 (nI v)) : PapC M' b (setA A 33 v) := by
  have s3 := s.2.2.2
  have s2 := s.2.2.1
  refine p.up (Told.set (by omega)) s ?_ ?_ ?_ ?_ ?_ ?_ ?_
  · rw [e, gU_place (by omega), setA_n (by omega)]; exact p.1.2.2.2.2.2.1
  · rw [e, gU_same, setA_s]
  · intro j _ h1; rw [e, gU_place h1]
  · rw [e, gU_cell (by omega)]
  · rw [e, gU_cell (by omega)]
  · intro u hu; rw [e, gU_cell (by omega), setA_n (by omega)]; exact p.2.2.1 u hu
  · intro g hg
    have y := p.2.2.2 g hg
    exact ⟨by rw [e, gU_cell (by omega), setA_n (by omega)]; exact y.2.1, by rw [e, gU_cell (by omega), setA_n (by omega)]; exact y.2.2.1, by rw [e, gU_cell (by omega), setA_n (by omega)]; exact y.2.2.2⟩
/-- an act has been done on both sides: the new paper is B -/
theorem Inv.act {Mc Mr Mc' Mr' : Mm} {B : AP} (hI : Inv Mc Mr) (c0 : ∀ j, j = 11 ∨ j = 12 → Mc' 0 j = Mc 0 j) (ck : ∀ k, (2 ≤ k ∧ k ≤ 17) ∨ k = 24 ∨ k = 25 ∨ (41 ≤ k ∧ k ≤ 54) ∨ k = 64 ∨ k = 65 → Mc' k = Mc k) (r0 : ∀ j, j = 4 ∨ j = 6 ∨ j = 12 ∨ j = 20 ∨ j = 26 → Mr' 0 j = Mr 0 j) (rk : ∀ k, k = 1 ∨ k = 2 ∨ k = 3 ∨ k = 5 ∨ k = 12 ∨ k = 13 ∨ k = 14 ∨ k = 16 → Mr' k = Mr k) (rd : Mr 0 20 = 1) (w : WF B) (pc : PapC Mc' 26 B) (pr : PapR (Mr' 7) (Mr' 9) B) (ac : ActsRel Mc' Mr' B) : Inv Mc' Mr' := by
  obtain ⟨h1, h2, a, b, c, A, d, e, f, g1, g2, g3⟩ := hI
  exact ⟨h1.congr (fun k x y => ck k (by omega)) (rk 1 (by omega)) (rk 2 (by omega)) (rk 3 (by omega)), by rw [c0 11 (by omega), r0 4 (by omega)]; exact h2, by rw [c0 12 (by omega), r0 12 (by omega)]; exact a, b.congr (by rw [ck 24 (by omega)]) (ck 25 (by omega)) (r0 6 (by omega)) (rk 5 (by omega)), c.congr (by rw [ck 64 (by omega)]) (ck 65 (by omega)) (r0 26 (by omega)) (rk 16 (by omega)), B, pc, pr, ac, g1.congr (fun q x y => ck q (by omega)) (rk 14 (by omega)) (rk 12 (by omega)) (rk 13 (by omega)), g2.congr (fun q x y => ck q (by omega)) (rk 14 (by omega)) (rk 12 (by omega)) (rk 13 (by omega)), Or.inr ⟨by rw [r0 20 (by omega)]; exact rd, w⟩⟩
theorem ReadRel.wf {Mr : Mm} {A : AP} (h : ReadRel Mr A) (h0 : A 0 ≠ 0) : WF A ∧ Mr 0 20 = 1 := by
  rcases h with ⟨_, h, _⟩ | ⟨h1, h⟩
  · exact absurd (h 0) h0
  · exact ⟨h, h1⟩
theorem pow_or {a b n : Nat} (ha : a < 2 ^ n) (hb : b < 2 ^ n) : a ||| b < 2 ^ n := Nat.or_lt_two_pow ha hb
/-- one is put into a house, and knows what one sees there -/
def putA (A : AP) (f h : Nat) : AP := setA (setA A (40 + f) h) (50 + f) (A (50 + f) ||| sees (setA A (40 + f) h) (A (28 + f)) h)
theorem WFb.house {D : Nat} {A : AP} (w : WFb D A) {f h : Nat} (hf : f < A 3) (hh : h ≤ A 2) : WFb D (setA A (40 + f) h) := by
  have s3 := w.2.2.2.1
  have s2 := w.2.2.1
  have s0 := w.1.2
  have n : ∀ {j : Nat}, j ≠ 40 + f → setA A (40 + f) h j = A j := fun q => setA_n q
  obtain ⟨w1, w2, w3, w4, w5, w6, w7, w8, w9, w10, w11⟩ := w
  unfold WFb
  rw [n (j := 0) (by omega), n (j := 1) (by omega), n (j := 2) (by omega), n (j := 3) (by omega), n (j := 33) (by omega), n (j := 39) (by omega)]
  refine ⟨w1, w2, w3, w4, fun c hc => by rw [n (by omega)]; exact w5 c hc, fun g hg => by rw [n (by omega)]; exact w6 g hg, w7, fun u hu => by rw [n (by omega)]; exact w8 u hu, fun u hu => by rw [n (by omega), n (by omega)]; exact w9 u hu, w10, fun g hg => ?_⟩
  rw [n (j := 45 + g) (by omega), n (j := 50 + g) (by omega)]
  refine ⟨?_, (w11 g hg).2⟩
  by_cases hgf : g = f
  · subst hgf; rw [setA_s]; exact hh
  · rw [n (by omega)]; exact (w11 g hg).1
theorem WFb.knows {D : Nat} {A : AP} (w : WFb D A) {f v : Nat} (hf : f < A 3) (hv : v < 2 ^ A 0) : WFb D (setA A (50 + f) v) := by
  have s3 := w.2.2.2.1
  have s2 := w.2.2.1
  have s0 := w.1.2
  have n : ∀ {j : Nat}, j ≠ 50 + f → setA A (50 + f) v j = A j := fun q => setA_n q
  obtain ⟨w1, w2, w3, w4, w5, w6, w7, w8, w9, w10, w11⟩ := w
  unfold WFb
  rw [n (j := 0) (by omega), n (j := 1) (by omega), n (j := 2) (by omega), n (j := 3) (by omega), n (j := 33) (by omega), n (j := 39) (by omega)]
  refine ⟨w1, w2, w3, w4, fun c hc => by rw [n (by omega)]; exact w5 c hc, fun g hg => by rw [n (by omega)]; exact w6 g hg, w7, fun u hu => by rw [n (by omega)]; exact w8 u hu, fun u hu => by rw [n (by omega), n (by omega)]; exact w9 u hu, w10, fun g hg => ?_⟩
  rw [n (j := 45 + g) (by omega), n (j := 40 + g) (by omega)]
  refine ⟨(w11 g hg).1, (w11 g hg).2.1, ?_⟩
  by_cases hgf : g = f
  · subst hgf; rw [setA_s]; exact hv
  · rw [n (by omega)]; exact (w11 g hg).2.2
theorem PapR.up {told now now' : Nat → Int32} {A : AP} {j v : Nat} (p : PapR told now A) (hj : j < 22) (h : ∀ i, now' i = if i = j then nI v else now i) : PapR told now' (setA A (33 + j) v) := by
  refine ⟨fun i hi => by rw [setA_n (by omega)]; exact p.1 i hi, fun i hi => ?_⟩
  rw [h i]
  by_cases hij : i = j
  · subst hij; rw [if_pos rfl, setA_s]
  · rw [if_neg hij, setA_n (by omega)]; exact p.2 i hi
theorem op_put {Mc Mr : Mm} (hI : Inv Mc Mr) (a b : Int32) : f_X11_put a b Mc (fun r Mc' => f_X12_put a b Mr (fun r' Mr' => r = r' ∧ Inv Mc' Mr')) := by
  obtain ⟨-, -, -, -, -, A, hC, hR, hAc, -, -, hr⟩ := id hI
  have s := hr.sm
  have s3 := s.2.2.2
  have s2 := s.2.2.1
  simp only [f_X11_put, f_X12_put, e_hasFolk hC s, e_isOne hR hr, e_hasHouse hC s, e_isHouse hR hr, br_eq, b2i_0]
  by_cases ha : 0 ≤ a.toInt ∧ a.toInt < A 3
  · simp only [if_neg (not_not_intro ha)]
    by_cases hb : 0 < A 0 ∧ 0 ≤ b.toInt ∧ b.toInt ≤ A 2
    · simp only [if_neg (not_not_intro hb)]
      obtain ⟨f, hf, rfl⟩ := of_arg (n := A 3) (a := a) (by omega) ha
      obtain ⟨h, hh, rfl⟩ := of_arg (n := A 2 + 1) (a := b) (by omega) (by omega)
      obtain ⟨w, rd⟩ := hr.wf (by omega)
      have s0 := w.1.2
      obtain ⟨k, x, hk, hx, m9, m10, m19, hs⟩ := hAc
      refine s_keepAct hC s hk hx m9 m10 (fun M7 c1 c2 c3 c4 c5 => ⟨vp_nI (by omega) (by decide), fun M9 e9 => ?_⟩)
      rw [nI_cl (by omega)] at e9
      have hC7 : PapC M7 26 A := hC.congr (fun q h1 h2 => c1 q (by omega) (by omega))
      have w1 := w.house (f := f) (h := h) hf (by omega)
      have t1 : Told A (setA A (40 + f) h) := Told.set (by omega)
      have hC9 : PapC M9 26 (setA A (40 + f) h) := hC7.uHouse s e9 hf
      have k1 : setA A (40 + f) h (28 + f) = A (28 + f) := setA_n (by omega)
      have k2 : setA A (40 + f) h (40 + f) = h := setA_s
      have k3 : setA A (40 + f) h 3 = A 3 := setA_n (by omega)
      have k5 : setA A (40 + f) h (50 + f) = A (50 + f) := setA_n (by omega)
      have k0 : setA A (40 + f) h 0 = A 0 := setA_n (by omega)
      refine e_seenBy hC9 w1 (by rw [k3]; exact hf) _ (fun M13 e13 => ?_)
      rw [nI_cl (by omega), (hC9.2.2.2 f (by rw [k3]; exact hf)).2.2.2, k1, k2, k5, nI_or] at e13
      have kn : M13 (26 + 6) f = nI (putA A f h (50 + f)) := by rw [e13, gU_same]; unfold putA; rw [setA_s]
      rw [nI_cl (show f < 2147483648 by omega), kn]
      refine s_know hk m19 (fun N7 kr => ?_)
      obtain ⟨n1, n2, n3, n4, n5⟩ := id kr
      rw [c_add (c := 7) (n := 7) rfl, c_add (c := 17) (n := 17) rfl, c_add (c := 28) (n := 28) rfl, nI_cl (by omega), nI_cl (by omega), nI_cl (by omega)]
      refine ⟨vp_nI (by omega) (by decide), fun N9 f9 => ⟨vp_nI (by omega) (by decide), vp_nI (by omega) (by decide), ?_⟩⟩
      have r7 : N9 7 = Mr 7 := by rw [f9, gU_cell (by omega), n1 7 (by omega) (by omega)]
      have hR9 : PapR (N9 7) (N9 9) (setA A (40 + f) h) := by
        rw [r7, show 40 + f = 33 + (7 + f) by omega]
        refine hR.up (by omega) (fun i => ?_)
        rw [f9, gU_now, n1 9 (by omega) (by omega)]
      rw [hR9.1 (28 + f) (by omega), k1]
      refine e_rsees hR9 w1 (w.2.2.2.2.2.1 f hf) (by rw [setA_n (by omega)]; omega) _ (fun N15 f15 => ?_)
      rw [hR9.2 (17 + f) (by omega), show 33 + (17 + f) = 50 + f by omega, k5, nI_or] at f15
      have kn2 : N15 9 (17 + f) = nI (putA A f h (50 + f)) := by rw [f15, gU_same]; unfold putA; rw [setA_s]
      have lt := w1.2.2.2.2.2.2.2.2.2.2 f (by rw [k3]; exact hf)
      have w2 : WF (putA A f h) := by
        refine w1.knows (by rw [k3]; exact hf) (pow_or ?_ ?_)
        · rw [← k5]; exact lt.2.2
        · exact sees_lt _ _ _
      have t2 : Told A (putA A f h) := t1.trans (Told.set (by omega))
      refine ⟨by rw [kn2], hI.act ?_ ?_ ?_ ?_ rd w2 ?_ ?_ ?_⟩
      · intro j hj; rw [e13, gU_cell (by omega), e9, gU_cell (by omega)]; exact c2 j (by omega) (by omega)
      · intro q hq; rw [e13, gU_cell (by omega), e9, gU_cell (by omega)]; exact c1 q (by omega) (by omega)
      · intro j hj; rw [f15, gU_cell (by omega), f9, gU_cell (by omega)]; exact n2 j (by omega)
      · intro q hq; rw [f15, gU_cell (by omega), f9, gU_cell (by omega)]; exact n1 q (by omega) (by omega)
      · exact hC9.uKnows w1.sm e13 (by rw [k3]; exact hf)
      · rw [show N15 7 = N9 7 by rw [f15, gU_cell (by omega)]]
        unfold putA
        rw [show 50 + f = 33 + (17 + f) by omega]
        refine hR9.up (by omega) (fun i => ?_)
        rw [f15, gU_now, show 33 + (17 + f) = 50 + f by omega]
      · have ac : ActsRel M7 N7 A := ActsRel.more hk hx w hs hR.2 c1 c3 c4 c5 kr
        refine (ac.told t2).congr ?_ ?_ ?_ ?_ ?_
        · rw [e13, gU_cell (by omega), e9, gU_cell (by omega)]
        · rw [e13, gU_cell (by omega), e9, gU_cell (by omega)]
        · intro q hq; rw [e13, gU_cell (by omega), e9, gU_cell (by omega)]
        · rw [f15, gU_cell (by omega), f9, gU_cell (by omega)]
        · rw [f15, gU_cell (by omega), f9, gU_cell (by omega)]
    · simp only [if_pos hb]
      first | exact hI | exact ⟨trivial, hI⟩
  · simp only [if_pos ha]
    first | exact hI | exact ⟨trivial, hI⟩
