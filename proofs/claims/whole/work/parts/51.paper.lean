theorem s_rises {M : Mm} {A : AP} (wq : WQ A) (h6 : 6 ≤ A 0) (pd : PapD M A) {K : Mm → Prop} (h : ∀ M' : Mm, (∀ q, q ≠ 33 → M' q = M q) → PapC M' 33 A → K M') : f_X6_seeWhatRises 33 M K := by
  have w0 := wq.1
  obtain ⟨⟨p7, p8, p9, p10, p12, p13⟩, pf, pw, po⟩ := pd
  have hm : ∀ n, msk (fun c => c == 0 || decide (A (4 + (c - 1)) < A (4 + c))) n < 2 ^ n := fun n => msk_lt _ n
  have L : ∀ (j n : Nat) (M1 : Mm), n + j = A 0 → 1 ≤ n → (∀ q, q ≠ 33 → M1 q = M q) → (∀ i, i ≠ 11 → M1 33 i = M 33 i) → M1 33 11 = nI (msk (fun c => c == 0 || decide (A (4 + (c - 1)) < A (4 + c))) n) → l_X6_seeWhatRises_7 K 33 (j + 1) (nI n) M1 := by
    intro j
    induction j with
    | zero =>
      intro n M1 hn _ h1 h2 h3
      rw [l_X6_seeWhatRises_7, h2 8 (by omega), p8]
      refine br_t (by rw [le_I, nI_I (by omega), nI_I (by omega)]; omega) (h M1 h1 ⟨⟨by rw [h2 7 (by omega)]; exact p7, by rw [h2 8 (by omega)]; exact p8, by rw [h2 9 (by omega)]; exact p9, by rw [h2 10 (by omega)]; exact p10, ?_, ?_, ?_⟩, fun c hc => by rw [h1 (33 + 1) (by omega)]; exact pf c hc, fun u hu => by rw [h1 (33 + 2) (by omega)]; exact pw u hu, fun f hf => by rw [h1 (33 + 3) (by omega), h1 (33 + 4) (by omega), h1 (33 + 5) (by omega), h1 (33 + 6) (by omega)]; exact po f hf⟩)
      · rw [h3, show n = A 0 by omega]; rfl
      · rw [h2 12 (by omega), p12, wq.2.2.2.2.2.2.2.2.2.1]
      · rw [h2 13 (by omega), p13, wq.2.2.2.2.2.2.1]
    | succ j ih =>
      intro n M1 hn n1 h1 h2 h3
      have a1 := wq.2.2.2.2.1 n (by omega)
      have a2 := wq.2.2.2.2.1 (n - 1) (by omega)
      have e1 : M1 (33 + 1) n = nI (A (4 + n)) := by rw [h1 (33 + 1) (by omega)]; exact pf n (by omega)
      have e2 : M1 (33 + 1) (n - 1) = nI (A (4 + (n - 1))) := by rw [h1 (33 + 1) (by omega)]; exact pf (n - 1) (by omega)
      rw [l_X6_seeWhatRises_7, h2 8 (by omega), p8, h3, nI_1, show nI n - (1 : Int32) = nI (n - 1) from pk_sub (b := 1) n1, nI_cl (by omega), nI_cl (by omega), e1, e2, nI_shl1 (by omega), nI_or]
      refine br_f (by rw [le_I, nI_I (by omega), nI_I (by omega)]; omega) ⟨vp_nI (by omega) (by decide), vp_nI (by omega) (by decide), br_c (fun q => ?_) (fun q M5 e5 => ?_)⟩
      · rw [le_I, nI_I (by omega), nI_I (by omega)] at q
        refine ih (n + 1) M1 (by omega) (by omega) h1 h2 ?_
        rw [h3]
        show nI _ = nI (msk _ n + if (n == 0 || decide (A (4 + (n - 1)) < A (4 + n))) = true then 2 ^ n else 0)
        rw [if_neg, Nat.add_zero]
        simp
        omega
      · rw [le_I, nI_I (by omega), nI_I (by omega)] at q
        have hp : (n == 0 || decide (A (4 + (n - 1)) < A (4 + n))) = true := by
          rw [decide_eq_true (by omega)]; simp
        refine ih (n + 1) M5 (by omega) (by omega) (fun q hq => by rw [e5, gU_cell hq]; exact h1 q hq) (fun i hi => by rw [e5, gU_place hi]; exact h2 i hi) ?_
        rw [e5, gU_same]
        congr 1
        exact msk_or (p := fun c => c == 0 || decide (A (4 + (c - 1)) < A (4 + c))) hp
  unfold f_X6_seeWhatRises
  intro M7 e7
  refine ⟨A 0 - 1 + 1, L (A 0 - 1) 1 M7 (by omega) (Nat.le_refl _) (fun q hq => by rw [e7, gU_cell hq]) (fun i hi => by rw [e7, gU_place hi]) ?_⟩
  rw [e7, gU_same]
  rfl
/-- the class reads -/
def FnC (M0 : Mm) (T : Nat) (o : Ou) (r : Int32) (M : Mm) : Prop := (o.1 = 0 ∧ r = 1 ∧ FrC M0 T M ∧ WF o.2.2 ∧ PapC M 33 o.2.2) ∨ (o.1 ≠ 0 ∧ r = 0 ∧ FaC M0 T o.1 o.2.1 M)
theorem bnd_ne {o : Ou} {k : Nat → AP → Ou} (h : o.1 ≠ 0) : bnd o k = o := if_neg h
theorem bnd_z {o : Ou} {k : Nat → AP → Ou} (h : o.1 = 0) : bnd o k = k o.2.1 o.2.2 := if_pos h
theorem c_read {X : Nat → Nat} {T : Nat} (x : TpX X T) {M : Mm} (t : TpC X T M) {K : Int32 → Mm → Prop} (h : ∀ r M', FnC M T (prO X T) r M' → K r M') : f_X9_readInto 33 M K := by
  unfold f_X9_readInto f_X6_clear
  intro M1 e1 M3 e3 M5 e5 M7 e7 M9 e9 M11 e11 M13 e13 M14 e14 M16 e16
  have o : ∀ k, k ≠ 33 → k ≠ 24 → M16 k = M k := fun k q1 q2 => by rw [e16, gU_cell q2, e14, gU_cell q2, e13, gU_cell q1, e11, gU_cell q1, e9, gU_cell q1, e7, gU_cell q1, e5, gU_cell q1, e3, gU_cell q1, e1, gU_cell q1]
  have c33 : M16 33 = M13 33 := by rw [e16, gU_cell (by omega), e14, gU_cell (by omega)]
  have z33 : ∀ j, 7 ≤ j → j ≤ 13 → M16 33 j = 0 := by
    intro j h7 h13
    rw [c33, e13, gU_now, e11, gU_now, e9, gU_now, e7, gU_now, e5, gU_now, e3, gU_now, e1, gU_now]
    repeat (first | rfl | (split; rfl) | (exfalso; omega))
  have m1 : M16 24 1 = nI T := by rw [e16, gU_place (by omega), e14, gU_place (by omega), e13, gU_cell (by omega), e11, gU_cell (by omega), e9, gU_cell (by omega), e7, gU_cell (by omega), e5, gU_cell (by omega), e3, gU_cell (by omega), e1, gU_cell (by omega)]; exact t.1
  have m2 : M16 24 2 = nI 0 := by rw [e16, gU_place (by omega), e14, gU_same]; rfl
  have m4 : M16 24 4 = nI 0 := by rw [e16, gU_same]; rfl
  have t16 : TpC X T M16 := ⟨m1, fun j hj => by rw [o 25 (by omega) (by omega)]; exact t.2 j hj⟩
  have f16 : FrC M T M16 := ⟨fun k q1 q2 => o k (by omega) q1, m1⟩
  have p16 : PapD M16 (fun _ => 0) := ⟨⟨z33 7 (by omega) (by omega), z33 8 (by omega) (by omega), z33 9 (by omega) (by omega), z33 10 (by omega) (by omega), z33 12 (by omega) (by omega), z33 13 (by omega) (by omega)⟩, fun c hc => absurd hc (Nat.not_lt_zero _), fun c hc => absurd hc (Nat.not_lt_zero _), fun c hc => absurd hc (Nat.not_lt_zero _)⟩
  refine c_step x t16 m2 m4 (by rfl) (Nat.zero_le _) (fun M8 h1 h2 h3 h4 h5 h6 => ?_)
  have s8 : StC X T M (fun A => A 2 = 0) 0 (fun _ => 0) M8 := ⟨f16.keep h1 (h2 1 (Or.inl rfl)), ⟨Nat.zero_le _, h3, h4, h5, fun d => by rw [h6, if_pos d]⟩, WQ.zero, rfl, p16.congr h1⟩
  have bad : ∀ (o' : Ou) (M' : Mm), o'.1 ≠ 0 → FaC M T o'.1 o'.2.1 M' → prO X T = o' → f_X9_readInto_54 K 33 M' := by
    intro o' M' h0 fa he
    unfold f_X9_readInto_54 f_X9_readInto_55
    exact br_t rfl ⟨Or.inl rfl, h 0 M' (by rw [he]; exact Or.inr ⟨h0, rfl, fa⟩)⟩
  refine c_law x t (fun A v hA => by rw [setA_n (by omega)]; exact hA) s8 (fun r1 N1 oc1 => ?_)
  rcases oc1 with ⟨z1, rfl, s1⟩ | ⟨z1, rfl, fa⟩
  · refine br_f (by decide) (c_pic x t (fun A v hA => by rw [figA_n (by omega) (by omega)]; exact hA) s1 (fun r2 N2 oc2 => ?_))
    rcases oc2 with ⟨z2, rfl, s2⟩ | ⟨z2, rfl, fa⟩
    · refine br_f (by decide) ?_
      have wq2 := s2.2.2.1
      have a2 := s2.2.2.2.1
      have lz : loW (picO X T (lawO X T 0 fun _ => 0).2.1 (lawO X T 0 fun _ => 0).2.2).2.2 = 1 := by unfold loW; rw [if_pos a2.1]
      have s2' : StC X T M (fun A => 6 ≤ A 0) (picO X T (lawO X T 0 fun _ => 0).2.1 (lawO X T 0 fun _ => 0).2.2).2.1 (picO X T (lawO X T 0 fun _ => 0).2.1 (lawO X T 0 fun _ => 0).2.2).2.2 N2 := ⟨s2.1, s2.2.1, s2.2.2.1, a2.2, s2.2.2.2.2⟩
      have go := c_wallL (K := fun r16 M15 => ((((r16 : Int32) = 0 : Prop) → f_X9_readInto_54 K 33 M15) ∧ (¬ ((r16 : Int32) = 0 : Prop) → (f_X9_readFolk 33 M15 (fun r19 M18 => ((((r19 : Int32) = 0 : Prop) → f_X9_readInto_54 K 33 M18) ∧ (¬ ((r19 : Int32) = 0 : Prop) → f_X9_readInto_55 K 33 1 M18))))))) x t (6 - (picO X T (lawO X T 0 fun _ => 0).2.1 (lawO X T 0 fun _ => 0).2.2).2.2 2) 0 _ _ N2 (by have := wq2.2.2.1; omega) (by omega) s2' (fun r3 N3 oc3 => ?_)
      · rw [lz] at go
        exact ⟨_, go⟩
      · rcases oc3 with ⟨z3, rfl, s3⟩ | ⟨z3, rfl, fa⟩
        · refine br_f (by decide) ⟨_, c_folkL x t (6 - (wallL X T (6 - (picO X T (lawO X T 0 fun _ => 0).2.1 (lawO X T 0 fun _ => 0).2.2).2.2 2) (picO X T (lawO X T 0 fun _ => 0).2.1 (lawO X T 0 fun _ => 0).2.2).2.1 (picO X T (lawO X T 0 fun _ => 0).2.1 (lawO X T 0 fun _ => 0).2.2).2.2).2.2 3) 0 _ _ N3 (by have := s3.2.2.1.2.2.2.1; omega) (by omega) s3 (fun r4 N4 oc4 => ?_)⟩
          have pe : prO X T = folkL X T (6 - (wallL X T (6 - (picO X T (lawO X T 0 fun _ => 0).2.1 (lawO X T 0 fun _ => 0).2.2).2.2 2) (picO X T (lawO X T 0 fun _ => 0).2.1 (lawO X T 0 fun _ => 0).2.2).2.1 (picO X T (lawO X T 0 fun _ => 0).2.1 (lawO X T 0 fun _ => 0).2.2).2.2).2.2 3) (wallL X T (6 - (picO X T (lawO X T 0 fun _ => 0).2.1 (lawO X T 0 fun _ => 0).2.2).2.2 2) (picO X T (lawO X T 0 fun _ => 0).2.1 (lawO X T 0 fun _ => 0).2.2).2.1 (picO X T (lawO X T 0 fun _ => 0).2.1 (lawO X T 0 fun _ => 0).2.2).2.2).2.1 (wallL X T (6 - (picO X T (lawO X T 0 fun _ => 0).2.1 (lawO X T 0 fun _ => 0).2.2).2.2 2) (picO X T (lawO X T 0 fun _ => 0).2.1 (lawO X T 0 fun _ => 0).2.2).2.1 (picO X T (lawO X T 0 fun _ => 0).2.1 (lawO X T 0 fun _ => 0).2.2).2.2).2.2 := by
            unfold prO
            rw [bnd_z z1, bnd_z z2, bnd_z z3]
          rcases oc4 with ⟨z4, rfl, s4⟩ | ⟨z4, rfl, fa⟩
          · rw [← pe] at z4 s4
            refine br_f (by decide) ?_
            unfold f_X9_readInto_55
            refine br_f (by decide) (s_rises s4.2.2.1 s4.2.2.2.1 s4.2.2.2.2 (fun N5 f5 p5 => ⟨Or.inr rfl, h 1 N5 (Or.inl ⟨z4, rfl, ⟨fun k q1 q2 => by rw [f5 k (by omega)]; exact s4.1.1 k q1 q2, by rw [f5 24 (by omega)]; exact s4.1.2⟩, s4.2.2.1.wf s4.2.2.2.1, p5⟩)⟩))
          · exact br_t rfl (bad _ N4 z4 fa pe)
        · refine br_t rfl (bad _ N3 z3 fa ?_)
          unfold prO
          rw [bnd_z z1, bnd_z z2, bnd_ne z3]
    · refine br_t rfl (bad _ N2 z2 fa ?_)
      unfold prO
      rw [bnd_z z1, bnd_ne z2]
  · refine br_t rfl (bad _ N1 z1 fa ?_)
    unfold prO
    rw [bnd_ne z1]
/-- the reference reads -/
theorem picL_6 {X : Nat → Nat} {T : Nat} : ∀ (n p : Nat) (A : AP), n + A 0 = 25 → A 0 ≤ 24 → (picL X T n p A).1 = 0 → 6 ≤ (picL X T n p A).2.2 0 := by
  intro n
  induction n with
  | zero => intro p A h1 h2; omega
  | succ n ih =>
    intro p A h1 h2
    show (if 97 ≤ tkn X T p ∧ tkn X T p ≤ 106 then (if A 0 = 24 then ((3, p, A) : Ou) else picL X T n (p + 1) (figA A (tkn X T p - 97))) else (if A 0 < 6 then (1, p, A) else eO X T 59 p A)).1 = 0 → 6 ≤ (if 97 ≤ tkn X T p ∧ tkn X T p ≤ 106 then (if A 0 = 24 then ((3, p, A) : Ou) else picL X T n (p + 1) (figA A (tkn X T p - 97))) else (if A 0 < 6 then (1, p, A) else eO X T 59 p A)).2.2 0
    by_cases hin : 97 ≤ tkn X T p ∧ tkn X T p ≤ 106
    · rw [if_pos hin]
      by_cases q : A 0 = 24
      · rw [if_pos q]; intro z; exact absurd z (by show ¬ (3 : Nat) = 0; omega)
      · rw [if_neg q]
        exact ih (p + 1) _ (by rw [figA_0]; omega) (by rw [figA_0]; omega)
    · rw [if_neg hin]
      by_cases q : A 0 < 6
      · rw [if_pos q]; intro z; exact absurd z (by show ¬ (1 : Nat) = 0; omega)
      · rw [if_neg q]
        unfold eO
        by_cases q2 : tkn X T p = 59
        · rw [if_pos q2]; intro _; show 6 ≤ A 0; omega
        · rw [if_neg q2]; intro z; exact absurd z (by show ¬ (1 : Nat) = 0; omega)
theorem picO_6 {X : Nat → Nat} {T p : Nat} {A : AP} (h2 : A 0 ≤ 24) (h : (picO X T p A).1 = 0) : 6 ≤ (picO X T p A).2.2 0 := by
  unfold picO at h ⊢
  by_cases q : tkn X T p = 112
  · rw [eO_t q, bnd_0] at h ⊢
    exact picL_6 _ _ _ (by omega) h2 h
  · rw [eO_f q, bnd_e (by omega)] at h
    exact absurd h (by show ¬ (1 : Nat) = 0; omega)
theorem r_read {X : Nat → Nat} {T : Nat} (x : TpX X T) {M : Mm} (t : TpR X T M) {K : Mm → Prop} (h : ∀ M', OR' X T M (prO X T) M' → K M') : f_X12_read M K := by
  unfold f_X12_read
  intro M41 e41 M43 e43
  -- from the first step on
  have main : ∀ M1 : Mm, (∀ k, k ≠ 0 → k ≠ 6 → k ≠ 8 → M1 k = M k) → (∀ j, ¬ (7 ≤ j ∧ j ≤ 11) → M1 0 j = M 0 j) → M1 0 7 = 0 → M1 0 11 = 0 → (∀ i, i < 33 → M1 6 i = 0) → (∀ i, i < 22 → M1 8 i = 0) → l_X12_read_33 K 1 (nI 22) M1 := by
    intro M1 h1 h2 h7 h11 h6 h8
    rw [l_X12_read_33]
    refine br_t (by decide) ?_
    have t1 : TpR X T M1 := ⟨by rw [h2 6 (by omega)]; exact t.1, fun j hj => by rw [h1 5 (by omega) (by omega) (by omega)]; exact t.2 j hj⟩
    refine r_step (q := 0) x t1 h7 (Nat.zero_le _) (fun M2 c1 c2 c3 c4 c5 c6 => ?_)
    have s2 : StR X T M 0 (fun _ => 0) M2 := ⟨⟨⟨fun k q1 q2 q3 => by rw [c1 k q1]; exact h1 k q1 q2 q3, fun j hj => by rw [c2 j (by omega)]; exact h2 j hj⟩, by rw [c2 11 (by omega)]; exact h11, Nat.zero_le _, c3, c4, c5, c6⟩, WQ.zero, fun i hi => by rw [c1 6 (by omega)]; exact h6 i hi, fun j hj => by rw [c1 8 (by omega)]; exact h8 j hj⟩
    refine r_law (K := fun M18 => ((((M18 0 11 : Int32) = 0 : Prop) → (f_X12_picture M18 (fun M21 => ∃ z, l_X12_read_109 K z M21))) ∧ (¬ ((M18 0 11 : Int32) = 0 : Prop) → ∃ z, l_X12_read_109 K z M18))) (f94 := fun s M' => f_X12_read_94 K s 0 M') x t s2 (fun s M' => rfl) (fun N1 o1 => ?_)
    rcases o1 with ⟨z1, s1⟩ | ⟨z1, fa⟩
    · refine br_t s1.1.2.1 (r_pic x t s1 (fun N2 o2 => ?_))
      rcases o2 with ⟨z2, s3⟩ | ⟨z2, fa⟩
      · have a6 := picO_6 (X := X) (T := T) (p := (lawO X T 0 fun _ => 0).2.1) (A := (lawO X T 0 fun _ => 0).2.2) s1.2.1.1 z2
        refine ⟨_, r_wallL x t (6 - (picO X T (lawO X T 0 fun _ => 0).2.1 (lawO X T 0 fun _ => 0).2.2).2.2 2) _ _ N2 (by have := s3.2.1.2.2.1; omega) a6 s3 (fun N3 o3 => ?_)⟩
        rcases o3 with ⟨z3, s4⟩ | ⟨z3, fa⟩
        · refine ⟨_, r_folkL x t (6 - (wallL X T (6 - (picO X T (lawO X T 0 fun _ => 0).2.1 (lawO X T 0 fun _ => 0).2.2).2.2 2) (picO X T (lawO X T 0 fun _ => 0).2.1 (lawO X T 0 fun _ => 0).2.2).2.1 (picO X T (lawO X T 0 fun _ => 0).2.1 (lawO X T 0 fun _ => 0).2.2).2.2).2.2 3) _ _ N3 (by have := s4.2.1.2.2.2.1; omega) s4 (fun N4 o4 => h N4 ?_)⟩
          have pe : prO X T = folkL X T (6 - (wallL X T (6 - (picO X T (lawO X T 0 fun _ => 0).2.1 (lawO X T 0 fun _ => 0).2.2).2.2 2) (picO X T (lawO X T 0 fun _ => 0).2.1 (lawO X T 0 fun _ => 0).2.2).2.1 (picO X T (lawO X T 0 fun _ => 0).2.1 (lawO X T 0 fun _ => 0).2.2).2.2).2.2 3) (wallL X T (6 - (picO X T (lawO X T 0 fun _ => 0).2.1 (lawO X T 0 fun _ => 0).2.2).2.2 2) (picO X T (lawO X T 0 fun _ => 0).2.1 (lawO X T 0 fun _ => 0).2.2).2.1 (picO X T (lawO X T 0 fun _ => 0).2.1 (lawO X T 0 fun _ => 0).2.2).2.2).2.1 (wallL X T (6 - (picO X T (lawO X T 0 fun _ => 0).2.1 (lawO X T 0 fun _ => 0).2.2).2.2 2) (picO X T (lawO X T 0 fun _ => 0).2.1 (lawO X T 0 fun _ => 0).2.2).2.1 (picO X T (lawO X T 0 fun _ => 0).2.1 (lawO X T 0 fun _ => 0).2.2).2.2).2.2 := by
            unfold prO
            rw [bnd_z z1, bnd_z z2, bnd_z z3]
          rw [pe]
          exact o4
        · refine ⟨1, d_132 fa (h N3 ?_) 0⟩
          have pe : prO X T = wallL X T (6 - (picO X T (lawO X T 0 fun _ => 0).2.1 (lawO X T 0 fun _ => 0).2.2).2.2 2) (picO X T (lawO X T 0 fun _ => 0).2.1 (lawO X T 0 fun _ => 0).2.2).2.1 (picO X T (lawO X T 0 fun _ => 0).2.1 (lawO X T 0 fun _ => 0).2.2).2.2 := by
            unfold prO
            rw [bnd_z z1, bnd_z z2, bnd_ne z3]
          rw [pe]
          exact Or.inr ⟨z3, fa⟩
      · refine ⟨1, d_109 fa ⟨1, d_132 fa (h N2 ?_) 0⟩ 0⟩
        have pe : prO X T = picO X T (lawO X T 0 fun _ => 0).2.1 (lawO X T 0 fun _ => 0).2.2 := by
          unfold prO
          rw [bnd_z z1, bnd_ne z2]
        rw [pe]
        exact Or.inr ⟨z2, fa⟩
    · refine br_f fa.ne ⟨1, d_109 fa ⟨1, d_132 fa (h N1 ?_) 0⟩ 0⟩
      have pe : prO X T = lawO X T 0 fun _ => 0 := by
        unfold prO
        rw [bnd_ne z1]
      rw [pe]
      exact Or.inr ⟨z1, fa⟩
  have L33 : ∀ (j n : Nat) (M1 : Mm), n + j = 22 → (∀ k, k ≠ 0 → k ≠ 6 → k ≠ 8 → M1 k = M k) → (∀ j, ¬ (7 ≤ j ∧ j ≤ 11) → M1 0 j = M 0 j) → M1 0 7 = 0 → M1 0 11 = 0 → (∀ i, i < 33 → M1 6 i = 0) → (∀ i, i < n → M1 8 i = 0) → l_X12_read_33 K (j + 1) (nI n) M1 := by
    intro j
    induction j with
    | zero =>
      intro n M1 hn h1 h2 h7 h11 h6 h8
      rw [show n = 22 by omega] at h8 ⊢
      exact main M1 h1 h2 h7 h11 h6 h8
    | succ j ih =>
      intro n M1 hn h1 h2 h7 h11 h6 h8
      rw [l_X12_read_33, nI_leL (x := 22) (n := 22) (by omega) (by decide) rfl, nI_1, nI_cl (by omega)]
      refine br_f (by omega) ⟨vp_nI (by omega) (by decide), fun M34 e34 => ih (n + 1) M34 (by omega) (fun k q1 q2 q3 => by rw [e34, gU_cell q3]; exact h1 k q1 q2 q3) (fun j hj => by rw [e34, gU_cell (by omega)]; exact h2 j hj) (by rw [e34, gU_cell (by omega)]; exact h7) (by rw [e34, gU_cell (by omega)]; exact h11) (fun i hi => by rw [e34, gU_cell (by omega)]; exact h6 i hi) (fun i hi => ?_)⟩
      rw [e34, gU_now]
      by_cases e : i = n
      · rw [if_pos e]
      · rw [if_neg e]; exact h8 i (by omega)
  have L12 : ∀ (j n : Nat) (M1 : Mm), n + j = 33 → (∀ k, k ≠ 0 → k ≠ 6 → k ≠ 8 → M1 k = M k) → (∀ j, ¬ (7 ≤ j ∧ j ≤ 11) → M1 0 j = M 0 j) → M1 0 7 = 0 → M1 0 11 = 0 → (∀ i, i < n → M1 6 i = 0) → l_X12_read_12 K (j + 1) (nI n) M1 := by
    intro j
    induction j with
    | zero =>
      intro n M1 hn h1 h2 h7 h11 h6
      rw [l_X12_read_12, nI_leL (x := 33) (n := 33) (by omega) (by decide) rfl]
      exact br_t (by omega) ⟨23, L33 22 0 M1 rfl h1 h2 h7 h11 (fun i hi => h6 i (by omega)) (fun i hi => by omega)⟩
    | succ j ih =>
      intro n M1 hn h1 h2 h7 h11 h6
      rw [l_X12_read_12, nI_leL (x := 33) (n := 33) (by omega) (by decide) rfl, nI_1, nI_cl (by omega)]
      refine br_f (by omega) ⟨vp_nI (by omega) (by decide), fun M34 e34 => ih (n + 1) M34 (by omega) (fun k q1 q2 q3 => by rw [e34, gU_cell q2]; exact h1 k q1 q2 q3) (fun j hj => by rw [e34, gU_cell (by omega)]; exact h2 j hj) (by rw [e34, gU_cell (by omega)]; exact h7) (by rw [e34, gU_cell (by omega)]; exact h11) (fun i hi => ?_)⟩
      rw [e34, gU_now]
      by_cases e : i = n
      · rw [if_pos e]
      · rw [if_neg e]; exact h6 i (by omega)
  refine ⟨34, L12 33 0 M43 rfl (fun k q1 _ _ => by rw [e43, gU_cell q1, e41, gU_cell q1]) (fun j hj => by rw [e43, gU_place (by omega), e41, gU_place (by omega)]) (by rw [e43, gU_place (by omega), e41, gU_same]) (by rw [e43, gU_same]) (fun i hi => by omega)⟩
theorem s_rtake {M : Mm} {A : AP} (pr : PapR (M 6) (M 8) A) {K : Int32 → Mm → Prop} (h : ∀ M' : Mm, (∀ k, k ≠ 0 → k ≠ 7 → k ≠ 9 → M' k = M k) → (∀ j, j ≠ 19 → j ≠ 20 → M' 0 j = M 0 j) → M' 0 19 = 0 → M' 0 20 = 1 → PapR (M' 7) (M' 9) A → K (nI (A 0)) M') : ∃ z, l_X12_paper_34 K z 0 M := by
  have L60 : ∀ (j n : Nat) (M1 : Mm), n + j = 22 → (∀ k, k ≠ 7 → k ≠ 9 → M1 k = M k) → (∀ i, i < 33 → M1 7 i = nI (A i)) → (∀ i, i < n → M1 9 i = nI (A (33 + i))) → l_X12_paper_60 K (j + 1) (nI n) M1 := by
    intro j
    induction j with
    | zero =>
      intro n M1 hn h1 h7 h9
      rw [l_X12_paper_60, nI_leL (x := 22) (n := 22) (by omega) (by decide) rfl]
      refine br_t (by omega) (fun M2 e2 M4 e4 => ?_)
      have g7 : M4 7 = M1 7 := by rw [e4, gU_cell (by omega), e2, gU_cell (by omega)]
      have g9 : M4 9 = M1 9 := by rw [e4, gU_cell (by omega), e2, gU_cell (by omega)]
      rw [show M4 7 (0 : Int32).toNatClampNeg = nI (A 0) by rw [g7]; exact h7 0 (by omega)]
      exact h M4 (fun k q1 q2 q3 => by rw [e4, gU_cell q1, e2, gU_cell q1]; exact h1 k q2 q3) (fun j q1 q2 => by rw [e4, gU_place q1, e2, gU_place q2, h1 0 (by omega) (by omega)]) (by rw [e4, gU_same]) (by rw [e4, gU_place (by omega), e2, gU_same]) ⟨fun i hi => by rw [g7]; exact h7 i hi, fun i hi => by rw [g9]; exact h9 i (by omega)⟩
    | succ j ih =>
      intro n M1 hn h1 h7 h9
      rw [l_X12_paper_60, nI_leL (x := 22) (n := 22) (by omega) (by decide) rfl, nI_1, nI_cl (by omega)]
      refine br_f (by omega) ⟨vp_nI (by omega) (by decide), fun M7 e7 => ih (n + 1) M7 (by omega) (fun k q1 q2 => by rw [e7, gU_cell q2]; exact h1 k q1 q2) (fun i hi => by rw [e7, gU_cell (by omega)]; exact h7 i hi) (fun i hi => ?_)⟩
      rw [e7, gU_now]
      by_cases e : i = n
      · rw [if_pos e, e, h1 8 (by omega) (by omega)]; exact pr.2 n (by omega)
      · rw [if_neg e]; exact h9 i (by omega)
  have L34 : ∀ (j n : Nat) (M1 : Mm), n + j = 33 → (∀ k, k ≠ 7 → M1 k = M k) → (∀ i, i < n → M1 7 i = nI (A i)) → l_X12_paper_34 K (j + 1) (nI n) M1 := by
    intro j
    induction j with
    | zero =>
      intro n M1 hn h1 h7
      rw [l_X12_paper_34, nI_leL (x := 33) (n := 33) (by omega) (by decide) rfl]
      exact br_t (by omega) ⟨23, L60 22 0 M1 rfl (fun k q1 _ => h1 k q1) (fun i hi => h7 i (by omega)) (fun i hi => by omega)⟩
    | succ j ih =>
      intro n M1 hn h1 h7
      rw [l_X12_paper_34, nI_leL (x := 33) (n := 33) (by omega) (by decide) rfl, nI_1, nI_cl (by omega)]
      refine br_f (by omega) ⟨vp_nI (by omega) (by decide), fun M7 e7 => ih (n + 1) M7 (by omega) (fun k q1 => by rw [e7, gU_cell q1]; exact h1 k q1) (fun i hi => ?_)⟩
      rw [e7, gU_now]
      by_cases e : i = n
      · rw [if_pos e, e, h1 6 (by omega)]; exact pr.1 n (by omega)
      · rw [if_neg e]; exact h7 i (by omega)
  exact ⟨34, L34 33 0 M rfl (fun _ _ => rfl) (fun i hi => by omega)⟩
theorem op_paper {Mc Mr : Mm} (hI : Inv Mc Mr) : f_X11_paper Mc (fun r Mc' => f_X12_paper Mr (fun r' Mr' => r = r' ∧ Inv Mc' Mr')) := by
  obtain ⟨h1, h2, p1, ⟨T, hT, tc, tr, tb⟩, p3, A0, hC, hR, hAc, g1, g2, hr⟩ := id hI
  have hp := hI.2.2
  have x : TpX (fun j => (Mc 25 j).toNatClampNeg) T := ⟨hT, fun j hj => by obtain ⟨y, hy, e, _⟩ := tb j hj; show (Mc 25 j).toNatClampNeg < 256; rw [e, nI_cl (by omega)]; exact hy⟩
  have xc : TpC (fun j => (Mc 25 j).toNatClampNeg) T Mc := ⟨tc, fun j hj => by obtain ⟨y, hy, e, _⟩ := tb j hj; show Mc 25 j = nI (Mc 25 j).toNatClampNeg; rw [e, nI_cl (by omega)]⟩
  have xr : TpR (fun j => (Mc 25 j).toNatClampNeg) T Mr := ⟨tr, fun j hj => by obtain ⟨y, hy, e, e2⟩ := tb j hj; show Mr 5 j = (nI (Mc 25 j).toNatClampNeg).toInt8.toInt32; rw [e, nI_cl (by omega)]; exact e2⟩
  unfold f_X11_paper
  refine c_read x xc (fun r M1 fn M3 e3 => ?_)
  unfold f_X12_paper f_X11_forgetActs
  rcases fn with ⟨z, rfl, fr, wf, pc⟩ | ⟨z, rfl, fr, f6, f7⟩
  · refine br_f (by decide) ?_
    have k3 : ∀ k, k ≠ 24 → M3 k = M1 k := fun k hk => by rw [e3, gU_cell hk]
    refine s_become (by omega) (pc.congr (fun k _ _ => k3 k (by omega))) wf.sm (fun M6 f6 p6 M7 e7 M9 e9 => ?_)
    have k9 : ∀ k, k ≠ 0 → M9 k = M6 k := fun k hk => by rw [e9, gU_cell hk, e7, gU_cell hk]
    have pc9 : PapC M9 26 (prO (fun j => (Mc 25 j).toNatClampNeg) T).2.2 := p6.congr (fun k _ _ => k9 k (by omega))
    have fr9 : ∀ k, k ≠ 0 → k ≠ 24 → ¬ (26 ≤ k ∧ k ≤ 32) → ¬ (33 ≤ k ∧ k ≤ 39) → M9 k = Mc k := fun k q0 q1 q2 q3 => by rw [k9 k q0, f6 k (by omega), k3 k q1]; exact fr.1 k q1 q3
    have z9 : ∀ j, j ≠ 9 → j ≠ 10 → M9 0 j = Mc 0 j := fun j q1 q2 => by rw [e9, gU_place q2, e7, gU_place q1, f6 0 (by omega), k3 0 (by omega), fr.1 0 (by omega) (by omega)]
    refine r_read x xr (fun N1 o1 N2 e2 => ?_)
    rcases o1 with ⟨_, s1⟩ | ⟨z', _⟩
    · have w11 : N2 0 11 = 0 := by rw [e2, gU_place (by omega)]; exact s1.1.2.1
      refine br_t w11 ?_
      have pr2 : PapR (N2 6) (N2 8) (prO (fun j => (Mc 25 j).toNatClampNeg) T).2.2 := by rw [e2, gU_cell (by omega), gU_cell (by omega)]; exact s1.2.2
      refine s_rtake pr2 (fun N4 c1 c2 c3 c4 c5 => ⟨pc9.1.2.1, ?_⟩)
      have r4 : ∀ k, k ≠ 0 → k ≠ 6 → k ≠ 7 → k ≠ 8 → k ≠ 9 → N4 k = Mr k := fun k q0 q6 q7 q8 q9 => by rw [c1 k q0 q7 q9, e2, gU_cell q0]; exact s1.1.1.1 k q0 q6 q8
      have r0 : ∀ j, j ≠ 6 → j ≠ 19 → j ≠ 20 → ¬ (7 ≤ j ∧ j ≤ 11) → N4 0 j = Mr 0 j := fun j q6 q19 q20 q => by rw [c2 j q19 q20, e2, gU_place q6]; exact s1.1.1.2 j q
      refine ⟨h1.congr (fun k _ _ => fr9 k (by omega) (by omega) (by omega) (by omega)) (r4 1 (by omega) (by omega) (by omega) (by omega) (by omega)) (r4 2 (by omega) (by omega) (by omega) (by omega) (by omega)) (r4 3 (by omega) (by omega) (by omega) (by omega) (by omega)), by rw [z9 11 (by omega) (by omega), r0 4 (by omega) (by omega) (by omega) (by omega)]; exact h2, by rw [z9 12 (by omega) (by omega), r0 12 (by omega) (by omega) (by omega) (by omega)]; exact p1, ⟨0, by omega, ?_, ?_, fun j hj => by omega⟩, p3.congr (by rw [fr9 64 (by omega) (by omega) (by omega) (by omega)]) (fr9 65 (by omega) (by omega) (by omega) (by omega)) (r0 26 (by omega) (by omega) (by omega) (by omega)) (r4 16 (by omega) (by omega) (by omega) (by omega) (by omega)), _, pc9, c5, ⟨0, 0, by omega, by omega, ?_, ?_, c3, fun j hj => by omega⟩, g1.congr (fun q q1 q2 => fr9 q (by omega) (by omega) (by omega) (by omega)) (r4 14 (by omega) (by omega) (by omega) (by omega) (by omega)) (r4 12 (by omega) (by omega) (by omega) (by omega) (by omega)) (r4 13 (by omega) (by omega) (by omega) (by omega) (by omega)), g2.congr (fun q q1 q2 => fr9 q (by omega) (by omega) (by omega) (by omega)) (r4 14 (by omega) (by omega) (by omega) (by omega) (by omega)) (r4 12 (by omega) (by omega) (by omega) (by omega) (by omega)) (r4 13 (by omega) (by omega) (by omega) (by omega) (by omega)), Or.inr ⟨c4, wf⟩⟩
      · rw [k9 24 (by omega), f6 24 (by omega), e3, gU_same]; rfl
      · rw [c2 6 (by omega) (by omega), e2, gU_same]; rfl
      · rw [e9, gU_place (by omega), e7, gU_same]; rfl
      · rw [e9, gU_same]; rfl
    · exact absurd z z'
  · refine br_t rfl (fun M8 e8 => ?_)
    have m36 : M3 24 6 = nI (prO (fun j => (Mc 25 j).toNatClampNeg) T).1 := by rw [e3, gU_place (by omega)]; exact f6
    have m87 : M8 24 7 = nI (prO (fun j => (Mc 25 j).toNatClampNeg) T).2.1 := by rw [e8, gU_cell (by omega), e3, gU_place (by omega)]; exact f7
    rw [m36] at e8
    have fr8 : ∀ k, k ≠ 0 → k ≠ 24 → ¬ (33 ≤ k ∧ k ≤ 39) → M8 k = Mc k := fun k q0 q1 q3 => by rw [e8, gU_cell q0, e3, gU_cell q1]; exact fr.1 k q1 q3
    have z8 : ∀ j, j ≠ 12 → M8 0 j = Mc 0 j := fun j q => by rw [e8, gU_place q, e3, gU_cell (by omega), fr.1 0 (by omega) (by omega)]
    refine r_read x xr (fun N1 o1 N2 e2 => ?_)
    rcases o1 with ⟨z', _⟩ | ⟨_, fa⟩
    · exact absurd z' z
    · have w11 : N2 0 11 = nI (prO (fun j => (Mc 25 j).toNatClampNeg) T).1 := by rw [e2, gU_place (by omega)]; exact fa.2.2.1
      have nz : ¬ N2 0 11 = 0 := by rw [w11, nI_is0 (by have := fa.1.2; omega)]; exact z
      refine br_f nz (fun N3 e3' => ?_)
      rw [w11] at e3'
      have r4 : ∀ k, k ≠ 0 → k ≠ 6 → k ≠ 8 → N3 k = Mr k := fun k q0 q6 q8 => by rw [e3', gU_cell q0, e2, gU_cell q0]; exact fa.2.1.1 k q0 q6 q8
      have r0 : ∀ j, j ≠ 6 → j ≠ 12 → ¬ (7 ≤ j ∧ j ≤ 11) → N3 0 j = Mr 0 j := fun j q6 q12 q => by rw [e3', gU_place q12, e2, gU_place q6]; exact fa.2.1.2 j q
      have n38 : N3 0 8 = nI (prO (fun j => (Mc 25 j).toNatClampNeg) T).2.1 := by rw [e3', gU_place (by omega), e2, gU_place (by omega)]; exact fa.2.2.2
      refine ⟨by rw [m87, n38], h1.congr (fun k _ _ => fr8 k (by omega) (by omega) (by omega)) (r4 1 (by omega) (by omega) (by omega)) (r4 2 (by omega) (by omega) (by omega)) (r4 3 (by omega) (by omega) (by omega)), by rw [z8 11 (by omega), r0 4 (by omega) (by omega) (by omega)]; exact h2, hp.but (by rw [e8, gU_same, e3', gU_same]) ⟨0, by omega, ?_, ?_, fun j hj => by omega⟩ (p3.congr (by rw [fr8 64 (by omega) (by omega) (by omega)]) (fr8 65 (by omega) (by omega) (by omega)) (r0 26 (by omega) (by omega) (by omega)) (r4 16 (by omega) (by omega) (by omega))) (z8 9 (by omega)) (z8 10 (by omega)) (fun k hk => fr8 k (by omega) (by omega) (by omega)) (r0 19 (by omega) (by omega) (by omega)) (r0 20 (by omega) (by omega) (by omega)) (fun k hk => r4 k (by omega) (by omega) (by omega))⟩
      · rw [e8, gU_cell (by omega), e3, gU_same]; rfl
      · rw [e3', gU_place (by omega), e2, gU_same]; rfl
