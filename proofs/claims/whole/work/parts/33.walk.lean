theorem setA_id {A : AP} {i v : Nat} (h : v = A i) : setA A i v = A := by
  funext j
  unfold setA
  by_cases hj : j = i
  · rw [if_pos hj, h, hj]
  · rw [if_neg hj]
/-- the way behind the step, the house, and what one knows then -/
def nw (A : AP) (f : Nat) : Nat := if A (45 + f) = 0 then (if A (40 + f) = 0 then 1 else 0) else (if A (40 + f) = A 2 then 0 else 1)
def nh (A : AP) (f : Nat) : Nat := if A 2 = 0 then A (40 + f) else if nw A f = 0 then A (40 + f) - 1 else A (40 + f) + 1
def walkA (A : AP) (f k : Nat) : AP := setA (setA (setA A (45 + f) (nw A f)) (40 + f) (nh A f)) (50 + f) (A (50 + f) ||| sees A k (nh A f))
def Low (A B : AP) : Prop := ∀ i, i < 40 → B i = A i
theorem Low.st {A B : AP} (t : Low A B) (s2 : A 2 ≤ 5) (h : Nat) : stO B h = stO A h := by
  unfold stO
  rw [t 2 (by omega), t 0 (by omega)]
  by_cases h0 : h = 0
  · rw [if_pos h0, if_pos h0]
  · rw [if_neg h0, if_neg h0]
    by_cases h1 : h ≤ A 2
    · rw [if_pos h1, if_pos h1, t _ (by omega)]
    · rw [if_neg h1, if_neg h1]
theorem Low.sees {A B : AP} (t : Low A B) (s : Sm A) (k h : Nat) : sees B k h = _root_.Jvm.Pilot.CPaperHousesLaw_law_r9707_3cab56.sees A k h := by
  have s0 := s.1
  unfold _root_.Jvm.Pilot.CPaperHousesLaw_law_r9707_3cab56.sees
  rw [t 0 (by omega)]
  refine msk_congr (fun c hc => ?_)
  have hi : ∀ c, inH B h c = inH A h c := fun c => by unfold inH; rw [t.st s.2.2.1, t.st s.2.2.1]
  have hr : rise B c = rise A c := by unfold rise; rw [t (4 + (c - 1)) (by omega), t (4 + c) (by omega)]
  unfold seP
  rw [hi, hi, hi, hr, t 39 (by omega)]
theorem nh_le {D : Nat} {A : AP} (w : WFb D A) {f : Nat} (hf : f < A 3) : nh A f ≤ A 2 := by
  have h := w.2.2.2.2.2.2.2.2.2.2 f hf
  unfold nh nw
  by_cases h2 : A 2 = 0
  · rw [if_pos h2]; exact h.1
  · rw [if_neg h2]
    by_cases h45 : A (45 + f) = 0
    · rw [if_pos h45]
      by_cases h40 : A (40 + f) = 0
      · rw [if_pos h40, if_neg (by omega)]; omega
      · rw [if_neg h40, if_pos rfl]; omega
    · rw [if_neg h45]
      by_cases h40 : A (40 + f) = A 2
      · rw [if_pos h40, if_pos rfl]; omega
      · rw [if_neg h40, if_neg (by omega)]; omega
theorem nw_le (A : AP) (f : Nat) : nw A f ≤ 1 := by
  unfold nw
  split <;> split <;> omega
theorem WFb.way {D : Nat} {A : AP} (w : WFb D A) {f v : Nat} (hf : f < A 3) (hv : v ≤ 1) : WFb D (setA A (45 + f) v) := by
  have s3 := w.2.2.2.1
  have s2 := w.2.2.1
  have s0 := w.1.2
  have n : ∀ {j : Nat}, j ≠ 45 + f → setA A (45 + f) v j = A j := fun q => setA_n q
  obtain ⟨w1, w2, w3, w4, w5, w6, w7, w8, w9, w10, w11⟩ := w
  unfold WFb
  rw [n (j := 0) (by omega), n (j := 1) (by omega), n (j := 2) (by omega), n (j := 3) (by omega), n (j := 33) (by omega), n (j := 39) (by omega)]
  refine ⟨w1, w2, w3, w4, fun c hc => by rw [n (by omega)]; exact w5 c hc, fun g hg => by rw [n (by omega)]; exact w6 g hg, w7, fun u hu => by rw [n (by omega)]; exact w8 u hu, fun u hu => by rw [n (by omega), n (by omega)]; exact w9 u hu, w10, fun g hg => ?_⟩
  rw [n (j := 40 + g) (by omega), n (j := 50 + g) (by omega)]
  refine ⟨(w11 g hg).1, ?_, (w11 g hg).2.2⟩
  by_cases hgf : g = f
  · subst hgf; rw [setA_s]; exact hv
  · rw [n (by omega)]; exact (w11 g hg).2.1
theorem WFb.walk {D : Nat} {A : AP} (w : WFb D A) {f : Nat} (hf : f < A 3) (k : Nat) : WFb D (walkA A f k) := by
  have s3 := w.2.2.2.1
  have w1 := w.way hf (nw_le A f)
  have e3 : setA A (45 + f) (nw A f) 3 = A 3 := setA_n (by omega)
  have e2 : setA A (45 + f) (nw A f) 2 = A 2 := setA_n (by omega)
  have w2 := w1.house (f := f) (h := nh A f) (by rw [e3]; exact hf) (by rw [e2]; exact nh_le w hf)
  have e30 : setA (setA A (45 + f) (nw A f)) (40 + f) (nh A f) 3 = A 3 := by rw [setA_n (by omega), e3]
  have e0 : setA (setA A (45 + f) (nw A f)) (40 + f) (nh A f) 0 = A 0 := by rw [setA_n (by omega), setA_n (by omega)]
  refine w2.knows (by rw [e30]; exact hf) ?_
  rw [e0]
  exact pow_or (w.2.2.2.2.2.2.2.2.2.2 f hf).2.2 (sees_lt _ _ _)
theorem walk_told {A : AP} {f k : Nat} : Told A (walkA A f k) := ((Told.set (by omega)).trans (Told.set (by omega))).trans (Told.set (by omega))
theorem walk_low {A : AP} {f k : Nat} : Low A (walkA A f k) := fun i hi => by
  unfold walkA
  rw [setA_n (by omega), setA_n (by omega), setA_n (by omega)]
theorem s_walk {D b f : Nat} {M : Mm} {A : AP} (p : PapC M b A) (w : WFb D A) (hf : f < A 3) {K : Mm → Prop} (h : ∀ M' : Mm, (∀ q, q ≠ b + 4 → q ≠ b + 5 → q ≠ b + 6 → M' q = M q) → PapC M' b (walkA A f (A (28 + f))) → K M') : f_X6_walk b (nI f) M K := by
  have s := w.sm
  have s3 := s.2.2.2
  have s2 := s.2.2.1
  have hv5 : vp_in (nI f) 5 := vp_nI (by omega) (by decide)
  have cf : (nI f).toNatClampNeg = f := nI_cl (by omega)
  have hA := w.2.2.2.2.2.2.2.2.2.2 f hf
  -- from the step into the house on
  have l110 : ∀ (M1 : Mm), (∀ q, q ≠ b + 4 → q ≠ b + 5 → q ≠ b + 6 → M1 q = M q) → PapC M1 b (setA (setA A (45 + f) (nw A f)) (40 + f) (nh A f)) → f_X6_walk_110 K b (nI f) M1 := by
    intro M1 h1 p1
    have w1 := w.way hf (nw_le A f)
    have e3 : setA A (45 + f) (nw A f) 3 = A 3 := setA_n (by omega)
    have e2 : setA A (45 + f) (nw A f) 2 = A 2 := setA_n (by omega)
    have w2 := w1.house (f := f) (h := nh A f) (by rw [e3]; exact hf) (by rw [e2]; exact nh_le w hf)
    have e30 : setA (setA A (45 + f) (nw A f)) (40 + f) (nh A f) 3 = A 3 := by rw [setA_n (by omega), e3]
    have k28 : setA (setA A (45 + f) (nw A f)) (40 + f) (nh A f) (28 + f) = A (28 + f) := by rw [setA_n (by omega), setA_n (by omega)]
    have k50 : setA (setA A (45 + f) (nw A f)) (40 + f) (nh A f) (50 + f) = A (50 + f) := by rw [setA_n (by omega), setA_n (by omega)]
    have lo : Low A (setA (setA A (45 + f) (nw A f)) (40 + f) (nh A f)) := fun i hi => by rw [setA_n (by omega), setA_n (by omega)]
    unfold f_X6_walk_110
    refine ⟨hv5, e_seenBy p1 w2 (by rw [e30]; exact hf) _ (fun M4 e4 => ?_)⟩
    rw [cf, (p1.2.2.2 f (by rw [e30]; exact hf)).2.2.2, k28, k50, setA_s, lo.sees s, nI_or] at e4
    exact h M4 (fun q q1 q2 q3 => by rw [e4, gU_cell q3]; exact h1 q q1 q2 q3) (p1.uKnows w2.sm e4 (by rw [e30]; exact hf))
  -- with the new way
  have l85 : ∀ (M1 : Mm), (∀ q, q ≠ b + 4 → q ≠ b + 5 → q ≠ b + 6 → M1 q = M q) → PapC M1 b (setA A (45 + f) (nw A f)) → f_X6_walk_85 K b (nI f) (nI (nw A f)) M1 := by
    intro M1 h1 p1
    have w1 := w.way hf (nw_le A f)
    have e3 : setA A (45 + f) (nw A f) 3 = A 3 := setA_n (by omega)
    have e2 : setA A (45 + f) (nw A f) 2 = A 2 := setA_n (by omega)
    have e40 : setA A (45 + f) (nw A f) (40 + f) = A (40 + f) := setA_n (by omega)
    have m4 : M1 (b + 4) f = nI (A (40 + f)) := by rw [(p1.2.2.2 f (by rw [e3]; exact hf)).2.1, e40]
    have m9 : M1 b 9 = nI (A 2) := by rw [p1.1.2.2.1, e2]
    have l108 : ∀ z : Int32, A 2 ≠ 0 → nI (A (40 + f)) + z = nI (nh A f) → f_X6_walk_108 K b (nI f) z (nI (A (40 + f))) (nI f) (b + 4) M1 := by
      intro z _ hz
      unfold f_X6_walk_108
      rw [cf, hz]
      refine ⟨hv5, fun M7 e7 => l110 M7 (fun q q1 q2 q3 => by rw [e7, gU_cell q1]; exact h1 q q1 q2 q3) (p1.uHouse w1.sm e7 (by rw [e3]; exact hf))⟩
    unfold f_X6_walk_85
    rw [cf, m4, m9]
    refine br_c (fun q => ?_) (fun q => ⟨hv5, ?_⟩)
    · rw [le_I, nI_I (by omega)] at q
      have q : (A 2 : Int) ≤ 0 := q
      refine l110 M1 h1 ?_
      rw [setA_id (i := 40 + f) (v := nh A f) (by rw [e40]; unfold nh; rw [if_pos (by omega)])]
      exact p1
    · rw [le_I, nI_I (by omega)] at q
      have q : ¬ (A 2 : Int) ≤ 0 := q
      have lw := nw_le A f
      rw [nI_is0 (by omega)]
      refine br_c (fun q2 => l108 (-1) (by omega) ?_) (fun q2 => l108 1 (by omega) ?_)
      · have : nh A f = A (40 + f) - 1 := by unfold nh; rw [if_neg (by omega), if_pos q2]
        have ge : 1 ≤ A (40 + f) := by
          unfold nw at q2
          by_cases h45 : A (45 + f) = 0
          · rw [if_pos h45] at q2
            by_cases h40 : A (40 + f) = 0
            · rw [if_pos h40] at q2; omega
            · omega
          · rw [if_neg h45] at q2
            by_cases h40 : A (40 + f) = A 2
            · omega
            · rw [if_neg h40] at q2; omega
        rw [this]
        exact sb_m1 ge
      · have : nh A f = A (40 + f) + 1 := by unfold nh; rw [if_neg (by omega), if_neg q2]
        rw [this]
        exact nI_1 _
  have l84 : f_X6_walk_84 K b (nI f) (nI (nw A f)) (nI (nw A f)) (nI f) (b + 5) M := by
    unfold f_X6_walk_84
    rw [cf]
    exact ⟨hv5, fun M13 e13 => l85 M13 (fun q q1 q2 q3 => by rw [e13, gU_cell q2]) (p.uWay s e13 hf)⟩
  have m4 : M (b + 4) f = nI (A (40 + f)) := (p.2.2.2 f hf).2.1
  have m5 : M (b + 5) f = nI (A (45 + f)) := (p.2.2.2 f hf).2.2.1
  have m9 : M b 9 = nI (A 2) := p.1.2.2.1
  have l69 : ∀ o : Nat, o ≤ 1 → o = nw A f → f_X6_walk_69 K b (nI f) (nI o) M := by
    intro o ho ho2
    unfold f_X6_walk_69
    rw [nI_is0 (by omega)]
    refine br_c (fun q => ?_) (fun q => ?_)
    · have := l84
      rw [← ho2] at this
      rw [q] at this ⊢
      exact this
    · have := l84
      rw [← ho2] at this
      rw [show o = 1 by omega] at this ⊢
      exact this
  have l55k : A (45 + f) = nw A f → f_X6_walk_85 K b (nI f) (nI (A (45 + f))) M := by
    intro hk
    have := l85 M (fun q _ _ _ => rfl) (by rw [setA_id (i := 45 + f) hk.symm]; exact p)
    rw [← hk] at this
    exact this
  unfold f_X6_walk
  rw [cf, m5, nI_is1 (by omega)]
  refine ⟨hv5, br_c (fun q => ?_) (fun q => ?_)⟩
  · unfold f_X6_walk_15
    rw [cf, m4, m9]
    refine br_f (by decide) ⟨hv5, ?_⟩
    have e1 : (1 : Int32) = nI (A (45 + f)) := by rw [q]; rfl
    unfold f_X6_walk_55
    refine br_c (fun q2 => br_t rfl ?_) (fun q2 => br_f (by decide) (br_f (by decide) ?_))
    · rw [lt_I, nI_I (by omega), nI_I (by omega)] at q2
      rw [e1]
      exact l55k (by unfold nw; rw [if_neg (by omega), if_neg (by omega)]; exact q)
    · rw [lt_I, nI_I (by omega), nI_I (by omega)] at q2
      exact l69 0 (by omega) (by unfold nw; rw [if_neg (by omega), if_pos (by omega)])
  · have q0 : A (45 + f) = 0 := by omega
    unfold f_X6_walk_15
    rw [cf, m4, m9]
    refine br_t rfl ⟨hv5, ?_⟩
    unfold f_X6_walk_55
    refine br_c (fun q2 => br_t rfl ?_) (fun q2 => br_f (by decide) (br_t rfl ?_))
    · rw [lt_I, nI_I (by omega)] at q2
      have q2 : (0 : Int) < (A (40 + f) : Int) := q2
      have e0 : (0 : Int32) = nI (A (45 + f)) := by rw [q0]; rfl
      have := l55k (by unfold nw; rw [if_pos q0, if_neg (by omega)]; exact q0)
      rw [← e0] at this
      exact this
    · rw [lt_I, nI_I (by omega)] at q2
      have q2 : ¬ (0 : Int) < (A (40 + f) : Int) := q2
      exact l69 1 (by omega) (by unfold nw; rw [if_pos q0, if_pos (by omega)])
