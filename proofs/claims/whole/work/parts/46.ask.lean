/-- the trace, on both sides -/
def psh (T : Nat → Int32) (n : Nat) (v : Int32) : Nat → Int32 := fun j => if j = n then v else T j
def TrC (M0 : Mm) (a b c : Int32) (n : Nat) (T : Nat → Int32) (M : Mm) : Prop := M 64 1 = nI n ∧ M 64 2 = a ∧ M 64 3 = b ∧ M 64 4 = c ∧ (∀ j, j < n → M 65 j = T j) ∧ ∀ q, q ≠ 64 → q ≠ 65 → M q = M0 q
def TrR (M0 : Mm) (n : Nat) (T : Nat → Int32) (M : Mm) : Prop := M 0 26 = nI n ∧ (∀ j, j < n → M 16 j = T j) ∧ (∀ j, j ≠ 26 → M 0 j = M0 0 j) ∧ ∀ q, q ≠ 0 → q ≠ 16 → M q = M0 q
theorem s_leave {M0 M : Mm} {a b c v : Int32} {n : Nat} {T : Nat → Int32} (t : TrC M0 a b c n T M) (hn : n < 16) {K : Mm → Prop} (h : ∀ M' : Mm, TrC M0 a b c (n + 1) (psh T n v) M' → K M') : f_X0_leave v M K := by
  obtain ⟨t1, t2, t3, t4, t5, t6⟩ := t
  unfold f_X0_leave
  rw [t1, nI_cl (by omega)]
  refine br_t (by rw [lt_I, nI_I (by omega)]; show (n : Int) < 16; omega) ⟨vp_nI hn (by decide), fun M3 e3 M5 e5 => h M5 ?_⟩
  have e31 : M3 64 1 = nI n := by rw [e3, gU_cell (by omega)]; exact t1
  rw [e31, nI_1] at e5
  refine ⟨by rw [e5, gU_same], by rw [e5, gU_place (by omega), e3, gU_cell (by omega)]; exact t2, by rw [e5, gU_place (by omega), e3, gU_cell (by omega)]; exact t3, by rw [e5, gU_place (by omega), e3, gU_cell (by omega)]; exact t4, fun j hj => ?_, fun q q1 q2 => by rw [e5, gU_cell q1, e3, gU_cell q2]; exact t6 q q1 q2⟩
  rw [e5, gU_cell (by omega), e3, gU_now]
  unfold psh
  by_cases e : j = n
  · rw [if_pos e, if_pos e]
  · rw [if_neg e, if_neg e]; exact t5 j (by omega)
theorem s_rleave {M0 M : Mm} {v : Int32} {n : Nat} {T : Nat → Int32} (t : TrR M0 n T M) (hn : n < 16) {K : Mm → Prop} (h : ∀ M' : Mm, TrR M0 (n + 1) (psh T n v) M' → K M') : f_X12_leave v M K := by
  obtain ⟨t1, t2, t3, t4⟩ := t
  unfold f_X12_leave
  rw [t1, nI_cl (by omega)]
  refine br_f (by rw [le_I, nI_I (by omega)]; show ¬ (16 : Int) ≤ n; omega) ⟨vp_nI hn (by decide), fun M3 e3 M5 e5 => h M5 ?_⟩
  have e31 : M3 0 26 = nI n := by rw [e3, gU_cell (by omega)]; exact t1
  rw [e31, nI_1] at e5
  refine ⟨by rw [e5, gU_same], fun j hj => ?_, fun j hj => by rw [e5, gU_place hj, e3, gU_cell (by omega)]; exact t3 j hj, fun q q1 q2 => by rw [e5, gU_cell q1, e3, gU_cell q2]; exact t4 q q1 q2⟩
  rw [e5, gU_cell (by omega), e3, gU_now]
  unfold psh
  by_cases e : j = n
  · rw [if_pos e, if_pos e]
  · rw [if_neg e, if_neg e]; exact t2 j (by omega)
/-- what is asked of: the reference's numbers of one -/
def OneR (M0 : Mm) (f k kn h : Nat) : Prop := f < 5 ∧ kn < 16777216 ∧ M0 7 (28 + f) = nI k ∧ M0 9 (17 + f) = nI kn ∧ M0 9 (7 + f) = nI h
theorem r_size10 {M0 M : Mm} {f k kn h n : Nat} {T : Nat → Int32} (o : OneR M0 f k kn h) (t : TrR M0 n T M) (hn : n < 16) {K : Int32 → Mm → Prop} (hK : ∀ M' : Mm, TrR M0 (n + 1) (psh T n 10) M' → K (nI (bc kn 24)) M') : f_X12_size10 (nI f) M K := by
  unfold f_X12_size10
  refine s_rleave t hn (fun M1 t1 => ?_)
  have f5 := o.1
  rw [c_add (c := 17) (n := 17) rfl, nI_cl (by omega), t1.2.2.2 9 (by omega) (by omega), o.2.2.2.1]
  exact ⟨vp_nI (by omega) (by decide), e_bitsOf o.2.1 _ _ (hK M1 t1)⟩
theorem r_mark21 {M0 M : Mm} {f k kn h n : Nat} {T : Nat → Int32} (o : OneR M0 f k kn h) (t : TrR M0 n T M) (hn : n < 15) {K : Int32 → Mm → Prop} (hK : ∀ M' : Mm, TrR M0 (n + 2) (psh (psh T n 21) (n + 1) 20) M' → K (nI f + nI h) M') : f_X12_mark21 (nI f) M K := by
  unfold f_X12_mark21 f_X12_mark20
  refine s_rleave t (by omega) (fun M1 t1 => s_rleave t1 (by omega) (fun M2 t2 => ?_))
  have f5 := o.1
  have e2 : M2 9 (7 + f) = nI h := by rw [t2.2.2.2 9 (by omega) (by omega), o.2.2.2.2]
  simp only [c_add (c := 7) (n := 7) rfl, nI_cl (show 7 + f < 2147483648 by omega), e2]
  exact ⟨vp_nI (by omega) (by decide), hK M2 t2⟩
theorem r_size13 {M0 M : Mm} {f k kn h n : Nat} {T : Nat → Int32} (o : OneR M0 f k kn h) (t : TrR M0 n T M) (hn : n < 15) {K : Int32 → Mm → Prop} (hK : ∀ M' : Mm, TrR M0 (n + 2) (psh (psh T n 13) (n + 1) 10) M' → K (nI (bc kn 24) - 100) M') : f_X12_size13 (nI f) M K := by
  unfold f_X12_size13
  exact s_rleave t (by omega) (fun M1 t1 => r_size10 o t1 (by omega) hK)
theorem OneR.k {M0 M : Mm} {f k kn h n : Nat} {T : Nat → Int32} (o : OneR M0 f k kn h) (t : TrR M0 n T M) : M 7 ((28 : Int32) + nI f).toNatClampNeg = nI k ∧ vp_in ((28 : Int32) + nI f) 33 := by
  have f5 := o.1
  rw [c_add (c := 28) (n := 28) rfl, nI_cl (by omega), t.2.2.2 7 (by omega) (by omega)]
  exact ⟨o.2.2.1, vp_nI (by omega) (by decide)⟩

theorem r_mol1 {M0 M : Mm} {f kn h n : Nat} {T : Nat → Int32} (o : OneR M0 f 1 kn h) (t : TrR M0 n T M) (hn : n < 13) {K : Int32 → Mm → Prop} (hK : ∀ M' : Mm, TrR M0 (n + 2) (psh (psh T n 21) (n + 1) 20) M' → K (nI f + nI h) M') : f_X12_markOfLodger (nI f) M K := by
  unfold f_X12_markOfLodger
  rw [(o.k t).1]
  refine ⟨(o.k t).2, ?_⟩
  exact br_f (by decide) (br_f (by decide) (r_mark21 o t (by omega) hK))
theorem r_mol2 {M0 M : Mm} {f kn h n : Nat} {T : Nat → Int32} (o : OneR M0 f 2 kn h) (t : TrR M0 n T M) (hn : n < 13) {K : Int32 → Mm → Prop} (hK : ∀ M' : Mm, TrR M0 (n + 3) (psh (psh (psh T n 24) (n + 1) 21) (n + 2) 20) M' → K (2 * (nI f + nI h)) M') : f_X12_markOfLodger (nI f) M K := by
  unfold f_X12_markOfLodger
  rw [(o.k t).1]
  refine ⟨(o.k t).2, ?_⟩
  exact br_t rfl (s_rleave t (by omega) (fun M1 t1 => r_mark21 o t1 (by omega) hK))
theorem r_mol3 {M0 M : Mm} {f kn h n : Nat} {T : Nat → Int32} (o : OneR M0 f 3 kn h) (t : TrR M0 n T M) (hn : n < 13) {K : Int32 → Mm → Prop} (hK : ∀ M' : Mm, TrR M0 (n + 3) (psh (psh (psh T n 22) (n + 1) 21) (n + 2) 20) M' → K (nI f + nI h - 1000) M') : f_X12_markOfLodger (nI f) M K := by
  unfold f_X12_markOfLodger
  rw [(o.k t).1]
  refine ⟨(o.k t).2, ?_⟩
  exact br_f (by decide) (br_t rfl (s_rleave t (by omega) (fun M1 t1 => r_mark21 o t1 (by omega) hK)))
theorem r_sod4 {M0 M : Mm} {f kn h n : Nat} {T : Nat → Int32} (o : OneR M0 f 4 kn h) (t : TrR M0 n T M) (hn : n < 13) {K : Int32 → Mm → Prop} (hK : ∀ M' : Mm, TrR M0 (n + 2) (psh (psh T n 13) (n + 1) 10) M' → K (nI (bc kn 24) - 100) M') : f_X12_sizeOfDoctor (nI f) M K := by
  unfold f_X12_sizeOfDoctor
  rw [(o.k t).1]
  refine ⟨(o.k t).2, ?_⟩
  exact br_f (by decide) (r_size13 o t (by omega) hK)
theorem r_sod5 {M0 M : Mm} {f kn h n : Nat} {T : Nat → Int32} (o : OneR M0 f 5 kn h) (t : TrR M0 n T M) (hn : n < 13) {K : Int32 → Mm → Prop} (hK : ∀ M' : Mm, TrR M0 (n + 3) (psh (psh (psh T n 14) (n + 1) 13) (n + 2) 10) M' → K (2 * (nI (bc kn 24) - 100)) M') : f_X12_sizeOfDoctor (nI f) M K := by
  unfold f_X12_sizeOfDoctor
  rw [(o.k t).1]
  refine ⟨(o.k t).2, ?_⟩
  exact br_t rfl (s_rleave t (by omega) (fun M1 t1 => r_size13 o t1 (by omega) hK))
theorem r_size_1 {M0 M : Mm} {f kn h : Nat} {T : Nat → Int32} (o : OneR M0 f 1 kn h) (t : TrR M0 0 T M) {K : Int32 → Mm → Prop} (hK : ∀ M' : Mm, TrR M0 4 (psh (psh (psh (psh T 0 11) 1 10) 2 21) 3 20) M' → K (nI (bc kn 24) + (nI f + nI h)) M') : f_X12_sizeOf (nI f) M K := by
  unfold f_X12_sizeOf
  rw [(o.k t).1]
  refine ⟨(o.k t).2, ?_⟩
  refine br_t (by decide) (br_f (by decide) ?_)
  unfold f_X12_size11
  exact s_rleave t (by omega) (fun M1 t1 => r_size10 o t1 (by omega) (fun M2 t2 => r_mol1 o t2 (by omega) hK))
theorem r_mark_1 {M0 M : Mm} {f kn h : Nat} {T : Nat → Int32} (o : OneR M0 f 1 kn h) (t : TrR M0 0 T M) {K : Int32 → Mm → Prop} (hK : ∀ M' : Mm, TrR M0 2 (psh (psh T 0 21) 1 20) M' → K (nI f + nI h) M') : f_X12_markOf (nI f) M K := by
  unfold f_X12_markOf
  rw [(o.k t).1]
  refine ⟨(o.k t).2, ?_⟩
  exact br_f (by decide) (r_mol1 o t (by omega) hK)
theorem r_size_2 {M0 M : Mm} {f kn h : Nat} {T : Nat → Int32} (o : OneR M0 f 2 kn h) (t : TrR M0 0 T M) {K : Int32 → Mm → Prop} (hK : ∀ M' : Mm, TrR M0 6 (psh (psh (psh (psh (psh (psh T 0 12) 1 11) 2 10) 3 24) 4 21) 5 20) M' → K (-(nI (bc kn 24) + 2 * (nI f + nI h))) M') : f_X12_sizeOf (nI f) M K := by
  unfold f_X12_sizeOf
  rw [(o.k t).1]
  refine ⟨(o.k t).2, ?_⟩
  refine br_t (by decide) (br_t rfl ?_)
  unfold f_X12_size11
  exact s_rleave t (by omega) (fun M1 t1 => s_rleave t1 (by omega) (fun M2 t2 => r_size10 o t2 (by omega) (fun M3 t3 => r_mol2 o t3 (by omega) hK)))
theorem r_mark_2 {M0 M : Mm} {f kn h : Nat} {T : Nat → Int32} (o : OneR M0 f 2 kn h) (t : TrR M0 0 T M) {K : Int32 → Mm → Prop} (hK : ∀ M' : Mm, TrR M0 3 (psh (psh (psh T 0 24) 1 21) 2 20) M' → K (2 * (nI f + nI h)) M') : f_X12_markOf (nI f) M K := by
  unfold f_X12_markOf
  rw [(o.k t).1]
  refine ⟨(o.k t).2, ?_⟩
  exact br_f (by decide) (r_mol2 o t (by omega) hK)
theorem r_size_3 {M0 M : Mm} {f kn h : Nat} {T : Nat → Int32} (o : OneR M0 f 3 kn h) (t : TrR M0 0 T M) {K : Int32 → Mm → Prop} (hK : ∀ M' : Mm, TrR M0 5 (psh (psh (psh (psh (psh T 0 11) 1 10) 2 22) 3 21) 4 20) M' → K (nI (bc kn 24) + (nI f + nI h - 1000)) M') : f_X12_sizeOf (nI f) M K := by
  unfold f_X12_sizeOf
  rw [(o.k t).1]
  refine ⟨(o.k t).2, ?_⟩
  refine br_t (by decide) (br_f (by decide) ?_)
  unfold f_X12_size11
  exact s_rleave t (by omega) (fun M1 t1 => r_size10 o t1 (by omega) (fun M2 t2 => r_mol3 o t2 (by omega) hK))
theorem r_mark_3 {M0 M : Mm} {f kn h : Nat} {T : Nat → Int32} (o : OneR M0 f 3 kn h) (t : TrR M0 0 T M) {K : Int32 → Mm → Prop} (hK : ∀ M' : Mm, TrR M0 3 (psh (psh (psh T 0 22) 1 21) 2 20) M' → K (nI f + nI h - 1000) M') : f_X12_markOf (nI f) M K := by
  unfold f_X12_markOf
  rw [(o.k t).1]
  refine ⟨(o.k t).2, ?_⟩
  exact br_f (by decide) (r_mol3 o t (by omega) hK)
theorem r_size_4 {M0 M : Mm} {f kn h : Nat} {T : Nat → Int32} (o : OneR M0 f 4 kn h) (t : TrR M0 0 T M) {K : Int32 → Mm → Prop} (hK : ∀ M' : Mm, TrR M0 2 (psh (psh T 0 13) 1 10) M' → K (nI (bc kn 24) - 100) M') : f_X12_sizeOf (nI f) M K := by
  unfold f_X12_sizeOf
  rw [(o.k t).1]
  refine ⟨(o.k t).2, ?_⟩
  exact br_f (by decide) (r_sod4 o t (by omega) hK)
theorem r_mark_4 {M0 M : Mm} {f kn h : Nat} {T : Nat → Int32} (o : OneR M0 f 4 kn h) (t : TrR M0 0 T M) {K : Int32 → Mm → Prop} (hK : ∀ M' : Mm, TrR M0 4 (psh (psh (psh (psh T 0 23) 1 20) 2 13) 3 10) M' → K (nI f - (nI (bc kn 24) - 100)) M') : f_X12_markOf (nI f) M K := by
  unfold f_X12_markOf
  rw [(o.k t).1]
  refine ⟨(o.k t).2, ?_⟩
  unfold f_X12_mark20
  exact br_t (by decide) (s_rleave t (by omega) (fun M1 t1 => s_rleave t1 (by omega) (fun M2 t2 => r_sod4 o t2 (by omega) hK)))
theorem r_size_5 {M0 M : Mm} {f kn h : Nat} {T : Nat → Int32} (o : OneR M0 f 5 kn h) (t : TrR M0 0 T M) {K : Int32 → Mm → Prop} (hK : ∀ M' : Mm, TrR M0 3 (psh (psh (psh T 0 14) 1 13) 2 10) M' → K (2 * (nI (bc kn 24) - 100)) M') : f_X12_sizeOf (nI f) M K := by
  unfold f_X12_sizeOf
  rw [(o.k t).1]
  refine ⟨(o.k t).2, ?_⟩
  exact br_f (by decide) (r_sod5 o t (by omega) hK)
theorem r_mark_5 {M0 M : Mm} {f kn h : Nat} {T : Nat → Int32} (o : OneR M0 f 5 kn h) (t : TrR M0 0 T M) {K : Int32 → Mm → Prop} (hK : ∀ M' : Mm, TrR M0 5 (psh (psh (psh (psh (psh T 0 23) 1 20) 2 14) 3 13) 4 10) M' → K (nI f - 2 * (nI (bc kn 24) - 100)) M') : f_X12_markOf (nI f) M K := by
  unfold f_X12_markOf
  rw [(o.k t).1]
  refine ⟨(o.k t).2, ?_⟩
  unfold f_X12_mark20
  exact br_t (by decide) (s_rleave t (by omega) (fun M1 t1 => s_rleave t1 (by omega) (fun M2 t2 => r_sod5 o t2 (by omega) hK)))
theorem c_size_1 {M0 M : Mm} {a b c : Int32} {T : Nat → Int32} (t : TrC M0 a b c 0 T M) {K : Int32 → Mm → Prop} (hK : ∀ M' : Mm, TrC M0 a b c 4 (psh (psh (psh (psh T 0 11) 1 10) 2 21) 3 20) M' → K (c + (a + b)) M') : f_X5_size_19 M K := by
  unfold f_X5_size_19 f_X3_size_19 f_X5_mark_19 f_X3_mark_19
  refine s_leave t (by omega) (fun M1 t1 => s_leave t1 (by omega) (fun M2 t2 => s_leave t2 (by omega) (fun M3 t3 => s_leave t3 (by omega) (fun M4 t4 => ?_))))
  simp only [t4.2.1, t4.2.2.1, t2.2.2.2.1]
  exact hK M4 t4
theorem c_mark_1 {M0 M : Mm} {a b c : Int32} {T : Nat → Int32} (t : TrC M0 a b c 0 T M) {K : Int32 → Mm → Prop} (hK : ∀ M' : Mm, TrC M0 a b c 2 (psh (psh T 0 21) 1 20) M' → K (a + b) M') : f_X5_mark_19 M K := by
  unfold f_X5_mark_19 f_X3_mark_19
  refine s_leave t (by omega) (fun M1 t1 => s_leave t1 (by omega) (fun M2 t2 => ?_))
  simp only [t2.2.1, t2.2.2.1]
  exact hK M2 t2
theorem c_size_2 {M0 M : Mm} {a b c : Int32} {T : Nat → Int32} (t : TrC M0 a b c 0 T M) {K : Int32 → Mm → Prop} (hK : ∀ M' : Mm, TrC M0 a b c 6 (psh (psh (psh (psh (psh (psh T 0 12) 1 11) 2 10) 3 24) 4 21) 5 20) M' → K (0 - (c + (a + b) * 2)) M') : f_X10_size_20 M K := by
  unfold f_X10_size_20 f_X5_size_20 f_X3_size_20 f_X10_mark_20 f_X5_mark_20 f_X3_mark_20
  refine s_leave t (by omega) (fun M1 t1 => s_leave t1 (by omega) (fun M2 t2 => s_leave t2 (by omega) (fun M3 t3 => s_leave t3 (by omega) (fun M4 t4 => s_leave t4 (by omega) (fun M5 t5 => s_leave t5 (by omega) (fun M6 t6 => ?_))))))
  simp only [t6.2.1, t6.2.2.1, t3.2.2.2.1]
  exact hK M6 t6
theorem c_mark_2 {M0 M : Mm} {a b c : Int32} {T : Nat → Int32} (t : TrC M0 a b c 0 T M) {K : Int32 → Mm → Prop} (hK : ∀ M' : Mm, TrC M0 a b c 3 (psh (psh (psh T 0 24) 1 21) 2 20) M' → K ((a + b) * 2) M') : f_X10_mark_20 M K := by
  unfold f_X10_mark_20 f_X5_mark_20 f_X3_mark_20
  refine s_leave t (by omega) (fun M1 t1 => s_leave t1 (by omega) (fun M2 t2 => s_leave t2 (by omega) (fun M3 t3 => ?_)))
  simp only [t3.2.1, t3.2.2.1]
  exact hK M3 t3
theorem c_size_3 {M0 M : Mm} {a b c : Int32} {T : Nat → Int32} (t : TrC M0 a b c 0 T M) {K : Int32 → Mm → Prop} (hK : ∀ M' : Mm, TrC M0 a b c 5 (psh (psh (psh (psh (psh T 0 11) 1 10) 2 22) 3 21) 4 20) M' → K (c + (a + b - 1000)) M') : f_X5_size_21 M K := by
  unfold f_X5_size_21 f_X3_size_21 f_X8_mark_21 f_X5_mark_21 f_X3_mark_21
  refine s_leave t (by omega) (fun M1 t1 => s_leave t1 (by omega) (fun M2 t2 => s_leave t2 (by omega) (fun M3 t3 => s_leave t3 (by omega) (fun M4 t4 => s_leave t4 (by omega) (fun M5 t5 => ?_)))))
  simp only [t5.2.1, t5.2.2.1, t2.2.2.2.1]
  exact hK M5 t5
theorem c_mark_3 {M0 M : Mm} {a b c : Int32} {T : Nat → Int32} (t : TrC M0 a b c 0 T M) {K : Int32 → Mm → Prop} (hK : ∀ M' : Mm, TrC M0 a b c 3 (psh (psh (psh T 0 22) 1 21) 2 20) M' → K (a + b - 1000) M') : f_X8_mark_21 M K := by
  unfold f_X8_mark_21 f_X5_mark_21 f_X3_mark_21
  refine s_leave t (by omega) (fun M1 t1 => s_leave t1 (by omega) (fun M2 t2 => s_leave t2 (by omega) (fun M3 t3 => ?_)))
  simp only [t3.2.1, t3.2.2.1]
  exact hK M3 t3
theorem c_size_4 {M0 M : Mm} {a b c : Int32} {T : Nat → Int32} (t : TrC M0 a b c 0 T M) {K : Int32 → Mm → Prop} (hK : ∀ M' : Mm, TrC M0 a b c 2 (psh (psh T 0 13) 1 10) M' → K (c - 100) M') : f_X2_size_22 M K := by
  unfold f_X2_size_22 f_X3_size_22
  refine s_leave t (by omega) (fun M1 t1 => s_leave t1 (by omega) (fun M2 t2 => ?_))
  simp only [t2.2.2.2.1]
  exact hK M2 t2
theorem c_mark_4 {M0 M : Mm} {a b c : Int32} {T : Nat → Int32} (t : TrC M0 a b c 0 T M) {K : Int32 → Mm → Prop} (hK : ∀ M' : Mm, TrC M0 a b c 4 (psh (psh (psh (psh T 0 23) 1 20) 2 13) 3 10) M' → K (a - (c - 100)) M') : f_X2_mark_22 M K := by
  unfold f_X2_mark_22 f_X3_mark_22 f_X2_size_22 f_X3_size_22
  refine s_leave t (by omega) (fun M1 t1 => s_leave t1 (by omega) (fun M2 t2 => s_leave t2 (by omega) (fun M3 t3 => s_leave t3 (by omega) (fun M4 t4 => ?_))))
  simp only [t2.2.1, t4.2.2.2.1]
  exact hK M4 t4
theorem c_size_5 {M0 M : Mm} {a b c : Int32} {T : Nat → Int32} (t : TrC M0 a b c 0 T M) {K : Int32 → Mm → Prop} (hK : ∀ M' : Mm, TrC M0 a b c 3 (psh (psh (psh T 0 14) 1 13) 2 10) M' → K ((c - 100) * 2) M') : f_X1_size_23 M K := by
  unfold f_X1_size_23 f_X2_size_23 f_X3_size_23
  refine s_leave t (by omega) (fun M1 t1 => s_leave t1 (by omega) (fun M2 t2 => s_leave t2 (by omega) (fun M3 t3 => ?_)))
  simp only [t3.2.2.2.1]
  exact hK M3 t3
theorem c_mark_5 {M0 M : Mm} {a b c : Int32} {T : Nat → Int32} (t : TrC M0 a b c 0 T M) {K : Int32 → Mm → Prop} (hK : ∀ M' : Mm, TrC M0 a b c 5 (psh (psh (psh (psh (psh T 0 23) 1 20) 2 14) 3 13) 4 10) M' → K (a - (c - 100) * 2) M') : f_X2_mark_23 M K := by
  unfold f_X2_mark_23 f_X3_mark_23 f_X1_size_23 f_X2_size_23 f_X3_size_23
  refine s_leave t (by omega) (fun M1 t1 => s_leave t1 (by omega) (fun M2 t2 => s_leave t2 (by omega) (fun M3 t3 => s_leave t3 (by omega) (fun M4 t4 => s_leave t4 (by omega) (fun M5 t5 => ?_)))))
  simp only [t2.2.1, t5.2.2.2.1]
  exact hK M5 t5
theorem ask_inv {Mc Mr Mc' Mr' : Mm} (hI : Inv Mc Mr) {a b c : Int32} {n : Nat} {T : Nat → Int32} (hn : n ≤ 16) (t : TrC Mc a b c n T Mc') (r : TrR Mr n T Mr') : Inv Mc' Mr' := by
  obtain ⟨h1, h2, h3⟩ := hI
  have hp := h3
  obtain ⟨p1, p2, p3, -⟩ := hp
  obtain ⟨t1, -, -, -, t5, t6⟩ := t
  obtain ⟨r1, r2, r3, r4⟩ := r
  refine ⟨h1.congr (fun k _ _ => t6 k (by omega) (by omega)) (r4 1 (by omega) (by omega)) (r4 2 (by omega) (by omega)) (r4 3 (by omega) (by omega)), by rw [t6 0 (by omega) (by omega), r3 4 (by omega)]; exact h2, ?_⟩
  have c0 := t6 0 (by omega) (by omega)
  exact h3.but (by rw [c0, r3 12 (by omega)]; exact p1) (p2.congr (by rw [t6 24 (by omega) (by omega)]) (t6 25 (by omega) (by omega)) (r3 6 (by omega)) (r4 5 (by omega) (by omega))) ⟨n, hn, t1, r1, fun j hj => by rw [t5 j hj, r2 j hj]⟩ (by rw [c0]) (by rw [c0]) (fun k _ => t6 k (by omega) (by omega)) (r3 19 (by omega)) (r3 20 (by omega)) (fun k _ => r4 k (by omega) (by omega))
theorem op_ask {Mc Mr : Mm} (hI : Inv Mc Mr) (a b : Int32) : f_X11_ask a b Mc (fun r Mc' => f_X12_ask a b Mr (fun r' Mr' => r = r' ∧ Inv Mc' Mr')) := by
  obtain ⟨-, -, -, -, -, A, hC, hR, -, -, -, hr⟩ := id hI
  have s := hr.sm
  have s3 := s.2.2.2
  simp only [f_X11_ask, f_X12_ask, e_hasFolk hC s, e_isOne hR hr, e_isBit, e_in, bit01, br_eq, b2i_0]
  by_cases ha : 0 ≤ a.toInt ∧ a.toInt < A 3
  · simp only [if_neg (not_not_intro ha)]
    by_cases hb : 0 ≤ b.toInt ∧ b.toInt < 2
    · simp only [if_neg (not_not_intro hb)]
      obtain ⟨f, hf, rfl⟩ := of_arg (n := A 3) (a := a) (by omega) ha
      have w := hr.of3 hf
      have hk := w.2.2.2.2.2.1 f hf
      have kn := pow24 (w.2.2.2.2.2.2.2.2.2.2 f hf).2.2 w.1.2
      obtain ⟨-, q4, -, q6⟩ := hC.2.2.2 f hf
      rw [e_sortOf hC hf (by omega) hk]
      simp only [reduceCtorEq, false_implies, true_and, Option.some.injEq, forall_eq']
      rw [nI_cl (by omega), q6, q4, e_bitCount kn]
      refine ⟨vp_nI (by omega) (by decide), ?_⟩
      unfold f_X0_begin
      intro M1 e1 M3 e3 M5 e5 M7 e7
      have tc : TrC Mc (nI f) (nI (A (40 + f))) (nI (bc (A (50 + f)) 24)) 0 (fun _ => 0) M7 := by
        refine ⟨?_, ?_, ?_, by rw [e7, gU_same], fun j hj => by omega, fun q q1 _ => by rw [e7, gU_cell q1, e5, gU_cell q1, e3, gU_cell q1, e1, gU_cell q1]⟩
        · rw [e7, gU_place (by omega), e5, gU_place (by omega), e3, gU_place (by omega), e1, gU_same]; rfl
        · rw [e7, gU_place (by omega), e5, gU_place (by omega), e3, gU_same]
        · rw [e7, gU_place (by omega), e5, gU_same]
      have tr : TrR Mr 0 (fun _ => 0) (gU Mr 0 26 0) := ⟨by rw [gU_same]; rfl, fun j hj => by omega, fun j hj => gU_place hj, fun q q1 _ => gU_cell q1⟩
      have o : OneR Mr f (A (28 + f)) (A (50 + f)) (A (40 + f)) := ⟨by omega, kn, hR.1 (28 + f) (by omega), by rw [hR.2 (17 + f) (by omega), show 33 + (17 + f) = 50 + f by omega], by rw [hR.2 (7 + f) (by omega), show 33 + (7 + f) = 40 + f by omega]⟩
      have isf : isFolk (18 + A (28 + f)) := by unfold isFolk; omega
      generalize hk' : A (28 + f) = k at *
      have m2 : ∀ x : Int32, x * 2 = 2 * x := fun x => Int32.mul_comm x 2
      have hkc : k = 1 ∨ k = 2 ∨ k = 3 ∨ k = 4 ∨ k = 5 := by omega
      by_cases h0 : b = 0
      · simp only [if_pos h0]
        refine ⟨isf, ?_⟩
        rcases hkc with rfl | rfl | rfl | rfl | rfl
        · refine ⟨fun _ => c_size_1 tc (fun M8 t8 => ?_), fun q => absurd q (by decide), fun q => absurd q (by decide), fun q => absurd q (by decide), fun q => absurd q (by decide)⟩
          intro M9 e9
          rw [← e9] at tr
          exact r_size_1 o tr (fun M10 t10 => ⟨rfl, ask_inv hI (by omega) t8 t10⟩)
        · refine ⟨fun q => absurd q (by decide), fun _ => c_size_2 tc (fun M8 t8 => ?_), fun q => absurd q (by decide), fun q => absurd q (by decide), fun q => absurd q (by decide)⟩
          intro M9 e9
          rw [← e9] at tr
          exact r_size_2 o tr (fun M10 t10 => ⟨(by rw [m2, Int32.zero_sub]), ask_inv hI (by omega) t8 t10⟩)
        · refine ⟨fun q => absurd q (by decide), fun q => absurd q (by decide), fun _ => c_size_3 tc (fun M8 t8 => ?_), fun q => absurd q (by decide), fun q => absurd q (by decide)⟩
          intro M9 e9
          rw [← e9] at tr
          exact r_size_3 o tr (fun M10 t10 => ⟨rfl, ask_inv hI (by omega) t8 t10⟩)
        · refine ⟨fun q => absurd q (by decide), fun q => absurd q (by decide), fun q => absurd q (by decide), fun _ => c_size_4 tc (fun M8 t8 => ?_), fun q => absurd q (by decide)⟩
          intro M9 e9
          rw [← e9] at tr
          exact r_size_4 o tr (fun M10 t10 => ⟨rfl, ask_inv hI (by omega) t8 t10⟩)
        · refine ⟨fun q => absurd q (by decide), fun q => absurd q (by decide), fun q => absurd q (by decide), fun q => absurd q (by decide), fun _ => c_size_5 tc (fun M8 t8 => ?_)⟩
          intro M9 e9
          rw [← e9] at tr
          exact r_size_5 o tr (fun M10 t10 => ⟨(m2 _), ask_inv hI (by omega) t8 t10⟩)
      · simp only [if_neg h0]
        refine ⟨isf, ?_⟩
        rcases hkc with rfl | rfl | rfl | rfl | rfl
        · refine ⟨fun _ => c_mark_1 tc (fun M8 t8 => ?_), fun q => absurd q (by decide), fun q => absurd q (by decide), fun q => absurd q (by decide), fun q => absurd q (by decide)⟩
          intro M9 e9
          rw [← e9] at tr
          exact r_mark_1 o tr (fun M10 t10 => ⟨rfl, ask_inv hI (by omega) t8 t10⟩)
        · refine ⟨fun q => absurd q (by decide), fun _ => c_mark_2 tc (fun M8 t8 => ?_), fun q => absurd q (by decide), fun q => absurd q (by decide), fun q => absurd q (by decide)⟩
          intro M9 e9
          rw [← e9] at tr
          exact r_mark_2 o tr (fun M10 t10 => ⟨(m2 _), ask_inv hI (by omega) t8 t10⟩)
        · refine ⟨fun q => absurd q (by decide), fun q => absurd q (by decide), fun _ => c_mark_3 tc (fun M8 t8 => ?_), fun q => absurd q (by decide), fun q => absurd q (by decide)⟩
          intro M9 e9
          rw [← e9] at tr
          exact r_mark_3 o tr (fun M10 t10 => ⟨rfl, ask_inv hI (by omega) t8 t10⟩)
        · refine ⟨fun q => absurd q (by decide), fun q => absurd q (by decide), fun q => absurd q (by decide), fun _ => c_mark_4 tc (fun M8 t8 => ?_), fun q => absurd q (by decide)⟩
          intro M9 e9
          rw [← e9] at tr
          exact r_mark_4 o tr (fun M10 t10 => ⟨rfl, ask_inv hI (by omega) t8 t10⟩)
        · refine ⟨fun q => absurd q (by decide), fun q => absurd q (by decide), fun q => absurd q (by decide), fun q => absurd q (by decide), fun _ => c_mark_5 tc (fun M8 t8 => ?_)⟩
          intro M9 e9
          rw [← e9] at tr
          exact r_mark_5 o tr (fun M10 t10 => ⟨(by rw [m2]), ask_inv hI (by omega) t8 t10⟩)
    · simp only [if_pos hb]; first | exact hI | exact ⟨trivial, hI⟩
  · simp only [if_pos ha]; first | exact hI | exact ⟨trivial, hI⟩
