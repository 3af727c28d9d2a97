/-- the same but for what the others do -/
def Lo' (A B : AP) : Prop := ∀ i, i < 40 → i ≠ 1 → ¬ (28 ≤ i ∧ i < 33) → B i = A i
theorem Lo'.st {A B : AP} (t : Lo' A B) (s2 : A 2 ≤ 5) (h : Nat) : stO B h = stO A h := by
  unfold stO
  rw [t 2 (by omega) (by omega) (by omega), t 0 (by omega) (by omega) (by omega)]
  by_cases h0 : h = 0
  · rw [if_pos h0, if_pos h0]
  · rw [if_neg h0, if_neg h0]
    by_cases h1 : h ≤ A 2
    · rw [if_pos h1, if_pos h1, t _ (by omega) (by omega) (by omega)]
    · rw [if_neg h1, if_neg h1]
theorem Lo'.se {A B : AP} (t : Lo' A B) (s : Sm A) (k h : Nat) : sees B k h = sees A k h := by
  have s0 := s.1
  unfold sees
  rw [t 0 (by omega) (by omega) (by omega)]
  refine msk_congr (fun c hc => ?_)
  have hi : ∀ c, inH B h c = inH A h c := fun c => by unfold inH; rw [t.st s.2.2.1, t.st s.2.2.1]
  have hr : rise B c = rise A c := by
    unfold rise
    rw [t (4 + (c - 1)) (by omega) (by omega) (by omega), t (4 + c) (by omega) (by omega) (by omega)]
  unfold seP
  rw [hi, hi, hi, hr, t 39 (by omega) (by omega) (by omega)]
def Sf (f : Nat) (A B : AP) : Prop := Lo' A B ∧ B (40 + f) = A (40 + f) ∧ B (45 + f) = A (45 + f) ∧ B (50 + f) = A (50 + f)
theorem Sf.rfl' {f : Nat} {A : AP} : Sf f A A := ⟨fun _ _ _ _ => rfl, rfl, rfl, rfl⟩
theorem wk_ent {B : AP} {kf : Nat → Nat} {f : Nat} (hf : f < 5) (s : Sm B) : ∀ n, n ≤ 5 → (f < n → walks B kf n (40 + f) = nh B f ∧ walks B kf n (45 + f) = nw B f ∧ walks B kf n (50 + f) = B (50 + f) ||| sees B (kf f) (nh B f)) ∧ (¬ f < n → walks B kf n (40 + f) = B (40 + f) ∧ walks B kf n (45 + f) = B (45 + f) ∧ walks B kf n (50 + f) = B (50 + f))
  | 0, _ => ⟨fun h => by omega, fun _ => ⟨rfl, rfl, rfl⟩⟩
  | n + 1, hn => by
    have ih := wk_ent hf s (B := B) (kf := kf) n (by omega)
    have lo := walks_low (A := B) (kf := kf) n
    show (f < n + 1 → walkA (walks B kf n) n (kf n) (40 + f) = nh B f ∧ walkA (walks B kf n) n (kf n) (45 + f) = nw B f ∧ walkA (walks B kf n) n (kf n) (50 + f) = B (50 + f) ||| sees B (kf f) (nh B f)) ∧ (¬ f < n + 1 → walkA (walks B kf n) n (kf n) (40 + f) = B (40 + f) ∧ walkA (walks B kf n) n (kf n) (45 + f) = B (45 + f) ∧ walkA (walks B kf n) n (kf n) (50 + f) = B (50 + f))
    by_cases e : f = n
    · subst e
      have i2 := ih.2 (by omega)
      have e1 : nw (walks B kf f) f = nw B f := by
        unfold nw
        rw [i2.1, i2.2.1, lo 2 (by omega)]
      have e2 : nh (walks B kf f) f = nh B f := by
        unfold nh
        rw [e1, i2.1, lo 2 (by omega)]
      refine ⟨fun _ => ?_, fun q => by omega⟩
      unfold walkA
      rw [e1, e2, i2.2.2, lo.sees s]
      refine ⟨?_, ?_, setA_s⟩
      · rw [setA_n (by omega), setA_s]
      · rw [setA_n (by omega), setA_n (by omega), setA_s]
    · have k1 : walkA (walks B kf n) n (kf n) (40 + f) = walks B kf n (40 + f) := by
        unfold walkA; rw [setA_n (by omega), setA_n (by omega), setA_n (by omega)]
      have k2 : walkA (walks B kf n) n (kf n) (45 + f) = walks B kf n (45 + f) := by
        unfold walkA; rw [setA_n (by omega), setA_n (by omega), setA_n (by omega)]
      have k3 : walkA (walks B kf n) n (kf n) (50 + f) = walks B kf n (50 + f) := by
        unfold walkA; rw [setA_n (by omega), setA_n (by omega), setA_n (by omega)]
      rw [k1, k2, k3]
      exact ⟨fun q => ih.1 (by omega), fun q => ih.2 (by omega)⟩
theorem end_at {X : AP} {law i : Nat} (h : i ≠ 33) (h2 : i ≠ 39) : endA X law i = X i := by
  unfold endA
  rw [setA_n h]
  by_cases q : law = 0
  · rw [if_pos q]
  · rw [if_neg q, setA_n h2]
theorem end_39 {X : AP} {law : Nat} : endA X law 39 = if law = 0 then X 39 else X 39 ||| 2 ^ (X 33 * law % X 0) := by
  unfold endA
  rw [setA_n (by omega)]
  by_cases q : law = 0
  · rw [if_pos q, if_pos q]
  · rw [if_neg q, if_neg q, setA_s]
theorem sf_day {A B : AP} {f k law : Nat} {kf : Nat → Nat} (h : Sf f A B) (s : Sm A) (sb : Sm B) (hf : f < A 3) (hk : kf f = k) : Sf f (endA (walkA A f k) law) (dayA B kf law) := by
  obtain ⟨lo, h40, h45, h50⟩ := h
  have s3 := s.2.2.2
  have b0 : B 0 = A 0 := lo 0 (by omega) (by omega) (by omega)
  have b2 : B 2 = A 2 := lo 2 (by omega) (by omega) (by omega)
  have b3 : B 3 = A 3 := lo 3 (by omega) (by omega) (by omega)
  have b33 : B 33 = A 33 := lo 33 (by omega) (by omega) (by omega)
  have b39 : B 39 = A 39 := lo 39 (by omega) (by omega) (by omega)
  have wl := walks_low (A := B) (kf := kf) (B 3)
  have al := walk_low (A := A) (f := f) (k := k)
  have sB : A 0 ≤ 24 ∧ A 2 ≤ 5 := ⟨s.1, s.2.2.1⟩
  have e1 : nw B f = nw A f := by unfold nw; rw [h40, h45, b2]
  have e2 : nh B f = nh A f := by unfold nh; rw [e1, h40, b2]
  have en := (wk_ent (B := B) (kf := kf) (f := f) (by omega) sb (B 3) sb.2.2.2).1 (by omega)
  unfold dayA
  refine ⟨fun i hi i1 i28 => ?_, ?_, ?_, ?_⟩
  · by_cases i33 : i = 33
    · subst i33
      rw [end_33, end_33, wl 33 (by omega), al 33 (by omega), b33]
    · by_cases i39 : i = 39
      · subst i39
        rw [end_39, end_39, wl 39 (by omega), al 39 (by omega), wl 33 (by omega), al 33 (by omega), wl 0 (by omega), al 0 (by omega), b39, b33, b0]
      · rw [end_at i33 i39, end_at i33 i39, wl i hi, al i hi]
        exact lo i hi i1 i28
  all_goals
    rw [end_at (by omega) (by omega), end_at (by omega) (by omega)]
  · rw [en.1, e2]
    unfold walkA; rw [setA_n (by omega), setA_s]
  · rw [en.2.1, e1]
    unfold walkA; rw [setA_n (by omega), setA_n (by omega), setA_s]
  · rw [en.2.2, e2, h50, hk, lo.se s]
    unfold walkA; rw [setA_s]

/-- one day of one of them alone -/
def oneA (A : AP) (f : Nat) : AP := endA (walkA A f (A (28 + f))) (A 1)
def onIt (A : AP) (f : Nat) : Nat → AP
  | 0 => A
  | n + 1 => oneA (onIt A f n) f
theorem one_told {A : AP} {f : Nat} : Told A (oneA A f) := walk_told.trans end_told
theorem onIt_told {A : AP} {f : Nat} : ∀ n, Told A (onIt A f n)
  | 0 => Told.rfl'
  | n + 1 => (onIt_told n).trans one_told
theorem WFb.one {D E : Nat} {A : AP} (w : WFb D A) {f : Nat} (hf : f < A 3) (hE : A 33 + 1 ≤ E) : WFb E (oneA A f) :=
  (w.walk hf _).ended (by rw [walk_33]; exact hE)
theorem WFb.onIt {D : Nat} {A : AP} (w : WFb D A) {f : Nat} (hf : f < A 3) : ∀ n, WFb (D + n) (onIt A f n)
  | 0 => w
  | n + 1 => (WFb.onIt w hf n).one (by rw [onIt_told n 3 (by omega)]; exact hf) (by have := (WFb.onIt w hf n).2.2.2.2.2.2.1; omega)
theorem s_one {D f : Nat} {M : Mm} {A : AP} (p : PapC M 56 A) (w : WFb D A) (hD : D ≤ 1000000) (hf : f < A 3) {K : Mm → Prop} (h : ∀ M' : Mm, (∀ q, ¬ (56 ≤ q ∧ q ≤ 62) → M' q = M q) → PapC M' 56 (oneA A f) → K M') : f_X6_walk 56 (nI f) M (fun M2 => f_X6_endDay 56 M2 K) := by
  refine s_walk p w hf (fun M1 h1 p1 => ?_)
  have e1 : walkA A f (A (28 + f)) 1 = A 1 := walk_low 1 (by omega)
  refine s_endDay p1 (w.walk hf _) hD (fun M2 h2 p2 => h M2 (fun q hq => by rw [h2 q (by omega), h1 q (by omega) (by omega) (by omega)]) ?_)
  rw [e1] at p2
  exact p2
theorem s_goOn {D f d : Nat} {M : Mm} {A : AP} (p : PapC M 56 A) (w : WFb D A) (hD : D + d ≤ 1000000) (hf : f < A 3) {K : Mm → Prop} (h : ∀ M' : Mm, (∀ q, ¬ (56 ≤ q ∧ q ≤ 62) → M' q = M q) → PapC M' 56 (onIt A f d) → K M') : f_X4_goOn (nI f) (nI d) M K := by
  have L : ∀ (j n : Nat) (M1 : Mm), n + j = d → (∀ q, ¬ (56 ≤ q ∧ q ≤ 62) → M1 q = M q) → PapC M1 56 (onIt A f n) → l_X4_goOn_2 K (nI f) (nI d) (j + 1) (nI n) M1 := by
    intro j
    induction j with
    | zero =>
      intro n M1 hn h1 p1
      rw [l_X4_goOn_2]
      exact br_t (by rw [le_I, nI_I (by omega), nI_I (by omega)]; omega) (h M1 h1 (by rw [show d = n by omega]; exact p1))
    | succ j ih =>
      intro n M1 hn h1 p1
      rw [l_X4_goOn_2, nI_1]
      refine br_f (by rw [le_I, nI_I (by omega), nI_I (by omega)]; omega) (s_one p1 (w.onIt hf n) (by omega) (by rw [onIt_told n 3 (by omega)]; exact hf) (fun M2 h2 p2 => ?_))
      exact ih (n + 1) M2 (by omega) (fun q hq => by rw [h2 q hq]; exact h1 q hq) p2
  exact ⟨d + 1, L d 0 M (by omega) (fun _ _ => rfl) p⟩
theorem s_take {M : Mm} {A : AP} (p : PapR (M 7) (M 9) A) {K : Mm → Prop} (h : ∀ M' : Mm, (∀ q, q ≠ 10 → M' q = M q) → PapR (M' 7) (M' 10) A → K M') : f_X12_take M K := by
  have L : ∀ (j n : Nat) (M1 : Mm), n + j = 22 → (∀ q, q ≠ 10 → M1 q = M q) → (∀ i, i < n → M1 10 i = M 9 i) → l_X12_take_2 K (j + 1) (nI n) M1 := by
    intro j
    induction j with
    | zero =>
      intro n M1 hn h1 h2
      rw [l_X12_take_2, nI_leL (x := 22) (n := 22) (by omega) (by decide) rfl]
      refine br_t (by omega) (h M1 h1 ⟨?_, fun j hj => ?_⟩)
      · rw [h1 7 (by omega)]; exact p.1
      · rw [h2 j (by omega)]; exact p.2 j hj
    | succ j ih =>
      intro n M1 hn h1 h2
      rw [l_X12_take_2, nI_leL (x := 22) (n := 22) (by omega) (by decide) rfl, nI_cl (by omega), nI_1]
      refine br_f (by omega) ⟨vp_nI (by omega) (by decide), fun M3 e3 => ih (n + 1) M3 (by omega) (fun q hq => by rw [e3, gU_cell hq]; exact h1 q hq) (fun i hi => ?_)⟩
      rw [e3, gU_now]
      by_cases e : i = n
      · rw [if_pos e, e, h1 9 (by omega)]
      · rw [if_neg e]; exact h2 i (by omega)
  exact ⟨23, L 22 0 M rfl (fun _ _ => rfl) (fun i hi => by omega)⟩
/-- the reference's state n days on, beside the class's -/
def RfS (A : AP) (f n : Nat) (M : Mm) : Prop := ∃ B : AP, PapR (M 7) (M 10) B ∧ WFb (9999 + n) B ∧ Told A B ∧ Sf f (onIt A f n) B
theorem RfS.zero {A : AP} {f : Nat} {M : Mm} (w : WF A) (p : PapR (M 7) (M 10) A) : RfS A f 0 M := ⟨A, p, w, Told.rfl', Sf.rfl'⟩
theorem RfS.house {A : AP} {f n : Nat} {M : Mm} (h : RfS A f n M) (hf : f < 5) : M 10 (7 + f) = nI (onIt A f n (40 + f)) := by
  obtain ⟨B, p, _, _, s⟩ := h
  rw [p.2 (7 + f) (by omega), show 33 + (7 + f) = 40 + f by omega, s.2.1]
theorem RfS.knows {A : AP} {f n : Nat} {M : Mm} (h : RfS A f n M) (hf : f < 5) : M 10 (17 + f) = nI (onIt A f n (50 + f)) := by
  obtain ⟨B, p, _, _, s⟩ := h
  rw [p.2 (17 + f) (by omega), show 33 + (17 + f) = 50 + f by omega, s.2.2.2]
theorem s_rone {A : AP} {f n : Nat} {M : Mm} (w : WF A) (hf : f < A 3) (h : RfS A f n M) (hn : n ≤ 1000) {K : Mm → Prop} (hK : ∀ M' : Mm, (∀ q, q ≠ 10 → M' q = M q) → RfS A f (n + 1) M' → K M') : f_X12_pass 10 M K := by
  obtain ⟨B, p, wB, tB, s⟩ := h
  have s3 := w.2.2.2.1
  refine s_pass (Or.inr rfl) p wB (by omega) (fun M' h1 p1 => hK M' h1 ⟨_, p1, ?_, tB.trans day_told, ?_⟩)
  · exact wB.dayA _ _ (by have := wB.2.2.2.2.2.2.1; omega)
  · have wo := WFb.onIt w hf n
    have e1 : onIt A f n 1 = A 1 := onIt_told n 1 (by omega)
    have e28 : onIt A f n (28 + f) = A (28 + f) := onIt_told n (28 + f) (by omega)
    have e3 : onIt A f n 3 = A 3 := onIt_told n 3 (by omega)
    show Sf f (endA (walkA (onIt A f n) f (onIt A f n (28 + f))) (onIt A f n 1)) _
    rw [e1, e28, tB 1 (by omega)]
    exact sf_day s wo.sm wB.sm (by rw [e3]; exact hf) (tB (28 + f) (by omega))
theorem op_ahead {Mc Mr : Mm} (hI : Inv Mc Mr) (a b c : Int32) : f_X11_ahead a b c Mc (fun r Mc' => f_X12_ahead a b c Mr (fun r' Mr' => r = r' ∧ Inv Mc' Mr')) := by
  obtain ⟨-, -, -, -, -, A, hC, hR, -, -, -, hr⟩ := id hI
  have s := hr.sm
  have s3 := s.2.2.2
  have e0 : (0 : Int32).toInt = 0 := rfl
  have e60 : (60 : Int32).toInt = 60 := rfl
  simp only [f_X11_ahead, f_X12_ahead, e_hasFolk hC s, e_isOne hR hr, e_isBit, e_in, bit01, br_eq, b2i_0, lt_I]
  simp only [e0, e60]
  by_cases ha : 0 ≤ a.toInt ∧ a.toInt < A 3
  · simp only [if_neg (not_not_intro ha)]
    by_cases hb : 0 ≤ b.toInt ∧ b.toInt ≤ 60
    · simp only [if_neg (not_not_intro hb), if_neg (show ¬ b.toInt < 0 by omega), if_neg (show ¬ 60 < b.toInt by omega)]
      by_cases hc : 0 ≤ c.toInt ∧ c.toInt < 2
      · simp only [if_neg (not_not_intro hc)]
        obtain ⟨f, hf, rfl⟩ := of_arg (n := A 3) (a := a) (by omega) ha
        obtain ⟨d, hd, rfl⟩ := of_arg (n := 61) (a := b) (by decide) (by omega)
        have w := hr.of3 hf
        unfold f_X4_after
        refine s_become (by omega) hC s (fun M1 h1 p1 => s_goOn p1 w (by omega) hf (fun M2 h2 p2 => ?_))
        have fr : ∀ q, ¬ (56 ≤ q ∧ q ≤ 62) → M2 q = Mc q := fun q hq => by rw [h2 q hq]; exact h1 q (by omega)
        obtain ⟨-, q4, -, q6⟩ := p2.2.2.2 f (by rw [onIt_told d 3 (by omega)]; exact hf)
        have v5 : vp_in (nI f) 5 := vp_nI (by omega) (by decide)
        have L : ∀ (g : Nat) (v : Int32), (g = 0 ∧ v = nI (onIt A f d (40 + f)) ∧ c = 0) ∨ (g = 1 ∧ v = nI (onIt A f d (50 + f)) ∧ ¬ c = 0) → ∀ (j n : Nat) (M3 : Mm), n + j = d → (∀ q, q ≠ 10 → M3 q = Mr q) → RfS A f n M3 → l_X12_ahead_37 (fun r' Mr' => v = r' ∧ Inv M2 Mr') (nI f) (nI d) c (j + 1) (nI n) M3 := by
          intro g v hg j
          induction j with
          | zero =>
            intro n M3 hn h3 r3
            have hi : Inv M2 M3 := hI.scr (fun k _ _ => fr k (by omega)) (fun k _ _ _ q _ => h3 k q)
            have en : n = d := by omega
            subst en
            rw [l_X12_ahead_37, c_add (c := 7) (n := 7) rfl, c_add (c := 17) (n := 17) rfl, nI_cl (by omega), nI_cl (by omega), r3.house (by omega), r3.knows (by omega)]
            refine br_t (by rw [le_I]; exact Int.le_refl _) ?_
            rcases hg with ⟨_, hv, hc0⟩ | ⟨_, hv, hc0⟩
            · exact br_t hc0 ⟨vp_nI (by omega) (by decide), hv, hi⟩
            · exact br_f hc0 ⟨vp_nI (by omega) (by decide), hv, hi⟩
          | succ j ih =>
            intro n M3 hn h3 r3
            rw [l_X12_ahead_37, nI_1]
            refine br_f (by rw [le_I, nI_I (by omega), nI_I (by omega)]; omega) (s_rone w hf r3 (by omega) (fun M4 h4 r4 => ?_))
            exact ih (n + 1) M4 (by omega) (fun q hq => by rw [h4 q hq]; exact h3 q hq) r4
        rw [nI_cl (by omega), q4, q6]
        refine br_c (fun h0 => ⟨v5, ?_⟩) (fun h0 => ⟨v5, ?_⟩)
        · exact s_take hR (fun M3 h3 p3 => ⟨_, L 0 _ (Or.inl ⟨rfl, rfl, h0⟩) d 0 M3 (by omega) h3 (RfS.zero w p3)⟩)
        · exact s_take hR (fun M3 h3 p3 => ⟨_, L 1 _ (Or.inr ⟨rfl, rfl, h0⟩) d 0 M3 (by omega) h3 (RfS.zero w p3)⟩)
      · simp only [if_pos hc]; first | exact hI | exact ⟨trivial, hI⟩
    · simp only [if_pos hb]
      by_cases hb1 : b.toInt < 0
      · simp only [if_pos hb1]; first | exact hI | exact ⟨trivial, hI⟩
      · simp only [if_neg hb1, if_pos (show 60 < b.toInt by omega)]; first | exact hI | exact ⟨trivial, hI⟩
  · simp only [if_pos ha]; first | exact hI | exact ⟨trivial, hI⟩
/-- the first day on which one knows all -/
def allT (A : AP) (f : Nat) (d : Nat) : Bool := decide (onIt A f d (50 + f) = 2 ^ A 0 - 1)
def allV (A : AP) (f : Nat) : Int32 := fstB (allT A f) 61
theorem s_all {M : Mm} {A : AP} (pc : PapC M 26 A) (w : WF A) {f : Nat} (hf : f < A 3) {K : Int32 → Mm → Prop} (h : ∀ M' : Mm, (∀ q, ¬ (56 ≤ q ∧ q ≤ 62) → M' q = M q) → K (allV A f) M') : f_X4_daysUntilAllKnown (nI f) M K := by
  have s0 := w.1.2
  have s3 := w.2.2.2.1
  have p24 : 2 ^ A 0 ≤ 16777216 := Nat.pow_le_pow_right (by omega) s0
  have L : ∀ (j n : Nat) (M1 : Mm), n + j = 61 → (∀ q, ¬ (56 ≤ q ∧ q ≤ 62) → M1 q = M q) → PapC M1 56 (onIt A f n) → (∀ e, e < n → allT A f e = false) → l_X4_daysUntilAllKnown_13 K (nI f) (j + 1) (nI n) M1 := by
    intro j
    induction j with
    | zero =>
      intro n M1 hn h1 p1 hx
      rw [l_X4_daysUntilAllKnown_13]
      refine br_t (by rw [lt_I, nI_I (by omega)]; show (60 : Int) < _; omega) ?_
      have := h M1 h1
      unfold allV at this
      rw [← show n = 61 by omega, (cntB_0 hx).2] at this
      exact this
    | succ j ih =>
      intro n M1 hn h1 p1 hx
      have wn := w.onIt hf n
      have e0 : onIt A f n 0 = A 0 := onIt_told n 0 (by omega)
      have e3 : onIt A f n 3 = A 3 := onIt_told n 3 (by omega)
      have kn := pow24 (wn.2.2.2.2.2.2.2.2.2.2 f (by rw [e3]; exact hf)).2.2 wn.1.2
      rw [l_X4_daysUntilAllKnown_13, nI_cl (by omega), (p1.2.2.2 f (by rw [e3]; exact hf)).2.2.2, e_allCells p1 wn.sm, e0, nI_ne (by omega) (by omega), nI_1]
      refine br_f (by rw [lt_I, nI_I (by omega)]; show ¬ (60 : Int) < _; omega) ⟨vp_nI (by omega) (by decide), br_c (fun q => ?_) (fun q => s_one p1 wn (by omega) (by rw [e3]; exact hf) (fun M2 h2 p2 => ?_))⟩
      · have := h M1 h1
        unfold allV at this
        rw [show 61 = n + 1 + j by omega, (cntB_1 (t := allT A f) (x := n) (decide_eq_true q) hx j).2] at this
        exact this
      · refine ih (n + 1) M2 (by omega) (fun q hq => by rw [h2 q hq]; exact h1 q hq) p2 (fun e he => ?_)
        by_cases en : e = n
        · rw [en]; exact decide_eq_false q
        · exact hx e (by omega)
  unfold f_X4_daysUntilAllKnown
  exact s_become (by omega) pc w.sm (fun M1 h1 p1 => ⟨62, L 61 0 M1 rfl (fun q hq => h1 q (by omega)) p1 (fun e he => by omega)⟩)
theorem s_rall {M : Mm} {A : AP} (pr : PapR (M 7) (M 9) A) (w : WF A) {f : Nat} (hf : f < A 3) {K : Int32 → Mm → Prop} (h : ∀ M' : Mm, (∀ q, q ≠ 10 → M' q = M q) → K (allV A f) M') : f_X12_allBy (nI f) M K := by
  have s0 := w.1.2
  have s3 := w.2.2.2.1
  have p24 : 2 ^ A 0 ≤ 16777216 := Nat.pow_le_pow_right (by omega) s0
  have L : ∀ (j n : Nat) (M1 : Mm), n + j = 61 → (∀ q, q ≠ 10 → M1 q = M q) → RfS A f n M1 → (∀ e, e < n → allT A f e = false) → l_X12_allBy_6 K (nI f) (j + 1) (nI n) M1 := by
    intro j
    induction j with
    | zero =>
      intro n M1 hn h1 p1 hx
      rw [l_X12_allBy_6]
      refine br_t (by rw [lt_I, nI_I (by omega)]; show (60 : Int) < _; omega) ?_
      have := h M1 h1
      unfold allV at this
      rw [← show n = 61 by omega, (cntB_0 hx).2] at this
      exact this
    | succ j ih =>
      intro n M1 hn h1 p1 hx
      have wn := w.onIt hf n
      have e3 : onIt A f n 3 = A 3 := onIt_told n 3 (by omega)
      have kn := pow24 (wn.2.2.2.2.2.2.2.2.2.2 f (by rw [e3]; exact hf)).2.2 wn.1.2
      have pr1 : PapR (M1 7) (M 9) A := by rw [h1 7 (by omega)]; exact pr
      rw [l_X12_allBy_6, c_add (c := 17) (n := 17) rfl, nI_cl (by omega), p1.knows (by omega), e_rall pr1 s0, nI_ne (by omega) (by omega), nI_1]
      refine br_f (by rw [lt_I, nI_I (by omega)]; show ¬ (60 : Int) < _; omega) ⟨vp_nI (by omega) (by decide), br_c (fun q => ?_) (fun q => s_rone w hf p1 (by omega) (fun M2 h2 p2 => ?_))⟩
      · have := h M1 h1
        unfold allV at this
        rw [show 61 = n + 1 + j by omega, (cntB_1 (t := allT A f) (x := n) (decide_eq_true q) hx j).2] at this
        exact this
      · refine ih (n + 1) M2 (by omega) (fun q hq => by rw [h2 q hq]; exact h1 q hq) p2 (fun e he => ?_)
        by_cases en : e = n
        · rw [en]; exact decide_eq_false q
        · exact hx e (by omega)
  unfold f_X12_allBy
  exact s_take pr (fun M1 h1 p1 => ⟨62, L 61 0 M1 rfl h1 (RfS.zero w p1) (fun e he => by omega)⟩)
theorem op_all {Mc Mr : Mm} (hI : Inv Mc Mr) (a : Int32) : f_X11_all a Mc (fun r Mc' => f_X12_all a Mr (fun r' Mr' => r = r' ∧ Inv Mc' Mr')) := by
  obtain ⟨-, -, -, -, -, A, hC, hR, -, -, -, hr⟩ := id hI
  have s := hr.sm
  have s3 := s.2.2.2
  simp only [f_X11_all, f_X12_all, e_hasFolk hC s, e_isOne hR hr, br_eq, b2i_0]
  by_cases ha : 0 ≤ a.toInt ∧ a.toInt < A 3
  · simp only [if_neg (not_not_intro ha)]
    obtain ⟨f, hf, rfl⟩ := of_arg (n := A 3) (a := a) (by omega) ha
    have w := hr.of3 hf
    exact s_all hC w hf (fun M1 h1 => s_rall hR w hf (fun M2 h2 => ⟨rfl, hI.scr (fun k _ _ => h1 k (by omega)) (fun k _ _ _ q _ => h2 k q)⟩))
  · simp only [if_pos ha]; first | exact hI | exact ⟨trivial, hI⟩
theorem fstB_or (t : Nat → Bool) : ∀ m, fstB t m = -1000000 ∨ ∃ d, d < m ∧ fstB t m = nI d
  | 0 => Or.inl rfl
  | m + 1 => by
    unfold fstB
    by_cases h : t m = true ∧ cntB t m = 0
    · rw [if_pos h]; exact Or.inr ⟨m, by omega, rfl⟩
    · rw [if_neg h]
      rcases fstB_or t m with e | ⟨d, hd, e⟩
      · exact Or.inl e
      · exact Or.inr ⟨d, by omega, e⟩
/-- who is the first, and when -/
def fwA (A : AP) : Nat → Int32 × Int32
  | 0 => (-1000000, -1000000)
  | n + 1 => if allV A n ≠ -1000000 ∧ ((fwA A n).2 = -1000000 ∨ allV A n < (fwA A n).2) then (nI n, allV A n) else fwA A n
theorem fwA_or (A : AP) : ∀ n, fwA A n = (-1000000, -1000000) ∨ ∃ g d, g < n ∧ d < 61 ∧ fwA A n = (nI g, nI d)
  | 0 => Or.inl rfl
  | n + 1 => by
    unfold fwA
    by_cases h : allV A n ≠ -1000000 ∧ ((fwA A n).2 = -1000000 ∨ allV A n < (fwA A n).2)
    · rw [if_pos h]
      rcases fstB_or (allT A n) 61 with e | ⟨d, hd, e⟩
      · exact absurd e h.1
      · exact Or.inr ⟨n, d, by omega, hd, by rw [show allV A n = nI d from e]⟩
    · rw [if_neg h]
      rcases fwA_or A n with e | ⟨g, d, hg, hd, e⟩
      · exact Or.inl e
      · exact Or.inr ⟨g, d, by omega, hd, e⟩
theorem s_first {M : Mm} {A : AP} (pc : PapC M 26 A) (w : WF A) (v1 : Int32) {K : Int32 → Mm → Prop} (h : ∀ M' : Mm, (∀ q, ¬ (56 ≤ q ∧ q ≤ 62) → M' q = M q) → K (if v1 = 0 then (fwA A (A 3)).1 else (fwA A (A 3)).2) M') : f_X4_firstToKnowAll v1 M K := by
  have s3 := w.2.2.2.1
  have L : ∀ (j n : Nat) (M1 : Mm), n + j = A 3 → (∀ q, ¬ (56 ≤ q ∧ q ≤ 62) → M1 q = M q) → l_X4_firstToKnowAll_9 K v1 (j + 1) (fwA A n).1 (if (fwA A n).2 = -1000000 then 61 else (fwA A n).2) (nI n) M1 := by
    intro j
    induction j with
    | zero =>
      intro n M1 hn h1
      have hk := h M1 h1
      rw [← show n = A 3 by omega] at hk
      rw [l_X4_firstToKnowAll_9, h1 26 (by omega), pc.1.2.2.2.1]
      refine br_t (by rw [le_I, nI_I (by omega), nI_I (by omega)]; omega) ?_
      refine br_c (fun q => ?_) (fun q => ?_)
      · rw [if_pos q] at hk; exact hk
      · rw [if_neg q] at hk
        rcases fwA_or A n with e | ⟨g, d, hg, hd, e⟩
        · rw [e] at hk ⊢
          exact br_t rfl hk
        · rw [e] at hk ⊢
          refine br_f (by rw [nI_neg (by omega) (by decide)]; exact id) ?_
          rw [if_neg (by rw [nI_neg (by omega) (by decide)]; exact id)]
          exact hk
    | succ j ih =>
      intro n M1 hn h1
      rw [l_X4_firstToKnowAll_9, h1 26 (by omega), pc.1.2.2.2.1, nI_1]
      refine br_f (by rw [le_I, nI_I (by omega), nI_I (by omega)]; omega) (s_all (pc.congr (fun k _ _ => h1 k (by omega))) w (by omega) (fun M2 h2 => ?_))
      have nx := ih (n + 1) M2 (by omega) (fun q hq => by rw [h2 q hq]; exact h1 q hq)
      have same : fwA A (n + 1) = fwA A n → l_X4_firstToKnowAll_9 K v1 (j + 1) (fwA A n).1 (if (fwA A n).2 = -1000000 then 61 else (fwA A n).2) (nI (n + 1)) M2 := by
        intro e
        rw [e] at nx
        exact nx
      rcases fstB_or (allT A n) 61 with e | ⟨d, hd, e⟩
      · refine br_t e (same ?_)
        show (if _ then _ else fwA A n) = fwA A n
        rw [if_neg (fun z => z.1 e)]
      · have e' : allV A n = nI d := e
        rw [e']
        have ne : ¬ nI d = (-1000000 : Int32) := by rw [nI_neg (by omega) (by decide)]; exact id
        have upd' : ((fwA A n).2 = -1000000 ∨ nI d < (fwA A n).2) → l_X4_firstToKnowAll_9 K v1 (j + 1) (nI n) (nI d) (nI (n + 1)) M2 := by
          intro z
          have : fwA A (n + 1) = (nI n, nI d) := by
            show (if _ then _ else fwA A n) = _
            rw [e', if_pos ⟨ne, z⟩]
          rw [this] at nx
          have nx : l_X4_firstToKnowAll_9 K v1 (j + 1) (nI n) (if nI d = -1000000 then 61 else nI d) (nI (n + 1)) M2 := nx
          rw [if_neg ne] at nx
          exact nx
        have keep : ¬ ((fwA A n).2 = -1000000 ∨ nI d < (fwA A n).2) → fwA A (n + 1) = fwA A n := by
          intro z
          show (if _ then _ else fwA A n) = _
          rw [e', if_neg (fun y => z y.2)]
        refine br_f ne (br_c (fun q => same (keep (fun z => ?_))) (fun q => upd' ?_))
        · rcases z with z | z
          · rw [if_pos z, le_I, nI_I (by omega)] at q
            have q : (61 : Int) ≤ d := q
            omega
          · by_cases y : (fwA A n).2 = -1000000
            · rw [if_pos y, le_I, nI_I (by omega)] at q
              have q : (61 : Int) ≤ d := q
              omega
            · rw [if_neg y, le_I] at q
              rw [lt_I] at z
              omega
        · by_cases y : (fwA A n).2 = -1000000
          · exact Or.inl y
          · rw [if_neg y, le_I] at q
            right
            rw [lt_I]
            omega
  exact ⟨A 3 + 1, L (A 3) 0 M (by omega) (fun _ _ => rfl)⟩
theorem s_rfirst {M : Mm} {A : AP} (pr : PapR (M 7) (M 9) A) (w : WF A) (v1 : Int32) {K : Int32 → Mm → Prop} (h : ∀ M' : Mm, (∀ q, q ≠ 10 → M' q = M q) → K (if v1 = 0 then (fwA A (A 3)).1 else (fwA A (A 3)).2) M') : ∃ z, l_X12_first_31 K v1 z (-1000000) (-1000000) 0 M := by
  have s3 := w.2.2.2.1
  have L : ∀ (j n : Nat) (M1 : Mm), n + j = A 3 → (∀ q, q ≠ 10 → M1 q = M q) → l_X12_first_31 K v1 (j + 1) (fwA A n).1 (fwA A n).2 (nI n) M1 := by
    intro j
    induction j with
    | zero =>
      intro n M1 hn h1
      have hk := h M1 h1
      rw [← show n = A 3 by omega] at hk
      rw [l_X12_first_31, h1 7 (by omega), show M 7 (3 : Int32).toNatClampNeg = nI (A 3) from pr.1 3 (by omega)]
      refine br_t (by rw [le_I, nI_I (by omega), nI_I (by omega)]; omega) ?_
      refine br_c (fun q => ?_) (fun q => ?_)
      · rw [if_pos q] at hk; exact hk
      · rw [if_neg q] at hk; exact hk
    | succ j ih =>
      intro n M1 hn h1
      have pr1 : PapR (M1 7) (M1 9) A := by rw [h1 7 (by omega), h1 9 (by omega)]; exact pr
      rw [l_X12_first_31, h1 7 (by omega), show M 7 (3 : Int32).toNatClampNeg = nI (A 3) from pr.1 3 (by omega), nI_1]
      refine br_f (by rw [le_I, nI_I (by omega), nI_I (by omega)]; omega) (s_rall pr1 w (by omega) (fun M2 h2 => ?_))
      have nx := ih (n + 1) M2 (by omega) (fun q hq => by rw [h2 q hq]; exact h1 q hq)
      have same : fwA A (n + 1) = fwA A n → l_X12_first_31 K v1 (j + 1) (fwA A n).1 (fwA A n).2 (nI (n + 1)) M2 := by
        intro e
        rw [e] at nx
        exact nx
      rcases fstB_or (allT A n) 61 with e | ⟨d, hd, e⟩
      · refine br_t e (same ?_)
        show (if _ then _ else fwA A n) = fwA A n
        rw [if_neg (fun z => z.1 e)]
      · have e' : allV A n = nI d := e
        rw [e']
        have ne : ¬ nI d = (-1000000 : Int32) := by rw [nI_neg (by omega) (by decide)]; exact id
        have upd' : ((fwA A n).2 = -1000000 ∨ nI d < (fwA A n).2) → l_X12_first_31 K v1 (j + 1) (nI n) (nI d) (nI (n + 1)) M2 := by
          intro z
          have : fwA A (n + 1) = (nI n, nI d) := by
            show (if _ then _ else fwA A n) = _
            rw [e', if_pos ⟨ne, z⟩]
          rw [this] at nx
          exact nx
        have keep : ¬ ((fwA A n).2 = -1000000 ∨ nI d < (fwA A n).2) → fwA A (n + 1) = fwA A n := by
          intro z
          show (if _ then _ else fwA A n) = _
          rw [e', if_neg (fun y => z y.2)]
        refine br_f ne (br_c (fun y => upd' (Or.inl y)) (fun y => br_c (fun q => same (keep (fun z => ?_))) (fun q => upd' (Or.inr ?_))))
        · rcases z with z | z
          · exact y z
          · rw [le_I] at q
            rw [lt_I] at z
            omega
        · rw [le_I] at q
          rw [lt_I]
          omega
  exact ⟨A 3 + 1, L (A 3) 0 M (by omega) (fun _ _ => rfl)⟩
theorem op_first {Mc Mr : Mm} (hI : Inv Mc Mr) (a : Int32) : f_X11_first a Mc (fun r Mc' => f_X12_first a Mr (fun r' Mr' => r = r' ∧ Inv Mc' Mr')) := by
  obtain ⟨-, -, -, -, -, A, hC, hR, -, -, -, hr⟩ := id hI
  have s := hr.sm
  simp only [f_X11_first, f_X12_first, e_noPaper hC s, e_isBit, e_in, bit01, br_eq, b2i_0, read_0 hr]
  by_cases h0 : A 0 = 0
  · simp only [if_neg (not_not_intro h0), if_pos h0]; first | exact hI | exact ⟨trivial, hI⟩
  · simp only [if_pos h0, if_neg h0]
    have w := (hr.wf h0).1
    by_cases ha : 0 ≤ a.toInt ∧ a.toInt < 2
    · simp only [if_neg (not_not_intro ha)]
      exact s_first hC w a (fun M1 h1 => s_rfirst hR w a (fun M2 h2 => ⟨rfl, hI.scr (fun k _ _ => h1 k (by omega)) (fun k _ _ _ q _ => h2 k q)⟩))
    · simp only [if_pos ha]; first | exact hI | exact ⟨trivial, hI⟩
