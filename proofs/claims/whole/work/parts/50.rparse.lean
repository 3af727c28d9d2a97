def FrR (M0 M : Mm) : Prop := (∀ k, k ≠ 0 → k ≠ 6 → k ≠ 8 → M k = M0 k) ∧ ∀ j, ¬ (7 ≤ j ∧ j ≤ 11) → M 0 j = M0 0 j
def TkR (X : Nat → Nat) (T p : Nat) (M : Mm) : Prop := p ≤ T ∧ M 0 8 = nI p ∧ M 0 9 = nI (rsT (tkn X T p)) ∧ M 0 10 = nI (rvT X T p) ∧ (tkn X T p ≠ 256 → tkn X T p ≠ 258 → M 0 7 = nI (p + wd X T p))
def LvR (X : Nat → Nat) (T : Nat) (M0 : Mm) (p : Nat) (M : Mm) : Prop := FrR M0 M ∧ M 0 11 = 0 ∧ TkR X T p M
def StR (X : Nat → Nat) (T : Nat) (M0 : Mm) (p : Nat) (A : AP) (M : Mm) : Prop := LvR X T M0 p M ∧ WQ A ∧ PapR (M 6) (M 8) A
def FaR (M0 : Mm) (e p : Nat) (M : Mm) : Prop := (e ≠ 0 ∧ e < 4) ∧ FrR M0 M ∧ M 0 11 = nI e ∧ M 0 8 = nI p
def OR' (X : Nat → Nat) (T : Nat) (M0 : Mm) (o : Ou) (M : Mm) : Prop := (o.1 = 0 ∧ StR X T M0 o.2.1 o.2.2 M) ∨ (o.1 ≠ 0 ∧ FaR M0 o.1 o.2.1 M)
theorem rs_1 (t : Nat) (ht : t < 259) : (rsT t = 1) = (97 ≤ t ∧ t ≤ 122) := by
  unfold rsT
  apply propext
  by_cases h1 : t = 257
  · rw [if_pos h1]; omega
  · rw [if_neg h1]
    by_cases h2 : t = 256
    · rw [if_pos h2]; omega
    · rw [if_neg h2]
      by_cases h3 : t = 258
      · rw [if_pos h3]; omega
      · rw [if_neg h3]
        by_cases h4 : 97 ≤ t ∧ t ≤ 122
        · rw [if_pos h4]; exact ⟨fun _ => h4, fun _ => rfl⟩
        · rw [if_neg h4]
          by_cases h5 : t = 44
          · rw [if_pos h5]; omega
          · rw [if_neg h5]
            by_cases h6 : t = 59
            · rw [if_pos h6]; omega
            · rw [if_neg h6]; omega
theorem rs_c (t c n : Nat) (ht : t < 259) (hc : (c = 257 ∧ n = 2) ∨ (c = 44 ∧ n = 3) ∨ (c = 59 ∧ n = 4) ∨ (c = 256 ∧ n = 5)) : (rsT t = n) = (t = c) := by
  unfold rsT
  apply propext
  by_cases h1 : t = 257
  · rw [if_pos h1]; omega
  · rw [if_neg h1]
    by_cases h2 : t = 256
    · rw [if_pos h2]; omega
    · rw [if_neg h2]
      by_cases h3 : t = 258
      · rw [if_pos h3]; omega
      · rw [if_neg h3]
        by_cases h4 : 97 ≤ t ∧ t ≤ 122
        · rw [if_pos h4]; omega
        · rw [if_neg h4]
          by_cases h5 : t = 44
          · rw [if_pos h5]; omega
          · rw [if_neg h5]
            by_cases h6 : t = 59
            · rw [if_pos h6]; omega
            · rw [if_neg h6]; omega
theorem rs_lt (t : Nat) : rsT t < 7 := by
  unfold rsT
  repeat (first | omega | split)
section
variable {X : Nat → Nat} {T : Nat} {M0 M : Mm} {p : Nat} {A : AP}
theorem rv_lt (x : TpX X T) : rvT X T p < 1000 := by
  unfold rvT
  by_cases h : dg X T p = true
  · rw [if_pos h]; have := vl_lt h; omega
  · rw [if_neg h]
    have := tkn_lt (X := X) (T := T) (p := p) x
    split <;> omega
theorem rv_let (x : TpX X T) (h : 97 ≤ tkn X T p ∧ tkn X T p ≤ 122) : rvT X T p = tkn X T p := by
  unfold rvT
  rw [if_neg (fun d => by have := (tkn_dg x).mp d; omega), if_pos h]
theorem FrR.tp (t0 : TpR X T M0) (f : FrR M0 M) : TpR X T M := ⟨by rw [f.2 6 (by omega)]; exact t0.1, fun j hj => by rw [f.1 5 (by omega) (by omega) (by omega)]; exact t0.2 j hj⟩
theorem FrR.wr {M' : Mm} (f : FrR M0 M) (h : ∀ k, k ≠ 6 → k ≠ 8 → M' k = M k) : FrR M0 M' := ⟨fun k q1 q2 q3 => by rw [h k q2 q3]; exact f.1 k q1 q2 q3, fun j hj => by rw [h 0 (by omega) (by omega)]; exact f.2 j hj⟩
theorem LvR.wr {M' : Mm} (l : LvR X T M0 p M) (h : ∀ k, k ≠ 6 → k ≠ 8 → M' k = M k) : LvR X T M0 p M' := by
  obtain ⟨f, e, t⟩ := l
  refine ⟨f.wr h, by rw [h 0 (by omega) (by omega)]; exact e, ?_⟩
  unfold TkR at t ⊢
  rw [h 0 (by omega) (by omega)]
  exact t
theorem FaR.wr {M' : Mm} {e : Nat} (l : FaR M0 e p M) (h : ∀ k, k ≠ 6 → k ≠ 8 → M' k = M k) : FaR M0 e p M' := by
  obtain ⟨f0, f, a, b⟩ := l
  exact ⟨f0, f.wr h, by rw [h 0 (by omega) (by omega)]; exact a, by rw [h 0 (by omega) (by omega)]; exact b⟩
theorem s_stepR {K : Mm → Prop} (x : TpX X T) (t0 : TpR X T M0) (l : LvR X T M0 p M) (h1 : tkn X T p ≠ 256) (h2 : tkn X T p ≠ 258) (h : ∀ M' : Mm, LvR X T M0 (p + wd X T p) M' → (∀ k, k ≠ 0 → M' k = M k) → K M') : f_X12_step M K := by
  obtain ⟨f, e, t⟩ := l
  have w := wd_le (X := X) (tkn_in h1)
  refine r_step x (f.tp t0) (t.2.2.2.2 h1 h2) w.1 (fun M' c1 c2 c3 c4 c5 c6 => h M' ⟨⟨fun k q1 q2 q3 => by rw [c1 k q1]; exact f.1 k q1 q2 q3, fun j hj => by rw [c2 j (by omega)]; exact f.2 j hj⟩, by rw [c2 11 (by omega)]; exact e, w.1, c3, c4, c5, c6⟩ c1)
theorem s_wrong {K : Mm → Prop} {e : Nat} {v : Int32} (l : LvR X T M0 p M) (he : e ≠ 0 ∧ e < 4) (hv : v = nI e) (h : ∀ M' : Mm, FaR M0 e p M' → (∀ k, k ≠ 0 → M' k = M k) → (∀ j, j ≠ 11 → M' 0 j = M 0 j) → K M') : ∀ M' : Mm, M' = gU M 0 11 v → K M' := by
  intro M' e'
  obtain ⟨f, _, t⟩ := l
  refine h M' ⟨he, ⟨fun k q1 q2 q3 => by rw [e', gU_cell q1]; exact f.1 k q1 q2 q3, fun j hj => by rw [e', gU_place (by omega)]; exact f.2 j hj⟩, by rw [e', gU_same, hv], by rw [e', gU_place (by omega)]; exact t.2.1⟩ (fun k hk => by rw [e', gU_cell hk]) (fun j hj => by rw [e', gU_place hj])
theorem s_dueR {K : Mm → Prop} (x : TpX X T) (t0 : TpR X T M0) (l : LvR X T M0 p M) {b : Prop} [Decidable b] {v : Int32} (hv : v = b2i b) (hb : b → tkn X T p ≠ 256 ∧ tkn X T p ≠ 258) (h1 : b → ∀ M' : Mm, LvR X T M0 (p + wd X T p) M' → (∀ k, k ≠ 0 → M' k = M k) → K M') (h0 : ¬ b → ∀ M' : Mm, FaR M0 1 p M' → (∀ k, k ≠ 0 → M' k = M k) → K M') : f_X12_due v 1 M K := by
  unfold f_X12_due
  refine br_t l.2.1 ?_
  rw [hv]
  by_cases q : b
  · rw [b2i_t q]
    exact br_f (by decide) (s_stepR x t0 l (hb q).1 (hb q).2 (h1 q))
  · rw [b2i_f q]
    exact br_t rfl (s_wrong (e := 1) l (by omega) rfl (fun M' a b _ => h0 q M' a b))
theorem FaR.ne {e : Nat} (l : FaR M0 e p M) : ¬ M 0 11 = 0 := by
  obtain ⟨a, _, b, _⟩ := l
  rw [b, nI_is0 (by omega)]
  exact a.1
theorem d_due {K : Mm → Prop} {e : Nat} {v1 v2 : Int32} (l : FaR M0 e p M) (h : K M) : f_X12_due v1 v2 M K := by
  unfold f_X12_due
  exact br_f l.ne h
theorem d_num {K : Int32 → Mm → Prop} {e : Nat} {v1 v2 : Int32} (l : FaR M0 e p M) (h : ∀ v, K v M) : f_X12_number v1 v2 M K := by
  unfold f_X12_number f_X12_number_36 f_X12_number_50
  exact br_f l.ne (br_c (fun _ => d_due l (h _)) (fun _ => d_due l (h _)))
theorem e_letR (x : TpX X T) (l : LvR X T M0 p M) {c : Nat} {v : Int32} (hv : v = nI c) (hc : 97 ≤ c ∧ c ≤ 122) (K : Int32 → Mm → Prop) : f_X12_isLetter v M K = K (b2i (tkn X T p = c)) M := by
  have tl := tkn_lt (X := X) (T := T) (p := p) x
  have rl := rs_lt (tkn X T p)
  unfold f_X12_isLetter
  simp only [br_eq, l.2.2.2.2.1, l.2.2.2.2.2.1, nI_is1 (show rsT (tkn X T p) < 2147483648 by omega), rs_1 _ tl, hv]
  by_cases h : 97 ≤ tkn X T p ∧ tkn X T p ≤ 122
  · rw [if_pos h, rv_let x h]
    simp only [nI_ne (show tkn X T p < 2147483648 by omega) (show c < 2147483648 by omega)]
    by_cases q : tkn X T p = c
    · rw [if_pos q, b2i_t q]
    · rw [if_neg q, b2i_f q]
  · rw [if_neg h, b2i_f (by omega)]
theorem s_numR {K : Int32 → Mm → Prop} (x : TpX X T) (t0 : TpR X T M0) (l : LvR X T M0 p M) {lo hi : Nat} (hlo : lo < 1000) (hhi : hi < 1000) {v1 v2 : Int32} (hv1 : v1 = nI lo) (hv2 : v2 = nI hi) (h1 : tkn X T p = 257 → lo ≤ vl X T p ∧ vl X T p ≤ hi → ∀ M' : Mm, LvR X T M0 (p + wd X T p) M' → (∀ k, k ≠ 0 → M' k = M k) → K (nI (vl X T p)) M') (h2 : tkn X T p = 257 → ¬ (lo ≤ vl X T p ∧ vl X T p ≤ hi) → ∀ v M', FaR M0 2 p M' → (∀ k, k ≠ 0 → M' k = M k) → K v M') (h0 : tkn X T p ≠ 257 → ∀ v M', FaR M0 1 p M' → (∀ k, k ≠ 0 → M' k = M k) → K v M') : f_X12_number v1 v2 M K := by
  have tl := tkn_lt (X := X) (T := T) (p := p) x
  have rl := rs_lt (tkn X T p)
  have c2 : (M 0 9 = 2) = (tkn X T p = 257) := by
    rw [l.2.2.2.2.1, nI_is (x := 2) (n := 2) (by omega) (by decide) rfl]
    exact rs_c _ 257 2 tl (Or.inl ⟨rfl, rfl⟩)
  unfold f_X12_number f_X12_number_36 f_X12_number_50
  refine br_t l.2.1 ?_
  rw [c2]
  by_cases q : tkn X T p = 257
  · have d := (tkn_dg x).mpr (Or.inl q)
    have vlt := vl_lt d
    have ev : M 0 10 = nI (vl X T p) := by rw [l.2.2.2.2.2.1]; unfold rvT; rw [if_pos d]
    refine br_t q ?_
    rw [ev, e_in, hv1, hv2, nI_I (by omega), nI_I (by omega), nI_I (by omega)]
    by_cases b : lo ≤ vl X T p ∧ vl X T p ≤ hi
    · rw [b2i_t (by omega)]
      refine br_f (by decide) (br_t (by rw [c2]; exact q) ?_)
      exact s_dueR (b := True) x t0 l (b2i_t trivial).symm (fun _ => by omega) (fun _ => h1 q b) (fun z => absurd trivial z)
    · rw [b2i_f (by omega)]
      exact br_t rfl (s_wrong (e := 2) l (by omega) rfl (fun M' a c _ => h2 q b _ M' a c))
  · refine br_f q (br_f q ?_)
    exact s_dueR (b := False) x t0 l (b2i_f id).symm (fun z => z.elim) (fun z => z.elim) (fun _ => h0 q _)
theorem OR'.ok {o : Ou} {p' : Nat} {A' : AP} {M' : Mm} (e : o = (0, p', A')) (s : StR X T M0 p' A' M') : OR' X T M0 o M' := by
  subst e; exact Or.inl ⟨rfl, s⟩
theorem OR'.no {o : Ou} {e p' : Nat} {A' : AP} {M' : Mm} (he : o = (e, p', A')) (s : FaR M0 e p' M') : OR' X T M0 o M' := by
  subst he; exact Or.inr ⟨s.1.1, s⟩
theorem sort4 (x : TpX X T) (l : LvR X T M0 p M) : (M 0 9 = 4) = (tkn X T p = 59) := by
  have tl := tkn_lt (X := X) (T := T) (p := p) x
  have rl := rs_lt (tkn X T p)
  rw [l.2.2.2.2.1, nI_is (x := 4) (n := 4) (by omega) (by decide) rfl]
  exact rs_c _ 59 4 tl (Or.inr (Or.inr (Or.inl ⟨rfl, rfl⟩)))
theorem nd_of (x : TpX X T) {c : Nat} (h : tkn X T p = c) (hc : c < 256) : wd X T p = 1 ∧ tkn X T p ≠ 256 ∧ tkn X T p ≠ 258 := by
  refine ⟨wd_1 (fun d => by have := (tkn_dg x).mp d; omega), by omega, by omega⟩
/-- a sign that is due: either way into what follows -/
theorem s_sign {K : Mm → Prop} (x : TpX X T) (t0 : TpR X T M0) (l : LvR X T M0 p M) {c : Nat} (hc : c < 256) {P : Prop} [Decidable P] (hP : P = (tkn X T p = c)) {f : Int32 → Mm → Prop} (hf : ∀ s, f s M = f_X12_due s 1 M K) (h1 : tkn X T p = c → ∀ M' : Mm, LvR X T M0 (p + 1) M' → (∀ k, k ≠ 0 → M' k = M k) → K M') (h0 : tkn X T p ≠ c → ∀ M' : Mm, FaR M0 1 p M' → (∀ k, k ≠ 0 → M' k = M k) → K M') : (P → f 1 M) ∧ (¬ P → f 0 M) := by
  have h1' : tkn X T p = c → ∀ M' : Mm, LvR X T M0 (p + wd X T p) M' → (∀ k, k ≠ 0 → M' k = M k) → K M' := by
    intro q M' l' f'
    rw [(nd_of x q hc).1] at l'
    exact h1 q M' l' f'
  refine ⟨fun q => ?_, fun q => ?_⟩
  · rw [hf]
    rw [hP] at q
    exact s_dueR (b := True) x t0 l (b2i_t trivial).symm (fun _ => (nd_of x q hc).2) (fun _ => h1' q) (fun z => absurd trivial z)
  · rw [hf]
    rw [hP] at q
    exact s_dueR (b := False) x t0 l (b2i_f id).symm (fun z => z.elim) (fun z => z.elim) (fun _ => h0 q)
theorem d_sign {K : Mm → Prop} {e : Nat} (l : FaR M0 e p M) {P : Prop} {f : Int32 → Mm → Prop} (hf : ∀ s, f s M = f_X12_due s 1 M K) (h : K M) : (P → f 1 M) ∧ (¬ P → f 0 M) :=
  ⟨fun _ => by rw [hf]; exact d_due l h, fun _ => by rw [hf]; exact d_due l h⟩
theorem r_law {K : Mm → Prop} (x : TpX X T) (t0 : TpR X T M0) (st : StR X T M0 p A M) {f94 : Int32 → Mm → Prop} (hf : ∀ s M', f94 s M' = f_X12_due s 1 M' K) (h : ∀ M', OR' X T M0 (lawO X T p A) M' → K M') : f_X12_isLetter 113 M (fun r26 M25 => f_X12_due r26 1 M25 (fun M27 => f_X12_number 0 24 M27 (fun r29 M28 => ∀ M30 : Mm, M30 = gU M28 6 (1 : Int32).toNatClampNeg r29 → ((((M30 0 9 : Int32) = 4 : Prop) → f94 1 M30) ∧ (¬ ((M30 0 9 : Int32) = 4 : Prop) → f94 0 M30))))) := by
  obtain ⟨l, wq, pr⟩ := st
  rw [e_letR x l (c := 113) (v := 113) rfl (by omega)]
  refine s_dueR x t0 l rfl (fun q => (nd_of x q (by omega)).2) (fun q M1 l1 f1 => ?_) (fun q M1 fa f1 => ?_)
  · rw [(nd_of x q (by omega)).1] at l1
    refine s_numR (lo := 0) (hi := 24) x t0 l1 (by omega) (by omega) rfl rfl (fun q2 b M2 l2 f2 M30 e30 => ?_) (fun q2 b v M2 fa f2 M30 e30 => ?_) (fun q2 v M2 fa f2 M30 e30 => ?_)
    · have l30 : LvR X T M0 (p + 1 + wd X T (p + 1)) M30 := l2.wr (fun k q1 _ => by rw [e30, gU_cell q1])
      have p30 : PapR (M30 6) (M30 8) (setA A 1 (vl X T (p + 1))) := by
        have g6 : ∀ i, M30 6 i = if i = 1 then nI (vl X T (p + 1)) else M 6 i := fun i => by rw [e30, c_1, gU_now, f2 6 (by omega), f1 6 (by omega)]
        have g8 : M30 8 = M 8 := by rw [e30, gU_cell (by omega), f2 8 (by omega), f1 8 (by omega)]
        refine ⟨fun i hi => ?_, fun j hj => by rw [g8, setA_n (by omega)]; exact pr.2 j hj⟩
        rw [g6]
        by_cases e : i = 1
        · rw [if_pos e, e, setA_s]
        · rw [if_neg e, setA_n e]; exact pr.1 i hi
      refine s_sign (c := 59) x t0 l30 (by omega) (sort4 x l30) (fun s => hf s M30) (fun q3 M3 l3 f3 => h M3 (OR'.ok ?_ ⟨l3, wq.law b.2, by rw [f3 6 (by omega), f3 8 (by omega)]; exact p30⟩)) (fun q3 M3 fa _ => h M3 (OR'.no (A' := setA A 1 (vl X T (p + 1))) ?_ fa))
      · rw [lawO, eO_t q, bnd_0, nO_t q2 b, bnd_0, eO_t q3]
      · rw [lawO, eO_t q, bnd_0, nO_t q2 b, bnd_0, eO_f q3]
    · have fa30 := fa.wr (M' := M30) (fun k q1 _ => by rw [e30, gU_cell q1])
      exact d_sign fa30 (fun s => hf s M30) (h M30 (OR'.no (A' := A) (by rw [lawO, eO_t q, bnd_0, nO_2 q2 b, bnd_e (by omega)]) fa30))
    · have fa30 := fa.wr (M' := M30) (fun k q1 _ => by rw [e30, gU_cell q1])
      exact d_sign fa30 (fun s => hf s M30) (h M30 (OR'.no (A' := A) (by rw [lawO, eO_t q, bnd_0, nO_1 q2, bnd_e (by omega)]) fa30))
  · refine d_num fa (fun v M30 e30 => ?_)
    have fa30 := fa.wr (M' := M30) (fun k q1 _ => by rw [e30, gU_cell q1])
    exact d_sign fa30 (fun s => hf s M30) (h M30 (OR'.no (A' := A) (by rw [lawO, eO_f q, bnd_e (by omega)]) fa30))
theorem PapR.fig {M' : Mm} {v : Nat} (h24 : A 0 < 24) (pr : PapR (M 6) (M 8) A) (h6 : ∀ i, M' 6 i = if i = 0 then nI (A 0 + 1) else if i = 4 + A 0 then nI v else M 6 i) (h8 : M' 8 = M 8) : PapR (M' 6) (M' 8) (figA A v) := by
  refine ⟨fun i hi => ?_, fun j hj => by rw [h8, figA_n (by omega) (by omega)]; exact pr.2 j hj⟩
  rw [h6]
  by_cases e : i = 0
  · rw [if_pos e, e, figA_0]
  · rw [if_neg e]
    by_cases e2 : i = 4 + A 0
    · rw [if_pos e2, e2, figA_f]
    · rw [if_neg e2, figA_n e e2]; exact pr.1 i hi
theorem r_picL {K : Mm → Prop} (x : TpX X T) (t0 : TpR X T M0) : ∀ (n p : Nat) (A : AP) (M : Mm), n + A 0 = 25 → StR X T M0 p A M → (∀ M', OR' X T M0 (picL X T n p A) M' → K M') → l_X12_picture_11 K n M := by
  intro n
  induction n with
  | zero =>
    intro p A M hn st _
    have := st.2.1.1
    omega
  | succ n ih =>
    intro p A M hn st h
    obtain ⟨l, wq, pr⟩ := st
    have w0 := wq.1
    have tl := tkn_lt (X := X) (T := T) (p := p) x
    have rl := rs_lt (tkn X T p)
    have m60 : M 6 (0 : Int32).toNatClampNeg = nI (A 0) := pr.1 0 (by omega)
    have c1 : (M 0 9 = 1) = (97 ≤ tkn X T p ∧ tkn X T p ≤ 122) := by
      rw [l.2.2.2.2.1, nI_is1 (by omega)]
      exact rs_1 _ tl
    have l94 : ¬ (97 ≤ tkn X T p ∧ tkn X T p ≤ 106) → f_X12_picture_94 K M := by
      intro hin
      unfold f_X12_picture_94 f_X12_picture_118 f_X12_picture_119
      rw [sort4 x l, m60]
      by_cases q0 : A 0 < 6
      · have e : picL X T (n + 1) p A = (1, p, A) := by
          show (if _ then _ else _) = _
          rw [if_neg hin, if_pos q0]
        have bad : f_X12_due 0 1 M (fun M1 => K M1) := s_dueR (b := False) x t0 l (b2i_f id).symm (fun z => z.elim) (fun z => z.elim) (fun _ M' fa _ => h M' (OR'.no e fa))
        exact br_c (fun _ => br_t (by rw [lt_I, nI_I (by omega)]; show _ < (6 : Int); omega) bad) (fun _ => bad)
      · have e : picL X T (n + 1) p A = eO X T 59 p A := by
          show (if _ then _ else _) = _
          rw [if_neg hin, if_neg q0]
        rw [e] at h
        refine br_c (fun q => br_f (by rw [lt_I, nI_I (by omega)]; show ¬ _ < (6 : Int); omega) ?_) (fun q => ?_)
        · refine s_dueR (b := True) x t0 l (b2i_t trivial).symm (fun _ => (nd_of x q (by omega)).2) (fun _ M' l' f' => h M' (OR'.ok (eO_t q) ?_)) (fun z => absurd trivial z)
          rw [(nd_of x q (by omega)).1] at l'
          exact ⟨l', wq, by rw [f' 6 (by omega), f' 8 (by omega)]; exact pr⟩
        · exact s_dueR (b := False) x t0 l (b2i_f id).symm (fun z => z.elim) (fun z => z.elim) (fun _ M' fa _ => h M' (OR'.no (eO_f q) fa))
    rw [l_X12_picture_11]
    refine br_t l.2.1 ?_
    rw [c1]
    by_cases lt : 97 ≤ tkn X T p ∧ tkn X T p ≤ 122
    · have ev : M 0 10 = nI (tkn X T p) := by rw [l.2.2.2.2.2.1, rv_let x lt]
      refine br_t lt ?_
      rw [ev, e_in, nI_I (by omega)]
      by_cases hin : 97 ≤ tkn X T p ∧ tkn X T p ≤ 106
      · rw [b2i_t (show (97 : Int32).toInt ≤ (tkn X T p : Int) ∧ (tkn X T p : Int) ≤ (106 : Int32).toInt by show (97 : Int) ≤ _ ∧ _ ≤ (106 : Int); omega), m60, ev, nI_is (x := 24) (n := 24) (by omega) (by decide) rfl, c_0, c_add (c := 4) (n := 4) rfl, nI_cl (by omega), show (97 : Int32) = nI 97 from rfl, pk_sub hin.1]
        refine br_f (by decide) (br_c (fun q => ?_) (fun q => ⟨vp_nI (by omega) (by decide), fun M11 e11 M13 e13 => ?_⟩))
        · have e : picL X T (n + 1) p A = (3, p, A) := by
            show (if _ then _ else _) = _
            rw [if_pos hin, if_pos q]
          exact s_wrong (e := 3) l (by omega) rfl (fun M' fa _ _ => h M' (OR'.no e fa))
        · have k0 : M11 6 0 = nI (A 0) := by rw [e11, gU_place (by omega)]; exact pr.1 0 (by omega)
          rw [k0, nI_1] at e13
          have l13 : LvR X T M0 p M13 := l.wr (fun k q1 _ => by rw [e13, gU_cell q1, e11, gU_cell q1])
          have p13 : PapR (M13 6) (M13 8) (figA A (tkn X T p - 97)) := pr.fig (by omega) (fun i => by rw [e13, gU_now, e11, gU_now]) (by rw [e13, gU_cell (by omega), e11, gU_cell (by omega)])
          have e : picL X T (n + 1) p A = picL X T n (p + 1) (figA A (tkn X T p - 97)) := by
            show (if _ then _ else _) = _
            rw [if_pos hin, if_neg q]
          rw [e] at h
          have nn := nd_of x (c := tkn X T p) rfl (by omega)
          refine s_stepR x t0 l13 nn.2.1 nn.2.2 (fun M15 l15 f15 => ?_)
          rw [nn.1] at l15
          exact ih (p + 1) _ M15 (by rw [figA_0]; omega) ⟨l15, wq.fig (by omega) (by omega), by rw [f15 6 (by omega), f15 8 (by omega)]; exact p13⟩ h
      · rw [b2i_f (show ¬ ((97 : Int32).toInt ≤ (tkn X T p : Int) ∧ (tkn X T p : Int) ≤ (106 : Int32).toInt) by show ¬ ((97 : Int) ≤ _ ∧ _ ≤ (106 : Int)); omega)]
        exact br_t rfl (l94 hin)
    · exact br_f lt (l94 (by omega))
theorem r_pic {K : Mm → Prop} (x : TpX X T) (t0 : TpR X T M0) (st : StR X T M0 p A M) (h : ∀ M', OR' X T M0 (picO X T p A) M' → K M') : f_X12_picture M K := by
  have w0 := st.2.1.1
  obtain ⟨l, wq, pr⟩ := st
  unfold f_X12_picture
  rw [e_letR x l (c := 112) (v := 112) rfl (by omega)]
  refine s_dueR x t0 l rfl (fun q => (nd_of x q (by omega)).2) (fun q M1 l1 f1 => ⟨25 - A 0, ?_⟩) (fun q M1 fa f1 => ⟨1, ?_⟩)
  · rw [(nd_of x q (by omega)).1] at l1
    refine r_picL x t0 (25 - A 0) (p + 1) A M1 (by omega) ⟨l1, wq, by rw [f1 6 (by omega), f1 8 (by omega)]; exact pr⟩ ?_
    have e : picO X T p A = picL X T (25 - A 0) (p + 1) A := by rw [picO, eO_t q, bnd_0]
    rw [e] at h
    exact h
  · rw [l_X12_picture_11]
    refine br_f fa.ne ?_
    have fin : K M1 := h M1 (OR'.no (A' := A) (by rw [picO, eO_f q, bnd_e (by omega)]) fa)
    unfold f_X12_picture_94 f_X12_picture_118 f_X12_picture_119
    exact br_c (fun _ => br_c (fun _ => d_due fa fin) (fun _ => d_due fa fin)) (fun _ => d_due fa fin)
theorem d_132 {K : Mm → Prop} {e : Nat} (fa : FaR M0 e p M) (h : K M) (n : Nat) : l_X12_read_132 K (n + 1) M := by
  rw [l_X12_read_132]
  refine br_f fa.ne ?_
  unfold f_X12_read_164
  exact br_f fa.ne h
theorem d_109 {K : Mm → Prop} {e : Nat} (fa : FaR M0 e p M) (h : ∃ z, l_X12_read_132 K z M) (n : Nat) : l_X12_read_109 K (n + 1) M := by
  rw [l_X12_read_109]
  exact br_f fa.ne h
theorem PapR.wall {M' : Mm} {v : Nat} (h5 : A 2 < 5) (pr : PapR (M 6) (M 8) A) (h6 : ∀ i, M' 6 i = if i = 2 then nI (A 2 + 1) else M 6 i) (h8 : ∀ i, M' 8 i = if i = 1 + A 2 then nI v else M 8 i) : PapR (M' 6) (M' 8) (wallA A v) := by
  refine ⟨fun i hi => ?_, fun j hj => ?_⟩
  · rw [h6]
    by_cases e : i = 2
    · rw [if_pos e, e, wallA_2]
    · rw [if_neg e, wallA_n e (by omega)]; exact pr.1 i hi
  · rw [h8]
    by_cases e : j = 1 + A 2
    · rw [if_pos e, e, show 33 + (1 + A 2) = 34 + A 2 by omega, wallA_w]
    · rw [if_neg e, wallA_n (by omega) (by omega)]; exact pr.2 j hj
theorem r_wallL {K : Mm → Prop} (x : TpX X T) (t0 : TpR X T M0) : ∀ (n p : Nat) (A : AP) (M : Mm), n + A 2 = 6 → 6 ≤ A 0 → StR X T M0 p A M → (∀ M', OR' X T M0 (wallL X T n p A) M' → ∃ z, l_X12_read_132 K z M') → l_X12_read_109 K (n + 1) M := by
  intro n
  induction n with
  | zero =>
    intro p A M hn _ st _
    have := st.2.1.2.2.1
    omega
  | succ n ih =>
    intro p A M hn h6 st h
    obtain ⟨l, wq, pr⟩ := st
    have w0 := wq.1
    have w2 := wq.2.2.1
    rw [l_X12_read_109, e_letR x l (c := 120) (v := 120) rfl (by omega)]
    refine br_t l.2.1 ?_
    by_cases q : tkn X T p = 120
    · rw [b2i_t q]
      refine br_f (by decide) ?_
      have nn := nd_of x q (by omega)
      have m62 : M 6 (2 : Int32).toNatClampNeg = nI (A 2) := pr.1 2 (by omega)
      unfold f_X12_wall
      rw [m62, nI_is (x := 5) (n := 5) (by omega) (by decide) rfl]
      refine br_c (fun q5 => ?_) (fun q5 => s_stepR x t0 l nn.2.1 nn.2.2 (fun M11 l11 f11 => ?_))
      · have e : wallL X T (n + 1) p A = (3, p, A) := by
          show (if _ then _ else _) = _
          rw [if_pos q, if_pos q5]
        exact s_wrong (e := 3) l (by omega) rfl (fun M' fa _ _ => d_109 fa (h M' (OR'.no e fa)) n)
      · rw [nn.1] at l11
        have e : wallL X T (n + 1) p A = bnd (nO X T (loW A) (A 0 - 1) (p + 1) A) (fun p2 _ => bnd (eO X T 59 p2 (wallA A (vl X T (p + 1)))) (fun p3 A3 => wallL X T n p3 A3)) := by
          show (if _ then _ else _) = _
          rw [if_pos q, if_neg q5]
        rw [e] at h
        have g62 : M11 6 (2 : Int32).toNatClampNeg = nI (A 2) := by rw [f11 6 (by omega)]; exact m62
        have g60 : M11 6 (0 : Int32).toNatClampNeg = nI (A 0) := by rw [f11 6 (by omega)]; exact pr.1 0 (by omega)
        have l50 : ∀ s : Int32, s = nI (loW A) → f_X12_wall_50 (fun M17 => l_X12_read_109 K (n + 1) M17) s M11 := by
          intro s hs
          unfold f_X12_wall_50
          rw [g62, g60, show (1 : Int32) = nI 1 from rfl, pk_sub (by omega), nI_add, nI_cl (by omega)]
          have v1 : vp_in (nI (1 + A 2)) 22 := vp_nI (by omega) (by decide)
          -- the count goes up in any case
          have up : ∀ {e' p' : Nat} {A' : AP} (M' : Mm), FaR M0 e' p' M' → (wallL X T (n + 1) p A = (e', p', A')) → ∀ M2 : Mm, M2 = gU M' 6 (2 : Int32).toNatClampNeg (M' 6 (2 : Int32).toNatClampNeg + nI 1) → l_X12_read_109 K (n + 1) M2 := by
            intro e' p' A' M' fa he M2 e2
            have fa2 := fa.wr (M' := M2) (fun k q1 _ => by rw [e2, gU_cell q1])
            rw [← e] at h
            exact d_109 fa2 (h M2 (OR'.no he fa2)) n
          refine s_numR (lo := loW A) (hi := A 0 - 1) x t0 l11 (loW_lt wq) (by omega) hs rfl (fun q2 b M4 l4 f4 => ⟨v1, fun M7 e7 => ?_⟩) (fun q2 b v M4 fa f4 => ⟨v1, fun M7 e7 => ?_⟩) (fun q2 v M4 fa f4 => ⟨v1, fun M7 e7 => ?_⟩)
          · have l7 : LvR X T M0 (p + 1 + wd X T (p + 1)) M7 := l4.wr (fun k _ q2 => by rw [e7, gU_cell q2])
            refine s_sign (c := 59) (f := fun s M' => f_X12_wall_91 (fun M17 => l_X12_read_109 K (n + 1) M17) s 0 M') x t0 l7 (by omega) (sort4 x l7) (fun s => rfl) (fun q3 M1 l1 f1 M2 e2 => ?_) (fun q3 M1 fa f1 M2 e2 => up M1 fa (A' := wallA A (vl X T (p + 1))) (by rw [e, nO_t q2 b, bnd_0, eO_f q3, bnd_e (by omega)]) M2 e2)
            have k62 : M1 6 2 = nI (A 2) := by rw [f1 6 (by omega), e7, gU_cell (by omega), f4 6 (by omega)]; exact g62
            rw [c_2, k62, nI_1] at e2
            rw [nO_t q2 b, bnd_0, eO_t q3, bnd_0] at h
            refine ih _ _ M2 (by rw [wallA_2]; omega) (by rw [wallA_n (by omega) (by omega)]; exact h6) ⟨l1.wr (fun k q1 _ => by rw [e2, gU_cell q1]), wq.wall (by omega) b h6, pr.wall (by omega) (fun i => ?_) (fun i => ?_)⟩ h
            · rw [e2, gU_now, f1 6 (by omega), e7, gU_cell (by omega), f4 6 (by omega), f11 6 (by omega)]
            · rw [e2, gU_cell (by omega), f1 8 (by omega), e7, gU_now, f4 8 (by omega), f11 8 (by omega)]
          · have fa7 := fa.wr (M' := M7) (fun k _ q2 => by rw [e7, gU_cell q2])
            exact d_sign (f := fun s M' => f_X12_wall_91 (fun M17 => l_X12_read_109 K (n + 1) M17) s 0 M') fa7 (fun s => rfl) (up M7 fa7 (A' := A) (by rw [e, nO_2 q2 b, bnd_e (by omega)]))
          · have fa7 := fa.wr (M' := M7) (fun k _ q2 => by rw [e7, gU_cell q2])
            exact d_sign (f := fun s M' => f_X12_wall_91 (fun M17 => l_X12_read_109 K (n + 1) M17) s 0 M') fa7 (fun s => rfl) (up M7 fa7 (A' := A) (by rw [e, nO_1 q2, bnd_e (by omega)]))
        rw [g62, nI_is0 (by omega)]
        refine br_c (fun z => l50 1 ?_) (fun z => ?_)
        · unfold loW; rw [if_pos z]; rfl
        · have ix : (1 : Int32) + nI (A 2) - 1 = nI (1 + (A 2 - 1)) := by
            rw [c_add (c := 1) (n := 1) rfl, show (1 : Int32) = nI 1 from rfl, pk_sub (by omega)]
            congr 1
            omega
          rw [ix, nI_cl (by omega), f11 8 (by omega), pr.2 (1 + (A 2 - 1)) (by omega), show 33 + (1 + (A 2 - 1)) = 34 + (A 2 - 1) by omega, nI_1]
          refine ⟨vp_nI (by omega) (by decide), l50 _ ?_⟩
          unfold loW; rw [if_neg z]
    · rw [b2i_f q]
      have e : wallL X T (n + 1) p A = (0, p, A) := by
        show (if _ then _ else _) = _
        rw [if_neg q]
      exact br_t rfl (h M (OR'.ok e ⟨l, wq, pr⟩))
theorem e_kindR {t : Nat} (ht : t < 256) (M : Mm) (K : Int32 → Mm → Prop) : f_X12_kindBy (nI t) M K = K (nI (kd t)) M := by
  have := e_kind (t := t) (by omega) M K
  unfold ctI at this
  rw [if_pos ht] at this
  exact this
theorem PapR.folk {M' : Mm} {k h w : Nat} (h5 : A 3 < 5) (pr : PapR (M 6) (M 8) A) (h6 : ∀ i, M' 6 i = if i = 3 then nI (A 3 + 1) else if i = 28 + A 3 then nI k else M 6 i) (h8 : ∀ i, M' 8 i = if i = 12 + A 3 then nI w else if i = 7 + A 3 then nI h else M 8 i) : PapR (M' 6) (M' 8) (folkA A k h w) := by
  refine ⟨fun i hi => ?_, fun j hj => ?_⟩
  · rw [h6]
    by_cases e : i = 3
    · rw [if_pos e, e, folkA_3]
    · rw [if_neg e]
      by_cases e2 : i = 28 + A 3
      · rw [if_pos e2, e2, folkA_k]
      · rw [if_neg e2, folkA_n e e2 (by omega) (by omega)]; exact pr.1 i hi
  · rw [h8]
    by_cases e : j = 12 + A 3
    · rw [if_pos e, e, show 33 + (12 + A 3) = 45 + A 3 by omega, folkA_w]
    · rw [if_neg e]
      by_cases e2 : j = 7 + A 3
      · rw [if_pos e2, e2, show 33 + (7 + A 3) = 40 + A 3 by omega, folkA_h]
      · rw [if_neg e2, folkA_n (by omega) (by omega) (by omega) (by omega)]; exact pr.2 j hj
theorem r_folkL {K : Mm → Prop} (x : TpX X T) (t0 : TpR X T M0) : ∀ (n p : Nat) (A : AP) (M : Mm), n + A 3 = 6 → StR X T M0 p A M → (∀ M', OR' X T M0 (folkL X T n p A) M' → K M') → l_X12_read_132 K (n + 1) M := by
  intro n
  induction n with
  | zero =>
    intro p A M hn st _
    have := st.2.1.2.2.2.1
    omega
  | succ n ih =>
    intro p A M hn st h
    obtain ⟨l, wq, pr⟩ := st
    have w2 := wq.2.2.1
    have w3 := wq.2.2.2.1
    have tl := tkn_lt (X := X) (T := T) (p := p) x
    have rl := rs_lt (tkn X T p)
    have kl := kd_le (tkn X T p)
    have c1 : (M 0 9 = 1) = (97 ≤ tkn X T p ∧ tkn X T p ≤ 122) := by
      rw [l.2.2.2.2.1, nI_is1 (by omega)]
      exact rs_1 _ tl
    have c5 : (M 0 9 = 5) = (tkn X T p = 256) := by
      rw [l.2.2.2.2.1, nI_is (x := 5) (n := 5) (by omega) (by decide) rfl]
      exact rs_c _ 256 5 tl (Or.inr (Or.inr (Or.inr ⟨rfl, rfl⟩)))
    have l164 : kd (tkn X T p) = 0 → f_X12_read_164 K M := by
      intro z
      unfold f_X12_read_164
      refine br_t l.2.1 ?_
      rw [c5]
      refine br_c (fun q => h M (OR'.ok ?_ ⟨l, wq, pr⟩)) (fun q => ?_)
      · show (if _ then _ else _) = _
        rw [if_pos q]
      · have e : folkL X T (n + 1) p A = (1, p, A) := by
          show (if _ then _ else _) = _
          rw [if_neg q, if_pos z]
        exact s_wrong (e := 1) l (by omega) rfl (fun M' fa _ _ => h M' (OR'.no e fa))
    rw [l_X12_read_132]
    refine br_t l.2.1 ?_
    rw [c1]
    by_cases lt : 97 ≤ tkn X T p ∧ tkn X T p ≤ 122
    · have ev : M 0 10 = nI (tkn X T p) := by rw [l.2.2.2.2.2.1, rv_let x lt]
      refine br_t lt ?_
      rw [ev, e_kindR (by omega), nI_is0 (by omega)]
      refine br_c (fun z => l164 z) (fun z => ?_)
      have nn := nd_of x (c := tkn X T p) rfl (by omega)
      have m63 : M 6 (3 : Int32).toNatClampNeg = nI (A 3) := pr.1 3 (by omega)
      unfold f_X12_one
      rw [m63, nI_is (x := 5) (n := 5) (by omega) (by decide) rfl, ev, e_kindR (by omega), c_add (c := 28) (n := 28) rfl]
      refine br_c (fun q5 => ?_) (fun q5 => ⟨vp_nI (by omega) (by decide), fun M15 e15 => ?_⟩)
      · have e : folkL X T (n + 1) p A = (3, p, A) := by
          show (if _ then _ else _) = _
          rw [if_neg (by omega), if_neg z, if_pos q5]
        exact s_wrong (e := 3) l (by omega) rfl (fun M' fa _ _ => d_132 fa (h M' (OR'.no e fa)) n)
      · rw [nI_cl (by omega)] at e15
        have e : folkL X T (n + 1) p A = bnd (nO X T 0 (A 2) (p + 1) A) (fun p2 _ => bnd (eO X T 44 p2 A) (fun p3 _ => bnd (nO X T 0 1 p3 A) (fun p4 _ => bnd (eO X T 59 p4 (folkA A (kd (tkn X T p)) (vl X T (p + 1)) (vl X T p3))) (fun p5 A5 => folkL X T n p5 A5)))) := by
          show (if _ then _ else _) = _
          rw [if_neg (by omega), if_neg z, if_neg q5]
        have l15 : LvR X T M0 p M15 := l.wr (fun k q1 _ => by rw [e15, gU_cell q1])
        refine s_stepR x t0 l15 nn.2.1 nn.2.2 (fun M17 l17 f17 => ?_)
        rw [nn.1] at l17
        have k6 : ∀ i, M17 6 i = if i = 28 + A 3 then nI (kd (tkn X T p)) else M 6 i := fun i => by rw [f17 6 (by omega), e15, gU_now]
        have k8 : M17 8 = M 8 := by rw [f17 8 (by omega), e15, gU_cell (by omega)]
        have k62 : M17 6 (2 : Int32).toNatClampNeg = nI (A 2) := by rw [c_2, k6, if_neg (by omega)]; exact pr.1 2 (by omega)
        have k63 : M17 6 (3 : Int32).toNatClampNeg = nI (A 3) := by rw [c_3, k6, if_neg (by omega)]; exact pr.1 3 (by omega)
        have v7 : vp_in (nI (7 + A 3)) 22 := vp_nI (by omega) (by decide)
        have v12 : vp_in (nI (12 + A 3)) 22 := vp_nI (by omega) (by decide)
        -- dead from here on: what is still written
        have up : ∀ {e' p' : Nat} {A' : AP} (M' : Mm), FaR M0 e' p' M' → (folkL X T (n + 1) p A = (e', p', A')) → ∀ M2 : Mm, M2 = gU M' 6 (3 : Int32).toNatClampNeg (M' 6 (3 : Int32).toNatClampNeg + 1) → l_X12_read_132 K (n + 1) M2 := by
          intro e' p' A' M' fa he M2 e2
          have fa2 := fa.wr (M' := M2) (fun k q1 _ => by rw [e2, gU_cell q1])
          exact d_132 fa2 (h M2 (OR'.no he fa2)) n
        have dead : ∀ {e' p' : Nat} {A' : AP} (M' : Mm), FaR M0 e' p' M' → (M' 6 3 = nI (A 3)) → (folkL X T (n + 1) p A = (e', p', A')) → f_X12_number 0 1 M' (fun r6 M5 => vp_in (12 + M' 6 (3 : Int32).toNatClampNeg) 22 ∧ ∀ M8 : Mm, M8 = gU M5 8 (12 + M' 6 (3 : Int32).toNatClampNeg : Int32).toNatClampNeg r6 → ((((M8 0 9 : Int32) = 4 : Prop) → f_X12_one_118 (fun M10 => l_X12_read_132 K (n + 1) M10) 1 0 M8) ∧ (¬ ((M8 0 9 : Int32) = 4 : Prop) → f_X12_one_118 (fun M10 => l_X12_read_132 K (n + 1) M10) 0 0 M8))) := by
          intro e' p' A' M' fa m3 he
          refine d_num fa (fun v => ?_)
          rw [c_3, m3, c_add (c := 12) (n := 12) rfl]
          refine ⟨v12, fun M8 e8 => ?_⟩
          have fa8 := fa.wr (M' := M8) (fun k _ q2 => by rw [e8, gU_cell q2])
          exact d_sign (f := fun s M' => f_X12_one_118 (fun M10 => l_X12_read_132 K (n + 1) M10) s 0 M') fa8 (fun s => rfl) (up M8 fa8 he)
        rw [k62, k63, c_add (c := 7) (n := 7) rfl, nI_cl (by omega)]
        refine s_numR (lo := 0) (hi := A 2) x t0 l17 (by omega) (by omega) rfl rfl (fun q2 b M18 l18 f18 => ⟨v7, fun M21 e21 => ?_⟩) (fun q2 b v M18 fa f18 => ⟨v7, fun M21 e21 => ?_⟩) (fun q2 v M18 fa f18 => ⟨v7, fun M21 e21 => ?_⟩)
        · have l21 : LvR X T M0 (p + 1 + wd X T (p + 1)) M21 := l18.wr (fun k _ q2 => by rw [e21, gU_cell q2])
          have s3 : (M21 0 9 = 3) = (tkn X T (p + 1 + wd X T (p + 1)) = 44) := by
            have tl' := tkn_lt (X := X) (T := T) (p := p + 1 + wd X T (p + 1)) x
            have rl' := rs_lt (tkn X T (p + 1 + wd X T (p + 1)))
            rw [l21.2.2.2.2.1, nI_is (x := 3) (n := 3) (by omega) (by decide) rfl]
            exact rs_c _ 44 3 tl' (Or.inr (Or.inl ⟨rfl, rfl⟩))
          have g21 : M21 6 = M17 6 := by rw [e21, gU_cell (by omega), f18 6 (by omega)]
          refine s_sign (c := 44) (f := fun s M' => f_X12_one_80 (fun M10 => l_X12_read_132 K (n + 1) M10) s 0 M') x t0 l21 (by omega) s3 (fun s => rfl) (fun q3 M4 l4 f4 => ?_) (fun q3 M4 fa f4 => dead M4 fa (by rw [f4 6 (by omega), g21]; exact k63) (A' := A) (by rw [e, nO_t q2 b, bnd_0, eO_f q3, bnd_e (by omega)]))
          have m43 : M4 6 (3 : Int32).toNatClampNeg = nI (A 3) := by rw [f4 6 (by omega), g21]; exact k63
          rw [m43, c_add (c := 12) (n := 12) rfl, nI_cl (by omega)]
          refine s_numR (lo := 0) (hi := 1) x t0 l4 (by omega) (by omega) rfl rfl (fun q4 b4 M5 l5 f5 => ⟨v12, fun M8 e8 => ?_⟩) (fun q4 b4 v M5 fa f5 => ⟨v12, fun M8 e8 => ?_⟩) (fun q4 v M5 fa f5 => ⟨v12, fun M8 e8 => ?_⟩)
          · have l8 : LvR X T M0 (p + 1 + wd X T (p + 1) + 1 + wd X T (p + 1 + wd X T (p + 1) + 1)) M8 := l5.wr (fun k _ q2 => by rw [e8, gU_cell q2])
            refine s_sign (c := 59) (f := fun s M' => f_X12_one_118 (fun M10 => l_X12_read_132 K (n + 1) M10) s 0 M') x t0 l8 (by omega) (sort4 x l8) (fun s => rfl) (fun q6 M1 l1 f1 M2 e2 => ?_) (fun q6 M1 fa f1 => up M1 fa (A' := folkA A (kd (tkn X T p)) (vl X T (p + 1)) (vl X T (p + 1 + wd X T (p + 1) + 1))) (by rw [e, nO_t q2 b, bnd_0, eO_t q3, bnd_0, nO_t q4 b4, bnd_0, eO_f q6, bnd_e (by omega)]))
            have g1 : M1 6 = M17 6 := by rw [f1 6 (by omega), e8, gU_cell (by omega), f5 6 (by omega), f4 6 (by omega), g21]
            have m13 : M1 6 3 = nI (A 3) := by rw [g1]; exact k63
            rw [c_3, m13, nI_1] at e2
            rw [e, nO_t q2 b, bnd_0, eO_t q3, bnd_0, nO_t q4 b4, bnd_0, eO_t q6, bnd_0] at h
            refine ih _ _ M2 (by rw [folkA_3]; omega) ⟨l1.wr (fun k q1 _ => by rw [e2, gU_cell q1]), wq.folk (by omega) ⟨by omega, kl⟩ b.2 b4.2, pr.folk (by omega) (fun i => ?_) (fun i => ?_)⟩ h
            · rw [e2, gU_now, g1, k6]
            · rw [e2, gU_cell (by omega), f1 8 (by omega), e8, gU_now, f5 8 (by omega), f4 8 (by omega), e21, gU_now, f18 8 (by omega), k8]
          · have fa8 := fa.wr (M' := M8) (fun k _ q2 => by rw [e8, gU_cell q2])
            exact d_sign (f := fun s M' => f_X12_one_118 (fun M10 => l_X12_read_132 K (n + 1) M10) s 0 M') fa8 (fun s => rfl) (up M8 fa8 (A' := A) (by rw [e, nO_t q2 b, bnd_0, eO_t q3, bnd_0, nO_2 q4 b4, bnd_e (by omega)]))
          · have fa8 := fa.wr (M' := M8) (fun k _ q2 => by rw [e8, gU_cell q2])
            exact d_sign (f := fun s M' => f_X12_one_118 (fun M10 => l_X12_read_132 K (n + 1) M10) s 0 M') fa8 (fun s => rfl) (up M8 fa8 (A' := A) (by rw [e, nO_t q2 b, bnd_0, eO_t q3, bnd_0, nO_1 q4, bnd_e (by omega)]))
        · have fa21 := fa.wr (M' := M21) (fun k _ q2 => by rw [e21, gU_cell q2])
          have m3 : M21 6 3 = nI (A 3) := by rw [e21, gU_cell (by omega), f18 6 (by omega)]; exact k63
          exact d_sign (f := fun s M' => f_X12_one_80 (fun M10 => l_X12_read_132 K (n + 1) M10) s 0 M') fa21 (fun s => rfl) (dead M21 fa21 m3 (A' := A) (by rw [e, nO_2 q2 b, bnd_e (by omega)]))
        · have fa21 := fa.wr (M' := M21) (fun k _ q2 => by rw [e21, gU_cell q2])
          have m3 : M21 6 3 = nI (A 3) := by rw [e21, gU_cell (by omega), f18 6 (by omega)]; exact k63
          exact d_sign (f := fun s M' => f_X12_one_80 (fun M10 => l_X12_read_132 K (n + 1) M10) s 0 M') fa21 (fun s => rfl) (dead M21 fa21 m3 (A' := A) (by rw [e, nO_1 q2, bnd_e (by omega)]))
    · refine br_f lt (l164 ?_)
      by_cases z : kd (tkn X T p) = 0
      · exact z
      · have := kd_pos z; omega
end
