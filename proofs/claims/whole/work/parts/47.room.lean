/-- the fewest moves: the walls set one behind the other, from the left, and from the right -/
def ds (p x : Nat) : Nat := if x ≤ p then p - x else x - p
theorem ds_le {p x n : Nat} (hp : p ≤ n) (hx : x ≤ n) : ds p x ≤ n := by unfold ds; split <;> omega
def Qs (A : AP) (k : Nat) : Nat → Nat → Nat → Prop
  | 0, _, s => s = 0
  | w + 1, p, s => ∃ t s', k ≤ t ∧ t ≤ p ∧ Qs A k w (t - k) s' ∧ s = s' + ds t (A (34 + w))
def Ps (A : AP) (k : Nat) : Nat → Nat → Nat → Prop
  | 0, p, s => p + k ≤ A 0 ∧ s = 0
  | j + 1, p, s => ∃ t s', p + k ≤ t ∧ t < A 0 ∧ Ps A k j t s' ∧ s = ds t (A (34 + (A 2 - 1 - j))) + s'
theorem Qs.mono {A : AP} {k : Nat} : ∀ {w p p' s : Nat}, Qs A k w p s → p ≤ p' → Qs A k w p' s
  | 0, _, _, _, h, _ => h
  | _ + 1, _, _, _, ⟨t, s', h1, h2, h3, h4⟩, hp => ⟨t, s', h1, by omega, h3, h4⟩
theorem Ps.mono {A : AP} {k : Nat} : ∀ {j p p' s : Nat}, Ps A k j p s → p' ≤ p → Ps A k j p' s
  | 0, _, _, _, h, hp => ⟨by have := h.1; omega, h.2⟩
  | _ + 1, _, _, _, ⟨t, s', h1, h2, h3, h4⟩, hp => ⟨t, s', by omega, h2, h3, h4⟩
theorem Ps.lt {A : AP} {k : Nat} : ∀ {j p s : Nat}, Ps A k j p s → p + k ≤ A 0
  | 0, _, _, h => h.1
  | _ + 1, _, _, ⟨t, s', h1, h2, h3, h4⟩ => by omega
def Js (A : AP) (k w s : Nat) : Prop := ∃ p s1 s2, Qs A k w p s1 ∧ Ps A k (A 2 - w) p s2 ∧ s = s1 + s2
theorem Js.up {A : AP} {k w s : Nat} (hw : w < A 2) (h : Js A k w s) : Js A k (w + 1) s := by
  obtain ⟨p, s1, s2, h1, h2, h3⟩ := h
  rw [show A 2 - w = (A 2 - (w + 1)) + 1 by omega] at h2
  obtain ⟨t, s', a1, a2, a3, a4⟩ := h2
  rw [show A 2 - 1 - (A 2 - (w + 1)) = w by omega] at a4
  exact ⟨t, s1 + ds t (A (34 + w)), s', ⟨t, s1, by omega, Nat.le_refl _, h1.mono (by omega), rfl⟩, a3, by omega⟩
theorem Js.down {A : AP} {k w s : Nat} (hk : 1 ≤ k) (hw : w < A 2) (h : Js A k (w + 1) s) : Js A k w s := by
  obtain ⟨p, s1, s2, ⟨t, s', a1, a2, a3, a4⟩, h2, h3⟩ := h
  have lt := h2.lt
  refine ⟨t - k, s', ds t (A (34 + w)) + s2, a3, ?_, by omega⟩
  rw [show A 2 - w = (A 2 - (w + 1)) + 1 by omega]
  refine ⟨t, s2, by omega, by omega, h2.mono a2, ?_⟩
  rw [show A 2 - 1 - (A 2 - (w + 1)) = w by omega]
theorem Js.all {A : AP} {k s : Nat} (hk : 1 ≤ k) : ∀ j w, w + j = A 2 → (Js A k 0 s ↔ Js A k w s) := by
  intro j w
  induction w generalizing j with
  | zero => intro _; exact Iff.rfl
  | succ w ih => intro h; exact (ih (j + 1) (by omega)).trans ⟨Js.up (by omega), Js.down hk (by omega)⟩
theorem join_PQ {A : AP} {k s : Nat} (hk : 1 ≤ k) : Ps A k (A 2) 0 s ↔ (k ≤ A 0 ∧ Qs A k (A 2) (A 0 - k) s) := by
  have h := Js.all (A := A) (k := k) (s := s) hk 0 (A 2) (by omega)
  constructor
  · intro hp
    obtain ⟨p, s1, s2, h1, h2, h3⟩ := h.mp ⟨0, 0, s, rfl, by rw [Nat.sub_zero]; exact hp, by omega⟩
    rw [Nat.sub_self] at h2
    have := h2.1
    refine ⟨by omega, ?_⟩
    rw [show s = s1 by have := h2.2; omega]
    exact h1.mono (by omega)
  · rintro ⟨hk2, hq⟩
    obtain ⟨p, s1, s2, h1, h2, h3⟩ := h.mpr ⟨A 0 - k, s, 0, hq, by rw [Nat.sub_self]; exact ⟨by omega, rfl⟩, by omega⟩
    rw [Nat.sub_zero] at h2
    have e : s1 = 0 := h1
    rw [show s = s2 by omega]
    exact h2.mono (by omega)
theorem Qs.le {A : AP} {k : Nat} (h34 : ∀ w, w < A 2 → A (34 + w) ≤ 24) : ∀ {w p s : Nat}, w ≤ A 2 → p ≤ 24 → Qs A k w p s → s ≤ 24 * w
  | 0, _, s, _, _, h => by have : s = 0 := h; omega
  | w + 1, p, s, hw, hp, ⟨t, s', h1, h2, h3, h4⟩ => by
    have ih := Qs.le h34 (by omega) (show t - k ≤ 24 by omega) h3
    have := ds_le (p := t) (x := A (34 + w)) (n := 24) (by omega) (h34 w (by omega))
    omega
/-- the class's row -/
def mnF (g : Nat → Nat) : Nat → Nat
  | 0 => g 0
  | p + 1 => if mnF g p < g (p + 1) then mnF g p else g (p + 1)
def gvF (A : AP) (k w : Nat) (F : Nat → Nat) (q : Nat) : Nat := if k ≤ q then F (q - k) + ds q (A (34 + w)) else 1000000
def FwV (A : AP) (k : Nat) : Nat → Nat → Nat
  | 0 => fun _ => 0
  | w + 1 => mnF (gvF A k w (FwV A k w))
theorem mnF_le (g : Nat → Nat) : ∀ p q, q ≤ p → mnF g p ≤ g q
  | 0, q, h => by rw [show q = 0 by omega]; exact Nat.le_refl _
  | p + 1, q, h => by
    have ih := mnF_le g p
    unfold mnF
    by_cases e : q = p + 1
    · subst e; split <;> omega
    · have := ih q (by omega)
      split <;> omega
theorem mnF_ex (g : Nat → Nat) : ∀ p, ∃ q, q ≤ p ∧ mnF g p = g q
  | 0 => ⟨0, Nat.le_refl _, rfl⟩
  | p + 1 => by
    obtain ⟨q, h1, h2⟩ := mnF_ex g p
    unfold mnF
    by_cases e : mnF g p < g (p + 1)
    · rw [if_pos e]; exact ⟨q, by omega, h2⟩
    · rw [if_neg e]; exact ⟨p + 1, Nat.le_refl _, rfl⟩
theorem FwV_le {A : AP} {k : Nat} (h34 : ∀ w, w < A 2 → A (34 + w) ≤ 24) : ∀ w, w ≤ A 2 → ∀ p, p ≤ 24 → FwV A k w p ≤ 1000000 + 24 * w
  | 0, _, p, _ => Nat.zero_le _
  | w + 1, hw, p, hp => by
    obtain ⟨q, h1, h2⟩ := mnF_ex (gvF A k w (FwV A k w)) p
    show mnF (gvF A k w (FwV A k w)) p ≤ _
    rw [h2]
    unfold gvF
    by_cases e : k ≤ q
    · rw [if_pos e]
      have ih := FwV_le (k := k) h34 w (by omega) (q - k) (by omega)
      have := ds_le (p := q) (x := A (34 + w)) (n := 24) (by omega) (h34 w (by omega))
      omega
    · rw [if_neg e]; omega
theorem FwV_min {A : AP} {k : Nat} : ∀ w p s, Qs A k w p s → FwV A k w p ≤ s
  | 0, _, _, _ => Nat.zero_le _
  | w + 1, p, s, ⟨t, s', h1, h2, h3, h4⟩ => by
    have ih := FwV_min w (t - k) s' h3
    have := mnF_le (gvF A k w (FwV A k w)) p t h2
    unfold gvF at this
    rw [if_pos h1] at this
    show mnF (gvF A k w (FwV A k w)) p ≤ s
    unfold gvF
    omega
theorem FwV_is {A : AP} {k : Nat} : ∀ w p, FwV A k w p < 1000000 → Qs A k w p (FwV A k w p)
  | 0, _, _ => rfl
  | w + 1, p, h => by
    obtain ⟨q, h1, h2⟩ := mnF_ex (gvF A k w (FwV A k w)) p
    have h : mnF (gvF A k w (FwV A k w)) p < 1000000 := h
    show Qs A k (w + 1) p (mnF (gvF A k w (FwV A k w)) p)
    rw [h2] at h ⊢
    unfold gvF at h ⊢
    by_cases e : k ≤ q
    · rw [if_pos e] at h ⊢
      exact ⟨q, FwV A k w (q - k), e, h1, FwV_is w (q - k) (by omega), rfl⟩
    · rw [if_neg e] at h; omega
/-- the reference's rows -/
def mbF (g : Nat → Nat) (lo : Nat) : Nat → Nat
  | 0 => 100000
  | i + 1 => if mbF g lo i ≤ g (lo + i) then mbF g lo i else g (lo + i)
def BwV (A : AP) (k : Nat) : Nat → Nat → Nat
  | 0 => fun p => if p + k ≤ A 0 then 0 else 100000
  | j + 1 => fun p => mbF (fun t => ds t (A (34 + (A 2 - 1 - j))) + BwV A k j t) (p + k) (A 0 - (p + k))
theorem mbF_le (g : Nat → Nat) (lo : Nat) : ∀ n, mbF g lo n ≤ 100000 ∧ ∀ i, i < n → mbF g lo n ≤ g (lo + i)
  | 0 => ⟨Nat.le_refl _, fun i h => by omega⟩
  | n + 1 => by
    have ih := mbF_le g lo n
    unfold mbF
    refine ⟨by split <;> omega, fun i hi => ?_⟩
    by_cases e : i = n
    · subst e; split <;> omega
    · have := ih.2 i (by omega)
      split <;> omega
theorem mbF_ex (g : Nat → Nat) (lo : Nat) : ∀ n, mbF g lo n = 100000 ∨ ∃ i, i < n ∧ mbF g lo n = g (lo + i)
  | 0 => Or.inl rfl
  | n + 1 => by
    unfold mbF
    by_cases e : mbF g lo n ≤ g (lo + n)
    · rw [if_pos e]
      rcases mbF_ex g lo n with h | ⟨i, h1, h2⟩
      · exact Or.inl h
      · exact Or.inr ⟨i, by omega, h2⟩
    · rw [if_neg e]; exact Or.inr ⟨n, by omega, rfl⟩
theorem BwV_le {A : AP} {k : Nat} : ∀ j p, BwV A k j p ≤ 100000
  | 0, p => by
    show (if p + k ≤ A 0 then 0 else 100000) ≤ 100000
    split <;> omega
  | j + 1, p => (mbF_le _ _ _).1
theorem BwV_min {A : AP} {k : Nat} : ∀ j p s, Ps A k j p s → BwV A k j p ≤ s
  | 0, p, s, h => by
    show (if p + k ≤ A 0 then 0 else 100000) ≤ s
    rw [if_pos h.1]; omega
  | j + 1, p, s, ⟨t, s', h1, h2, h3, h4⟩ => by
    have ih := BwV_min j t s' h3
    have := (mbF_le (fun t => ds t (A (34 + (A 2 - 1 - j))) + BwV A k j t) (p + k) (A 0 - (p + k))).2 (t - (p + k)) (by omega)
    rw [show p + k + (t - (p + k)) = t by omega] at this
    show mbF _ _ _ ≤ s
    have h5 : mbF (fun t => ds t (A (34 + (A 2 - 1 - j))) + BwV A k j t) (p + k) (A 0 - (p + k)) ≤ ds t (A (34 + (A 2 - 1 - j))) + BwV A k j t := this
    omega
theorem BwV_is {A : AP} {k : Nat} : ∀ j p, BwV A k j p < 100000 → Ps A k j p (BwV A k j p)
  | 0, p, h => by
    have h : (if p + k ≤ A 0 then 0 else 100000) < 100000 := h
    show p + k ≤ A 0 ∧ (if p + k ≤ A 0 then 0 else 100000) = 0
    by_cases e : p + k ≤ A 0
    · rw [if_pos e]; exact ⟨e, rfl⟩
    · rw [if_neg e] at h; omega
  | j + 1, p, h => by
    rcases mbF_ex (fun t => ds t (A (34 + (A 2 - 1 - j))) + BwV A k j t) (p + k) (A 0 - (p + k)) with e | ⟨i, h1, h2⟩
    · have h : mbF (fun t => ds t (A (34 + (A 2 - 1 - j))) + BwV A k j t) (p + k) (A 0 - (p + k)) < 100000 := h
      omega
    · have h : mbF (fun t => ds t (A (34 + (A 2 - 1 - j))) + BwV A k j t) (p + k) (A 0 - (p + k)) < 100000 := h
      show Ps A k (j + 1) p (mbF (fun t => ds t (A (34 + (A 2 - 1 - j))) + BwV A k j t) (p + k) (A 0 - (p + k)))
      rw [h2] at h ⊢
      have h : ds (p + k + i) (A (34 + (A 2 - 1 - j))) + BwV A k j (p + k + i) < 100000 := h
      exact ⟨p + k + i, BwV A k j (p + k + i), by omega, by omega, BwV_is j _ (by omega), rfl⟩
def roomV (A : AP) (k : Nat) : Int32 := if k ≤ A 0 ∧ FwV A k (A 2) (A 0 - k) < 1000000 then nI (FwV A k (A 2) (A 0 - k)) else -1000000
theorem room_eq {A : AP} {k : Nat} (hk : 1 ≤ k) (s0 : A 0 ≤ 24) (s2 : A 2 ≤ 5) (h34 : ∀ w, w < A 2 → A (34 + w) ≤ 24) : roomV A k = if BwV A k (A 2) 0 < 100000 then nI (BwV A k (A 2) 0) else -1000000 := by
  unfold roomV
  by_cases hb : BwV A k (A 2) 0 < 100000
  · rw [if_pos hb]
    have hp := BwV_is (A := A) (k := k) (A 2) 0 hb
    obtain ⟨h1, h2⟩ := (join_PQ hk).mp hp
    have h3 := FwV_min _ _ _ h2
    rw [if_pos ⟨h1, by omega⟩]
    have h4 := FwV_is (A := A) (k := k) (A 2) (A 0 - k) (by omega)
    have h5 := BwV_min _ _ _ ((join_PQ hk).mpr ⟨h1, h4⟩)
    congr 1
    omega
  · rw [if_neg hb, if_neg]
    rintro ⟨h1, h2⟩
    have h4 := FwV_is (A := A) (k := k) (A 2) (A 0 - k) h2
    have h5 := BwV_min _ _ _ ((join_PQ hk).mpr ⟨h1, h4⟩)
    have h6 := Qs.le h34 (Nat.le_refl _) (by omega) h4
    omega
theorem abs_ds {p x : Nat} (hp : p < 1000) (hx : x < 1000) : (if 0 ≤ (nI p - nI x : Int32) then nI p - nI x else 0 - (nI p - nI x)) = nI (ds p x) := by
  unfold ds
  by_cases h : x ≤ p
  · rw [if_pos h, pk_sub h, if_pos (by rw [le_I, nI_I (by omega)]; show (0 : Int) ≤ _; omega)]
  · rw [if_neg h, if_neg]
    · apply nI_eqI
      have e : (nI p - nI x).toInt = (p : Int) - x := by
        rw [i_sub (by rw [nI_I (by omega), nI_I (by omega)]; omega) (by rw [nI_I (by omega), nI_I (by omega)]; omega), nI_I (by omega), nI_I (by omega)]
      have z : (0 : Int32).toInt = 0 := rfl
      rw [i_sub (by rw [e, z]; omega) (by rw [e, z]; omega), e, z]
      omega
    · rw [le_I, i_sub (by rw [nI_I (by omega), nI_I (by omega)]; omega) (by rw [nI_I (by omega), nI_I (by omega)]; omega), nI_I (by omega), nI_I (by omega)]
      show ¬ (0 : Int) ≤ _
      omega
theorem s_room {M : Mm} {A : AP} {k : Nat} (pc : PapC M 26 A) (w : WF A) (hk : 1 ≤ k ∧ k ≤ 8) {K : Int32 → Mm → Prop} (h : ∀ M' : Mm, (∀ q, q ≠ 63 → M' q = M q) → K (roomV A k) M') : f_X4_fewestMoves (nI k) M K := by
  have s0 := w.1.2
  have s00 := w.1.1
  have s2 := w.2.2.1
  have h34 : ∀ u, u < A 2 → A (34 + u) ≤ 24 := fun u hu => by have := (w.2.2.2.2.2.2.2.1 u hu).2; omega
  have m8 : ∀ M1 : Mm, (∀ q, q ≠ 63 → M1 q = M q) → M1 26 8 = nI (A 0) := fun M1 h1 => by rw [h1 26 (by omega)]; exact pc.1.2.1
  have m9 : ∀ M1 : Mm, (∀ q, q ≠ 63 → M1 q = M q) → M1 26 9 = nI (A 2) := fun M1 h1 => by rw [h1 26 (by omega)]; exact pc.1.2.2.1
  have L10 : ∀ (j u : Nat) (M1 : Mm), u + j = A 2 → (∀ q, q ≠ 63 → M1 q = M q) → (∀ p, p ≤ A 0 → M1 63 p = nI (FwV A k u p)) → l_X4_fewestMoves_10 K (nI k) (j + 1) (nI u) M1 := by
    intro j
    induction j with
    | zero =>
      intro u M1 hu h1 hF
      have hK := h M1 h1
      have eu : u = A 2 := by omega
      subst eu
      rw [l_X4_fewestMoves_10, m8 M1 h1, m9 M1 h1]
      refine br_t (by rw [le_I]; exact Int.le_refl _) (br_c (fun q => ?_) (fun q => ?_))
      · rw [lt_I, i_sub (by rw [nI_I (by omega), nI_I (by omega)]; omega) (by rw [nI_I (by omega), nI_I (by omega)]; omega), nI_I (by omega), nI_I (by omega)] at q
        have q : (A 0 : Int) - k < 0 := q
        unfold roomV at hK
        rw [if_neg (fun z => by have := z.1; omega)] at hK
        exact hK
      · rw [lt_I, i_sub (by rw [nI_I (by omega), nI_I (by omega)]; omega) (by rw [nI_I (by omega), nI_I (by omega)]; omega), nI_I (by omega), nI_I (by omega)] at q
        have q : ¬ (A 0 : Int) - k < 0 := q
        have fl := FwV_le (k := k) h34 (A 2) (Nat.le_refl _) (A 0 - k) (by omega)
        rw [pk_sub (by omega), nI_cl (by omega), hF (A 0 - k) (by omega), nI_leL (x := 1000000) (n := 1000000) (by omega) (by decide) rfl]
        refine ⟨vp_nI (by omega) (by decide), br_c (fun z => ?_) (fun z => ?_)⟩
        · unfold roomV at hK
          rw [if_neg (fun y => by have := y.2; omega)] at hK
          exact hK
        · unfold roomV at hK
          rw [if_pos ⟨by omega, by omega⟩] at hK
          exact hK
    | succ j ih =>
      intro u M1 hu h1 hF
      -- the least so far
      have L80 : ∀ (i p : Nat) (M2 : Mm), p + i = A 0 + 1 → 1 ≤ p → (∀ q, q ≠ 63 → M2 q = M q) → (∀ q, q ≤ A 0 → M2 63 q = nI (if q < p then FwV A k (u + 1) q else gvF A k u (FwV A k u) q)) → l_X4_fewestMoves_80 K (fun a0 a => l_X4_fewestMoves_10 K (nI k) (j + 1) a0 a) (nI k) (nI u) (i + 1) (nI p) M2 := by
        intro i
        induction i with
        | zero =>
          intro p M2 hp hp1 h2 hG
          rw [l_X4_fewestMoves_80, m8 M2 h2, nI_1]
          refine br_t (by rw [lt_I, nI_I (by omega), nI_I (by omega)]; omega) (ih (u + 1) M2 (by omega) h2 (fun q hq => ?_))
          rw [hG q hq, if_pos (by omega)]
        | succ i ihi =>
          intro p M2 hp hp1 h2 hG
          have fl := FwV_le (k := k) h34 (u + 1) (by omega) (p - 1) (by omega)
          have gl : gvF A k u (FwV A k u) p ≤ 1000000 + 24 * (u + 1) := by
            unfold gvF
            by_cases e : k ≤ p
            · rw [if_pos e]
              have := FwV_le (k := k) h34 u (by omega) (p - k) (by omega)
              have := ds_le (p := p) (x := A (34 + u)) (n := 24) (by omega) (h34 u (by omega))
              omega
            · rw [if_neg e]; omega
          have e1 : M2 63 (p - 1) = nI (FwV A k (u + 1) (p - 1)) := by rw [hG (p - 1) (by omega), if_pos (by omega)]
          have e2 : M2 63 p = nI (gvF A k u (FwV A k u) p) := by rw [hG p (by omega), if_neg (by omega)]
          have nxp : FwV A k (u + 1) p = if FwV A k (u + 1) (p - 1) < gvF A k u (FwV A k u) p then FwV A k (u + 1) (p - 1) else gvF A k u (FwV A k u) p := by
            obtain ⟨y, rfl⟩ : ∃ y, p = y + 1 := ⟨p - 1, by omega⟩
            rfl
          rw [l_X4_fewestMoves_80, m8 M2 h2, nI_1 p, show (1 : Int32) = nI 1 from rfl, pk_sub hp1, nI_cl (by omega), nI_cl (by omega), e1, e2]
          refine br_f (by rw [lt_I, nI_I (by omega), nI_I (by omega)]; omega) ⟨vp_nI (by omega) (by decide), vp_nI (by omega) (by decide), fun M4 e4 => ihi (p + 1) M4 (by omega) (by omega) (fun q hq => by rw [e4, gU_cell hq]; exact h2 q hq) (fun q hq => ?_)⟩
          rw [e4, gU_now]
          by_cases e : q = p
          · have e5 : (if p < p + 1 then FwV A k (u + 1) p else gvF A k u (FwV A k u) p) = FwV A k (u + 1) p := if_pos (by omega)
            rw [if_pos e, e, e5, nxp]
            by_cases z : FwV A k (u + 1) (p - 1) < gvF A k u (FwV A k u) p
            · have z' : nI (FwV A k (u + 1) (p - 1)) < nI (gvF A k u (FwV A k u) p) := by rw [lt_I, nI_I (by omega), nI_I (by omega)]; omega
              rw [if_pos z, if_pos z']
            · have z' : ¬ nI (FwV A k (u + 1) (p - 1)) < nI (gvF A k u (FwV A k u) p) := by rw [lt_I, nI_I (by omega), nI_I (by omega)]; omega
              rw [if_neg z, if_neg z']
          · rw [if_neg e, hG q hq]
            by_cases z : q < p
            · rw [if_pos z, if_pos (by omega)]
            · rw [if_neg z, if_neg (by omega)]
      have L29 : ∀ (m : Nat) (M2 : Mm), m ≤ A 0 + 1 → (∀ q, q ≠ 63 → M2 q = M q) → (∀ q, q ≤ A 0 → M2 63 q = nI (if q < m then FwV A k u q else gvF A k u (FwV A k u) q)) → l_X4_fewestMoves_29 K (fun a0 a => l_X4_fewestMoves_10 K (nI k) (j + 1) a0 a) (nI k) (nI u) (m + 1) (nI m + (-1)) M2 := by
        intro m
        induction m with
        | zero =>
          intro M2 hm h2 hG
          rw [l_X4_fewestMoves_29]
          refine br_t (neg_1 0 rfl) ⟨_, L80 (A 0) 1 M2 (by omega) (Nat.le_refl _) h2 (fun q hq => ?_)⟩
          rw [hG q hq, if_neg (by omega)]
          by_cases z : q < 1
          · rw [if_pos z, show q = 0 by omega]; rfl
          · rw [if_neg z]
        | succ m ihm =>
          intro M2 hm h2 hG
          have l71 : ∀ s : Int32, s = nI (gvF A k u (FwV A k u) m) → f_X4_fewestMoves_71 K (fun a0 a => l_X4_fewestMoves_10 K (nI k) (j + 1) a0 a) (fun a0 a => l_X4_fewestMoves_29 K (fun a0 a => l_X4_fewestMoves_10 K (nI k) (j + 1) a0 a) (nI k) (nI u) (m + 1) a0 a) (nI k) (nI u) (nI m) s (nI m) 63 M2 := by
            intro s hs
            unfold f_X4_fewestMoves_71
            rw [nI_cl (by omega), hs]
            refine ⟨vp_nI (by omega) (by decide), fun M7 e7 => ihm M7 (by omega) (fun q hq => by rw [e7, gU_cell hq]; exact h2 q hq) (fun q hq => ?_)⟩
            rw [e7, gU_now]
            by_cases e : q = m
            · rw [if_pos e, e, if_neg (by omega)]
            · rw [if_neg e, hG q hq]
              by_cases z : q < m
              · rw [if_pos z, if_pos (by omega)]
              · rw [if_neg z, if_neg (by omega)]
          rw [l_X4_fewestMoves_29, pk_m1]
          refine br_f (neg_n (by omega)) (br_c (fun q => l71 _ ?_) (fun q => ?_))
          · rw [lt_I, nI_I (by omega), nI_I (by omega)] at q
            unfold gvF
            rw [if_neg (by omega)]; rfl
          · rw [lt_I, nI_I (by omega), nI_I (by omega)] at q
            have m2 : M2 (26 + 2) u = nI (A (34 + u)) := by rw [h2 28 (by omega)]; exact pc.2.2.1 u (by omega)
            have a24 := h34 u (by omega)
            rw [pk_sub (by omega), nI_cl (by omega), nI_cl (by omega), m2, abs_ds (by omega) (by omega), hG (m - k) (by omega), if_pos (by omega), nI_add]
            refine ⟨vp_nI (by omega) (by decide), vp_nI (by omega) (by decide), l71 _ ?_⟩
            unfold gvF
            rw [if_pos (by omega)]
      rw [l_X4_fewestMoves_10, m8 M1 h1, m9 M1 h1]
      refine br_f (by rw [le_I, nI_I (by omega), nI_I (by omega)]; omega) ⟨A 0 + 1 + 1, ?_⟩
      rw [← pk_m1 (A 0)]
      refine L29 (A 0 + 1) M1 (Nat.le_refl _) h1 (fun q hq => ?_)
      rw [if_pos (by omega)]; exact hF q hq
  unfold f_X4_fewestMoves
  refine s_fill (by decide) ⟨A 2 + 1, ?_⟩
  refine L10 (A 2) 0 _ (by omega) (fun q hq => ?_) (fun p hp => ?_)
  · unfold va_up
    simp [hq]
  · show va_up M 63 _ 63 p = nI 0
    unfold va_up
    simp [show p < 25 by omega]
    rfl
theorem s_rroom {M : Mm} {A : AP} {k : Nat} (pr : PapR (M 7) (M 9) A) (w : WF A) (hk : 1 ≤ k ∧ k ≤ 8) {K : Int32 → Mm → Prop} (h : ∀ M' : Mm, (∀ q, q ≠ 15 → M' q = M q) → K (if BwV A k (A 2) 0 < 100000 then nI (BwV A k (A 2) 0) else -1000000) M') : ∃ z, l_X12_room_32 K (nI k) (nI (A 2)) z 0 M := by
  have s0 := w.1.2
  have s00 := w.1.1
  have s2 := w.2.2.1
  have h34 : ∀ u, u < A 2 → A (34 + u) ≤ 24 := fun u hu => by have := (w.2.2.2.2.2.2.2.1 u hu).2; omega
  have t0 : ∀ M1 : Mm, (∀ q, q ≠ 15 → M1 q = M q) → M1 7 (0 : Int32).toNatClampNeg = nI (A 0) := fun M1 h1 => by rw [h1 7 (by omega)]; exact pr.1 0 (by omega)
  have L77 : ∀ (u j : Nat) (M1 : Mm), u + j = A 2 → (∀ q, q ≠ 15 → M1 q = M q) → (∀ p, p < 25 → M1 15 (25 * u + p) = nI (BwV A k j p)) → l_X12_room_77 K (nI k) (u + 1) (nI u + (-1)) M1 := by
    intro u
    induction u with
    | zero =>
      intro j M1 hj h1 hB
      have hK := h M1 h1
      have bl := BwV_le (A := A) (k := k) (A 2) 0
      have e0 : M1 15 (0 : Int32).toNatClampNeg = nI (BwV A k (A 2) 0) := by rw [show A 2 = j by omega]; exact hB 0 (by omega)
      rw [l_X12_room_77, e0]
      refine br_t (neg_1 0 rfl) (br_c (fun q => ?_) (fun q => ?_))
      · rw [lt_I, nI_I (by omega)] at q
        have q : (BwV A k (A 2) 0 : Int) < 100000 := q
        rw [if_pos (by omega)] at hK; exact hK
      · rw [lt_I, nI_I (by omega)] at q
        have q : ¬ (BwV A k (A 2) 0 : Int) < 100000 := q
        rw [if_neg (by omega)] at hK; exact hK
    | succ u ihu =>
      intro j M1 hj h1 hB
      have L84 : ∀ (i p : Nat) (M2 : Mm), p + i = 25 → (∀ q, q ≠ 15 → M2 q = M q) → (∀ q, q < 25 → M2 15 (25 * (u + 1) + q) = nI (BwV A k j q)) → (∀ q, q < p → M2 15 (25 * u + q) = nI (BwV A k (j + 1) q)) → l_X12_room_84 K (fun a0 a => l_X12_room_77 K (nI k) (u + 1) a0 a) (nI k) (nI u) (i + 1) (nI p) M2 := by
        intro i
        induction i with
        | zero =>
          intro p M2 hp h2 hB2 hN
          rw [l_X12_room_84, nI_leL (x := 25) (n := 25) (by omega) (by decide) rfl]
          exact br_t (by omega) (ihu (j + 1) M2 (by omega) h2 (fun q hq => hN q (by omega)))
        | succ i ihi =>
          intro p M2 hp h2 hB2 hN
          have nwv : BwV A k (j + 1) p = mbF (fun t => ds t (A (34 + u)) + BwV A k j t) (p + k) (A 0 - (p + k)) := by
            show mbF (fun t => ds t (A (34 + (A 2 - 1 - j))) + BwV A k j t) (p + k) (A 0 - (p + k)) = _
            rw [show A 2 - 1 - j = u by omega]
          have L101 : ∀ (n x : Nat), x + n = A 0 - (p + k) → l_X12_room_101 K (fun a0 a => l_X12_room_77 K (nI k) (u + 1) a0 a) (fun a0 a => l_X12_room_84 K (fun a0 a => l_X12_room_77 K (nI k) (u + 1) a0 a) (nI k) (nI u) (i + 1) a0 a) (nI k) (nI u) (nI p) (n + 1) (nI (mbF (fun t => ds t (A (34 + u)) + BwV A k j t) (p + k) x)) (nI (p + k + x)) M2 := by
            intro n
            induction n with
            | zero =>
              intro x hx
              rw [l_X12_room_101, t0 M2 h2, ix2 (c := 25) 25 u p rfl, nI_cl (by omega), nI_1]
              refine br_t (by rw [le_I, nI_I (by omega), nI_I (by omega)]; omega) ⟨vp_nI (by omega) (by decide), fun M5 e5 => ihi (p + 1) M5 (by omega) (fun q hq => by rw [e5, gU_cell hq]; exact h2 q hq) (fun q hq => ?_) (fun q hq => ?_)⟩
              · rw [e5, gU_now, if_neg (by omega)]; exact hB2 q hq
              · rw [e5, gU_now]
                by_cases e : q = p
                · rw [if_pos (by omega), e, nwv, show x = A 0 - (p + k) by omega]
                · rw [if_neg (by omega)]; exact hN q (by omega)
            | succ n ihn =>
              intro x hx
              have bl := BwV_le (A := A) (k := k) j (p + k + x)
              have a24 := h34 u (by omega)
              have dl := ds_le (p := p + k + x) (x := A (34 + u)) (n := 24) (by omega) a24
              have ml := (mbF_le (fun t => ds t (A (34 + u)) + BwV A k j t) (p + k) x).1
              have nx := ihn (x + 1) (by omega)
              have mx : mbF (fun t => ds t (A (34 + u)) + BwV A k j t) (p + k) (x + 1) = if mbF (fun t => ds t (A (34 + u)) + BwV A k j t) (p + k) x ≤ ds (p + k + x) (A (34 + u)) + BwV A k j (p + k + x) then mbF (fun t => ds t (A (34 + u)) + BwV A k j t) (p + k) x else ds (p + k + x) (A (34 + u)) + BwV A k j (p + k + x) := rfl
              have m1 : M2 9 (1 + u) = nI (A (34 + u)) := by rw [h2 9 (by omega), pr.2 (1 + u) (by omega), show 33 + (1 + u) = 34 + u by omega]
              have l150 : ∀ s : Int32, s = nI (ds (p + k + x) (A (34 + u))) → f_X12_room_150 K (fun a0 a => l_X12_room_77 K (nI k) (u + 1) a0 a) (fun a0 a => l_X12_room_84 K (fun a0 a => l_X12_room_77 K (nI k) (u + 1) a0 a) (nI k) (nI u) (i + 1) a0 a) (fun a0 a1 a => l_X12_room_101 K (fun a0 a => l_X12_room_77 K (nI k) (u + 1) a0 a) (fun a0 a => l_X12_room_84 K (fun a0 a => l_X12_room_77 K (nI k) (u + 1) a0 a) (nI k) (nI u) (i + 1) a0 a) (nI k) (nI u) (nI p) (n + 1) a0 a1 a) (nI k) (nI u) (nI p) (nI (mbF (fun t => ds t (A (34 + u)) + BwV A k j t) (p + k) x)) (nI (p + k + x)) s M2 := by
                intro s hs
                unfold f_X12_room_150
                rw [nI_1, ix2 (c := 25) 25 (u + 1) (p + k + x) rfl, nI_cl (by omega), hB2 (p + k + x) (by omega), hs, nI_add, nI_1]
                refine ⟨vp_nI (by omega) (by decide), br_c (fun q => ?_) (fun q => ?_)⟩
                · rw [le_I, nI_I (by omega), nI_I (by omega)] at q
                  rw [mx, if_pos (by omega)] at nx
                  exact nx
                · rw [le_I, nI_I (by omega), nI_I (by omega)] at q
                  rw [mx, if_neg (by omega)] at nx
                  exact nx
              rw [l_X12_room_101, t0 M2 h2, c_add (c := 1) (n := 1) rfl, nI_cl (by omega), m1]
              refine br_f (by rw [le_I, nI_I (by omega), nI_I (by omega)]; omega) ⟨vp_nI (by omega) (by decide), br_c (fun q => l150 _ ?_) (fun q => l150 _ ?_)⟩
              · rw [le_I, nI_I (by omega), nI_I (by omega)] at q
                rw [pk_sub (by omega)]
                unfold ds
                congr 1
                split <;> omega
              · rw [le_I, nI_I (by omega), nI_I (by omega)] at q
                rw [pk_sub (by omega)]
                unfold ds
                congr 1
                split <;> omega
          rw [l_X12_room_84, nI_leL (x := 25) (n := 25) (by omega) (by decide) rfl, nI_add]
          exact br_f (by omega) ⟨_, L101 (A 0 - (p + k)) 0 (by omega)⟩
      rw [l_X12_room_77, pk_m1]
      refine br_f (neg_n (by omega)) ⟨_, L84 25 0 M1 rfl h1 hB (fun q hq => by omega)⟩
  have L32 : ∀ (i p : Nat) (M1 : Mm), p + i = 25 → (∀ q, q ≠ 15 → M1 q = M q) → (∀ q, q < p → M1 15 (25 * A 2 + q) = nI (BwV A k 0 q)) → l_X12_room_32 K (nI k) (nI (A 2)) (i + 1) (nI p) M1 := by
    intro i
    induction i with
    | zero =>
      intro p M1 hp h1 hB
      rw [l_X12_room_32, nI_leL (x := 25) (n := 25) (by omega) (by decide) rfl, sb_1]
      exact br_t (by omega) ⟨_, L77 (A 2) 0 M1 (by omega) h1 (fun q hq => hB q (by omega))⟩
    | succ i ihi =>
      intro p M1 hp h1 hB
      have l66 : ∀ s : Int32, s = nI (BwV A k 0 p) → f_X12_room_66 K (fun a0 a => l_X12_room_32 K (nI k) (nI (A 2)) (i + 1) a0 a) (nI k) (nI (A 2)) (nI p) s (nI (25 * A 2 + p)) 15 M1 := by
        intro s hs
        unfold f_X12_room_66
        rw [nI_cl (by omega), hs, nI_1]
        refine ⟨vp_nI (by omega) (by decide), fun M5 e5 => ihi (p + 1) M5 (by omega) (fun q hq => by rw [e5, gU_cell hq]; exact h1 q hq) (fun q hq => ?_)⟩
        rw [e5, gU_now]
        by_cases e : q = p
        · rw [if_pos (by omega), e]
        · rw [if_neg (by omega)]; exact hB q (by omega)
      rw [l_X12_room_32, nI_leL (x := 25) (n := 25) (by omega) (by decide) rfl, t0 M1 h1, ix2 (c := 25) 25 (A 2) p rfl]
      refine br_f (by omega) (br_c (fun q => l66 _ ?_) (fun q => l66 _ ?_))
      · rw [lt_I, i_sub (by rw [nI_I (by omega), nI_I (by omega)]; omega) (by rw [nI_I (by omega), nI_I (by omega)]; omega), nI_I (by omega), nI_I (by omega), nI_I (by omega)] at q
        show (100000 : Int32) = nI (if p + k ≤ A 0 then 0 else 100000)
        rw [if_neg (by omega)]; rfl
      · rw [lt_I, i_sub (by rw [nI_I (by omega), nI_I (by omega)]; omega) (by rw [nI_I (by omega), nI_I (by omega)]; omega), nI_I (by omega), nI_I (by omega), nI_I (by omega)] at q
        show (0 : Int32) = nI (if p + k ≤ A 0 then 0 else 100000)
        rw [if_pos (by omega)]; rfl
  exact ⟨_, L32 25 0 M rfl (fun _ _ => rfl) (fun q hq => by omega)⟩
theorem op_room {Mc Mr : Mm} (hI : Inv Mc Mr) (a : Int32) : f_X11_room a Mc (fun r Mc' => f_X12_room a Mr (fun r' Mr' => r = r' ∧ Inv Mc' Mr')) := by
  obtain ⟨-, -, -, -, -, A, hC, hR, -, -, -, hr⟩ := id hI
  have s := hr.sm
  have e1 : (1 : Int32).toInt = 1 := rfl
  have e8 : (8 : Int32).toInt = 8 := rfl
  have t2 : Mr 7 (2 : Int32).toNatClampNeg = nI (A 2) := hR.1 2 (by omega)
  simp only [f_X11_room, f_X12_room, e_noPaper hC s, e_in, br_eq, b2i_0, read_0 hr, lt_I, le_I, e1, e8, t2]
  by_cases h0 : A 0 = 0
  · simp only [if_neg (not_not_intro h0), if_pos h0]; first | exact hI | exact ⟨trivial, hI⟩
  · simp only [if_pos h0, if_neg h0]
    have w := (hr.wf h0).1
    by_cases ha : 1 ≤ a.toInt ∧ a.toInt ≤ 8
    · simp only [if_neg (not_not_intro ha), if_neg (show ¬ a.toInt < 1 by omega), if_pos ha.2]
      obtain ⟨k, hk, rfl⟩ := of_arg (n := 9) (a := a) (by decide) (by omega)
      rw [nI_I (by omega)] at ha
      refine s_room hC w (by omega) (fun M1 h1 => s_rroom hR w (by omega) (fun M2 h2 => ⟨room_eq (by omega) w.1.2 w.2.2.1 (fun u hu => by have := (w.2.2.2.2.2.2.2.1 u hu).2; have := w.1.2; omega), hI.scr (fun k _ _ => h1 k (by omega)) (fun k _ _ _ _ q => h2 k q)⟩))
    · simp only [if_pos ha]
      by_cases ha1 : a.toInt < 1
      · simp only [if_pos ha1]; first | exact hI | exact ⟨trivial, hI⟩
      · simp only [if_neg ha1, if_neg (show ¬ a.toInt ≤ 8 by omega)]; first | exact hI | exact ⟨trivial, hI⟩
