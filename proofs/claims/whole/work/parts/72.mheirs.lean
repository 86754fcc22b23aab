theorem fb_holes : ∀ (m n : Nat) (f : Nat → Nat), (∀ i, i < n → f i < m) → (∀ i j, i < j → j < n → f i ≠ f j) → n ≤ m := by
  intro m
  induction m with
  | zero =>
    intro n f h1 _
    rcases Nat.eq_zero_or_pos n with h | h
    · omega
    · exact absurd (h1 0 h) (Nat.not_lt_zero _)
  | succ m ih =>
    intro n f h1 h2
    by_cases hx : ∃ i, i < n ∧ f i = m
    · obtain ⟨a, ha, hfa⟩ := hx
      have hg := ih (n - 1) (fun i => if i < a then f i else f (i + 1)) (by
        intro i hi
        by_cases q : i < a
        · simp only [if_pos q]
          have b1 := h1 i (by omega)
          have b2 := h2 i a q ha
          omega
        · simp only [if_neg q]
          have b1 := h1 (i + 1) (by omega)
          have b2 := h2 a (i + 1) (by omega) (by omega)
          omega) (by
        intro i j hij hj
        by_cases q : i < a
        · by_cases r : j < a
          · simp only [if_pos q, if_pos r]
            exact h2 i j hij (by omega)
          · simp only [if_pos q, if_neg r]
            exact h2 i (j + 1) (by omega) (by omega)
        · have r : ¬ j < a := by omega
          simp only [if_neg q, if_neg r]
          exact h2 (i + 1) (j + 1) (by omega) (by omega))
      omega
    · have hg := ih n f (fun i hi => by
        have b1 := h1 i hi
        have b2 : f i ≠ m := fun e => hx ⟨i, hi, e⟩
        omega) h2
      omega
/-- two of them in one place -/
theorem fb_twice {m n : Nat} {f : Nat → Nat} (h : ∀ i, i < n → f i < m) (hm : m < n) : ∃ i j, i < j ∧ j < n ∧ f i = f j := by
  refine Classical.byContradiction fun hx => ?_
  have := fb_holes m n f h (fun i j hij hj e => hx ⟨i, j, hij, hj, e⟩)
  omega
/-- as many as places, none twice: each place is taken -/
def stepsV (v : Vw) (r : Nat) : Nat → Nat
  | 0 => r
  | n + 1 => v 7 (32 + stepsV v r n)
theorem steps_next (v : Vw) (r : Nat) : ∀ j, stepsV v (v 7 (32 + r)) j = stepsV v r (j + 1)
  | 0 => rfl
  | j + 1 => by rw [stepsV, steps_next v r j]; rfl
theorem steps_add (v : Vw) {r i j : Nat} (h : stepsV v r i = stepsV v r j) : ∀ t, stepsV v r (i + t) = stepsV v r (j + t)
  | 0 => h
  | t + 1 => by
    show v 7 (32 + stepsV v r (i + t)) = v 7 (32 + stepsV v r (j + t))
    rw [steps_add v h t]
theorem steps_lt {v : Vw} (hI : InvN v) {r : Nat} (hr : r < v 0 0) : ∀ j, stepsV v r j < v 0 0
  | 0 => hr
  | j + 1 => (hI.2.2.2.2.2.2.1 _ (by have := hI.1; have := steps_lt hI hr j; omega)).2.1 (steps_lt hI hr j)
theorem none_gone {v : Vw} : ∀ {k r : Nat}, heirV v k r = none → ∀ j, j < k → goneV v (stepsV v r j) = true
  | 0, _, _, j, hj => absurd hj (Nat.not_lt_zero j)
  | k + 1, r, h, j, hj => by
    rw [heirV] at h
    by_cases g : goneV v r = true
    · rw [if_pos g] at h
      cases j with
      | zero => exact g
      | succ j => rw [← steps_next]; exact none_gone h j (by omega)
    · rw [if_neg g] at h; cases h
theorem six_gone {v : Vw} (hI : InvN v) {r : Nat} (hr : r < v 0 0) (h : heirV v 6 r = none) : goneV v (stepsV v r 6) = true := by
  obtain ⟨i, j, h1, h2, h3⟩ := fb_twice (m := v 0 0) (n := 7) (f := stepsV v r) (fun i _ => steps_lt hI hr i) (by have := hI.1; omega)
  have e := steps_add v h3 (6 - j)
  rw [show j + (6 - j) = 6 by omega] at e
  rw [← e]
  exact none_gone h _ (by omega)
def lastV (v : Vw) : Nat → Nat → Nat
  | 0, r => r
  | k + 1, r => if goneV v r then lastV v k (v 7 (32 + r)) else r
theorem last_some {v : Vw} : ∀ {k r q : Nat}, heirV v k r = some q → lastV v k r = q ∧ goneV v q = false
  | 0, _, _, h => by cases h
  | k + 1, r, q, h => by
    rw [heirV] at h
    rw [lastV]
    by_cases g : goneV v r = true
    · rw [if_pos g] at h ⊢; exact last_some h
    · rw [if_neg g] at h ⊢; cases h; exact ⟨rfl, by simpa using g⟩
theorem last_none {v : Vw} : ∀ {k r : Nat}, heirV v k r = none → lastV v k r = stepsV v r k
  | 0, _, _ => rfl
  | k + 1, r, h => by
    rw [heirV] at h
    rw [lastV]
    by_cases g : goneV v r = true
    · rw [if_pos g] at h ⊢; rw [last_none h, steps_next]
    · rw [if_neg g] at h; cases h
theorem last_lt {v : Vw} (hI : InvN v) : ∀ (k r : Nat), r < v 0 0 → lastV v k r < v 0 0
  | 0, _, h => h
  | k + 1, r, h => by
    rw [lastV]
    split
    · exact last_lt hI k _ ((hI.2.2.2.2.2.2.1 r (by have := hI.1; omega)).2.1 h)
    · exact h
section M
variable {μ : Sg} {v : Vw}
theorem m_gone (hI : InvN v) {r : Nat} (h : r < 6) : pX11_has (nI (v 7 44)) (nI r) = if goneV v r then 1 else 0 := m_has (gone_lt hI) (by omega)
theorem m_who (hR : RmN μ v) (hI : InvN v) {a : Nat} (ha : a < v 0 1) : pX11_whose μ (nI a) = some (whoI (whoV v a)) := by
  obtain ⟨i1, i2, i3, i4, i5, i6⟩ := id hI
  have loop : ∀ (k i r n : Nat), i + k = 6 → k < n → r < v 0 0 → pX11_whose_L9 μ n (nI r) (nI i) = some (nI (lastV v k r)) := by
    intro k
    induction k with
    | zero =>
      intro i r n hi hn hr
      obtain ⟨n, rfl⟩ : ∃ q, n = q + 1 := ⟨n - 1, by omega⟩
      rw [pX11_whose_L9, if_pos (show (6 : Int32) ≤ nI i from nI_le (a := 6) (by omega) (by omega))]
      rfl
    | succ k ih =>
      intro i r n hi hn hr
      obtain ⟨n, rfl⟩ : ∃ q, n = q + 1 := ⟨n - 1, by omega⟩
      rw [pX11_whose_L9, if_neg (show ¬ (6 : Int32) ≤ nI i from nI_ge (b := 6) (by omega) (by decide))]
      simp only [m_gon hR, Option.bind_some, m_gone hI (show r < 6 by omega), m_nxt hR (show r < 6 by omega)]
      rw [lastV]
      cases hg : goneV v r
      · rw [if_pos (by decide)]
        rfl
      · rw [if_neg (by decide), nI_1, ih (i + 1) _ n (by omega) (by omega) ((i6.2.1 r (by omega)).2.1 hr)]
        rfl
  have hl := last_lt hI 6 _ (i4 a ha).1
  have key := loop 6 0 _ 2000 rfl (by omega) (i4 a ha).1
  rw [nI_0] at key
  unfold pX11_whose
  simp only [m_own hR ha i2, Option.bind_some, key, m_gon hR]
  rw [m_gone hI (by omega)]
  unfold whoV
  cases hh : heirV v 6 (v 3 a) with
  | some q =>
    obtain ⟨e1, e2⟩ := last_some hh
    rw [e1, e2]
    rfl
  | none =>
    rw [last_none hh, six_gone hI (i4 a ha).1 hh]
    rfl
theorem m_left (hR : RmN μ v) (hI : InvN v) {a : Nat} (ha : a < v 0 1) : pX11_leftOf μ (nI a) = some (nI (leftV v a)) := by
  obtain ⟨i1, i2, i3, i4, i5, i6⟩ := id hI
  have q := i4 a ha
  have q2 := i6.1 a (by omega)
  unfold pX11_leftOf
  simp only [m_wth hR ha i2, m_age hR (show a < 8 by omega), Option.bind_some]
  unfold leftV
  by_cases e : v 5 a ≤ v 7 (16 + a)
  · rw [if_pos (nI_le e (by omega)), show v 5 a - v 7 (16 + a) = 0 by omega]
    rfl
  · rw [if_neg (nI_ge (by omega) (by omega)), pk_sub (by omega)]
theorem m_est (hR : RmN μ v) (hI : InvN v) {r : Nat} (hr : r < 6) : pX11_estate μ (nI r) = some (nI (estV v r)) := by
  obtain ⟨i1, i2, i3, i4, i5, i6⟩ := id hI
  unfold pX11_estate
  have key := loop_up (fun n (s : Int32 × Int32) => pX11_estate_L4 μ (nI r) n s.1 s.2) (fun i => (nI (sumN (fun a => if liesV v a && decide (whoV v a = some r) then leftV v a else 0) i), nI i)) (v 0 1) (some (nI (estV v r)))
    (by
      intro n i hi
      show pX11_estate_L4 μ (nI r) (n + 1) (nI _) (nI i) = pX11_estate_L4 μ (nI r) n (nI _) (nI (i + 1))
      rw [pX11_estate_L4]
      simp only [m_na hR, Option.bind_some, m_lies hR hI (show i < 8 by omega), m_who hR hI hi, m_left hR hI hi]
      rw [if_neg (nI_ge hi (by omega)), nI_1, sumN]
      cases hl : liesV v i
      · rw [if_pos (by decide), show (0 : Int32) = nI 0 from rfl, nI_add]
        simp
      · rw [if_neg (by decide)]
        by_cases e : whoV v i = some r
        · rw [if_pos ((whoI_eq (by omega) (fun q hq => by have := who_lt hI hi hq; omega)).mpr e), nI_add]
          simp [e]
        · rw [if_neg (fun z => e ((whoI_eq (by omega) (fun q hq => by have := who_lt hI hi hq; omega)).mp z)), show (0 : Int32) = nI 0 from rfl, nI_add]
          simp [e])
    (by
      intro n
      show pX11_estate_L4 μ (nI r) (n + 1) (nI _) (nI (v 0 1)) = _
      rw [pX11_estate_L4]
      simp only [m_na hR, Option.bind_some]
      rw [if_pos (nI_le (Nat.le_refl _) (by omega))]
      rfl) (v 0 1) 0 2000 (by omega) (by omega)
  have key : pX11_estate_L4 μ (nI r) 2000 0 0 = some (nI (estV v r)) := key
  rw [key]
  rfl
theorem m_rop (hR : RmN μ v) {r : Nat} (h : r < 6) : rdA μ 6 12 (nI r) = some (nI (v 6 r)) := by rw [rd_nI (by omega) (by decide), hR.2.2.2.2.2.2.2.1 r h]
theorem m_town (hR : RmN μ v) (hI : InvN v) {r : Nat} (hr : r < 6) : pX11_townOf μ (nI r) = some (nI (townV v r)) := by
  obtain ⟨i1, i2, i3, i4, i5, i6⟩ := id hI
  have hr2 : 2 ^ r < 64 := by
    have : 2 ^ r < 2 ^ 6 := Nat.pow_lt_pow_right (by decide) hr
    omega
  have inner : ∀ (x3 : Int32) (t : Nat), t < 64 → pX11_townOf_L15 μ x3 2000 (nI t) 0 = some (nI (townStep v t (v 0 0))) := by
    intro x3 t ht
    exact loop_up (fun n (s : Int32 × Int32) => pX11_townOf_L15 μ x3 n s.1 s.2) (fun i => (nI (townStep v t i), nI i)) (v 0 0) (some (nI (townStep v t (v 0 0))))
      (by
        intro n i hi
        show pX11_townOf_L15 μ x3 (n + 1) (nI _) (nI i) = pX11_townOf_L15 μ x3 n (nI _) (nI (i + 1))
        have hl := tstep_lt hI ht i (by omega)
        rw [pX11_townOf_L15]
        simp only [m_nr hR, Option.bind_some, m_rop hR (show i < 6 by omega)]
        rw [if_neg (nI_ge hi (by omega)), m_has (by omega) (by omega), nI_1, townStep]
        cases hb : (townStep v t i).testBit i
        · rw [if_pos (by decide), show (0 : Int32) = nI 0 from rfl, fa_or]
          simp
        · rw [if_neg (by decide), fa_or]
          simp)
      (by
        intro n
        show pX11_townOf_L15 μ x3 (n + 1) (nI _) (nI (v 0 0)) = _
        rw [pX11_townOf_L15]
        simp only [m_nr hR, Option.bind_some]
        rw [if_pos (nI_le (Nat.le_refl _) (by omega))]) (v 0 0) 0 2000 (by omega) (by omega)
  have outer := loop_up (fun n (s : Int32 × Int32) => pX11_townOf_L6 μ n s.1 s.2) (fun i => (nI (townK v (2 ^ r) i), nI i)) 6 (some (nI (townV v r)))
    (by
      intro n i hi
      show pX11_townOf_L6 μ (n + 1) (nI _) (nI i) = pX11_townOf_L6 μ n (nI _) (nI (i + 1))
      rw [pX11_townOf_L6, if_neg (show ¬ (6 : Int32) ≤ nI i from nI_ge (b := 6) hi (by decide)), inner _ _ (tk_lt hI hr2 i)]
      simp only [Option.bind_some]
      rw [nI_1]
      rfl)
    (by
      intro n
      show pX11_townOf_L6 μ (n + 1) (nI _) (nI 6) = _
      rw [pX11_townOf_L6, if_pos (show (6 : Int32) ≤ nI 6 from nI_le (Nat.le_refl 6) (by decide))]
      rfl) 6 0 2000 (by omega) (by omega)
  have outer : pX11_townOf_L6 μ 2000 (nI (2 ^ r)) 0 = some (nI (townV v r)) := outer
  unfold pX11_townOf
  rw [m_shl (by omega)]
  simp only [Option.bind_some]
  rw [outer]
  rfl
theorem m_might (hR : RmN μ v) (hI : InvN v) {r : Nat} (hr : r < 6) : pX11_might μ (nI r) = some (nI (mightV v (townV v r))) := by
  obtain ⟨i1, i2, i3, i4, i5, i6⟩ := id hI
  have ht := town_lt hI hr
  unfold pX11_might
  have key := loop_up (fun n (s : Int32 × Int32) => pX11_might_L11 μ (nI (townV v r)) n s.1 s.2) (fun i => (nI (sumN (fun a => if inTown v (townV v r) a then strV v a else 0) i), nI i)) (v 0 1) (some (nI (mightV v (townV v r))))
    (by
      intro n i hi
      show pX11_might_L11 μ (nI (townV v r)) (n + 1) (nI _) (nI i) = pX11_might_L11 μ (nI (townV v r)) n (nI _) (nI (i + 1))
      have q := (i4 i hi).1
      rw [pX11_might_L11]
      simp only [m_na hR, Option.bind_some, m_lies hR hI (show i < 8 by omega), m_own hR hi i2, m_str hR hI hi]
      rw [if_neg (nI_ge hi (by omega)), m_has (by omega) (by omega), nI_1, sumN]
      unfold inTown
      cases hl : liesV v i
      · rw [if_pos (by decide), show (0 : Int32) = nI 0 from rfl, nI_add]
        simp
      · rw [if_neg (by decide)]
        cases hb : (townV v r).testBit (v 3 i)
        · rw [if_pos (by decide), show (0 : Int32) = nI 0 from rfl, nI_add]
          simp
        · rw [if_neg (by decide), nI_add]
          simp)
    (by
      intro n
      show pX11_might_L11 μ (nI (townV v r)) (n + 1) (nI _) (nI (v 0 1)) = _
      rw [pX11_might_L11]
      simp only [m_na hR, Option.bind_some]
      rw [if_pos (nI_le (Nat.le_refl _) (by omega))]
      rfl) (v 0 1) 0 2000 (by omega) (by omega)
  have key : pX11_might_L11 μ (nI (townV v r)) 2000 0 0 = some (nI (mightV v (townV v r))) := key
  rw [m_town hR hI hr]
  simp only [Option.bind_some]
  rw [key]
  rfl
theorem m_hold (hR : RmN μ v) (hI : InvN v) {a : Nat} (ha : a < v 0 1) : pX11_hold μ (nI a) = some (nI (holdC v (v 7 a))) := by
  obtain ⟨i1, i2, i3, i4, i5, i6⟩ := id hI
  have qa := (i6.1 a (by omega)).1
  unfold pX11_hold
  have key := loop_up (fun n (s : Int32 × Int32) => pX11_hold_L4 μ (nI a) n s.1 s.2) (fun i => (nI (sumN (fun o => if liesV v o && v 7 o == v 7 a then strV v o else 0) i), nI i)) (v 0 1) (some (nI (holdC v (v 7 a))))
    (by
      intro n i hi
      show pX11_hold_L4 μ (nI a) (n + 1) (nI _) (nI i) = pX11_hold_L4 μ (nI a) n (nI _) (nI (i + 1))
      have q := (i6.1 i (by omega)).1
      rw [pX11_hold_L4]
      simp only [m_na hR, Option.bind_some, m_lies hR hI (show i < 8 by omega), m_cel hR (show i < 8 by omega), m_cel hR (show a < 8 by omega), m_str hR hI hi]
      rw [if_neg (nI_ge hi (by omega)), nI_1, sumN]
      cases hl : liesV v i
      · rw [if_pos (by decide), show (0 : Int32) = nI 0 from rfl, nI_add]
        simp
      · rw [if_neg (by decide)]
        by_cases e : v 7 i = v 7 a
        · rw [if_pos (by rw [e]), nI_add]
          simp [e]
        · rw [if_neg (fun z => e ((nI_eq (by omega) (by omega)).mp z)), show (0 : Int32) = nI 0 from rfl, nI_add]
          simp [e])
    (by
      intro n
      show pX11_hold_L4 μ (nI a) (n + 1) (nI _) (nI (v 0 1)) = _
      rw [pX11_hold_L4]
      simp only [m_na hR, Option.bind_some]
      rw [if_pos (nI_le (Nat.le_refl _) (by omega))]
      rfl) (v 0 1) 0 2000 (by omega) (by omega)
  have key : pX11_hold_L4 μ (nI a) 2000 0 0 = some (nI (holdC v (v 7 a))) := key
  rw [key]
  rfl
end M
