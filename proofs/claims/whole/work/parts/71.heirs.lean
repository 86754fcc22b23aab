/-! whose the anchors are, estates, towns: both sides over the state as numbers -/
theorem m9_ne {n : Nat} (h : n < 2 ^ 31) : ¬ nI n = (-9 : Int32) := by
  intro e
  have := congrArg Int32.toInt e
  rw [nI_toInt h, show (-9 : Int32).toInt = -9 from rfl] at this
  omega
theorem whoI_eq {o : Option Nat} {r : Nat} (hr : r < 2 ^ 31) (ho : ∀ q, o = some q → q < 2 ^ 31) : whoI o = nI r ↔ o = some r := by
  cases o with
  | none => exact ⟨fun e => absurd e.symm (m9_ne hr), fun e => by cases e⟩
  | some q =>
    have hq := ho q rfl
    exact ⟨fun e => by rw [(nI_eq hq hr).mp e], fun e => by cases e; rfl⟩
theorem heir_lt {v : Vw} (hI : InvN v) : ∀ (k r q : Nat), r < v 0 0 → heirV v k r = some q → q < v 0 0
  | 0, r, q, _, h => by cases h
  | k + 1, r, q, hr, h => by
    rw [heirV] at h
    split at h
    · exact heir_lt hI k _ q ((hI.2.2.2.2.2.2.1 r (by have := hI.1; omega)).2.1 hr) h
    · cases h; exact hr
theorem who_lt {v : Vw} (hI : InvN v) {a q : Nat} (ha : a < v 0 1) (h : whoV v a = some q) : q < v 0 0 := heir_lt hI 6 _ q (hI.2.2.2.1 a ha).1 h
section C
variable {σ : Sg} {v : Vw}
theorem gone_lt {v : Vw} (hI : InvN v) : v 7 44 < 2 ^ 31 := by
  have h := hI.2.2.2.2.2.2.2
  have h1 := hI.1
  have : 2 ^ v 0 0 ≤ 2 ^ 6 := Nat.pow_le_pow_right (by decide) h1
  omega
theorem c_gone0 (hR : RcN σ v) : pX5_goneRafts 20 σ = nI (v 7 44) := by
  unfold pX5_goneRafts
  exact c_get hR (k := 44) (K := 44) (a := 0) rfl (by omega)
theorem c_gone (hR : RcN σ v) (hI : InvN v) {r : Nat} (h : r < 6) : pX5_isGone 20 σ (nI r) = if goneV v r then 1 else 0 := by
  unfold pX5_isGone
  rw [c_gone0 hR, has_nI (gone_lt hI) (by omega)]
  rfl
theorem c_who (hR : RcN σ v) (hI : InvN v) {a : Nat} (ha : a < v 0 1) : pX2_whoseIs σ (nI a) = some (whoI (whoV v a)) := by
  obtain ⟨i1, i2, i3, i4, i5, i6⟩ := id hI
  have loop : ∀ (k i r n : Nat), i + k = 6 → k < n → r < v 0 0 → pX2_whoseIs_L14 σ n (nI r) (nI i) = some (whoI (heirV v k r)) := by
    intro k
    induction k with
    | zero =>
      intro i r n hi hn hr
      obtain ⟨n, rfl⟩ : ∃ q, n = q + 1 := ⟨n - 1, by omega⟩
      rw [pX2_whoseIs_L14, if_pos (show (6 : Int32) ≤ nI i from nI_le (a := 6) (by omega) (by omega))]
      rfl
    | succ k ih =>
      intro i r n hi hn hr
      obtain ⟨n, rfl⟩ : ∃ q, n = q + 1 := ⟨n - 1, by omega⟩
      rw [pX2_whoseIs_L14, if_neg (show ¬ (6 : Int32) ≤ nI i from nI_ge (b := 6) (by omega) (by decide)), c_gone hR hI (by omega), heirV]
      cases hg : goneV v r
      · rw [if_pos (by decide)]
        rfl
      · rw [if_neg (by decide), c_get hR (k := 32) (K := 32) rfl (by omega)]
        simp only [Option.bind_some]
        rw [nI_1, ih (i + 1) _ n (by omega) (by omega) ((i6.2.1 r (by omega)).2.1 hr)]
        rfl
  unfold pX2_whoseIs
  rw [at_nI (show a < 8 by omega) (by decide), hR.2.2.2.2.2.1 a ha]
  simp only [Option.bind_some]
  have key := loop 6 0 _ 2000 rfl (by omega) (i4 a ha).1
  rw [nI_0] at key
  rw [key]
  rfl
theorem c_left (hR : RcN σ v) (hI : InvN v) {a : Nat} (ha : a < v 0 1) : pX2_valueOf σ (nI a) = nI (leftV v a) := by
  obtain ⟨i1, i2, i3, i4, i5, i6⟩ := id hI
  have q := i4 a ha
  have q2 := i6.1 a (by omega)
  unfold pX2_valueOf
  rw [at_nI (show a < 8 by omega) (by decide), hR.2.2.2.2.2.2.2.1 a ha, c_get hR (k := 16) (K := 16) rfl (by omega)]
  unfold leftV
  by_cases e : v 7 (16 + a) ≤ v 5 a
  · rw [pk_sub e, if_neg (nI_pos (by omega))]
  · rw [if_pos (pk_sneg (by omega) (by omega)), show v 5 a - v 7 (16 + a) = 0 by omega]
    rfl
theorem c_est (hR : RcN σ v) (hI : InvN v) {r : Nat} (hr : r < 6) : pX2_estateOf σ (nI r) = some (nI (estV v r)) := by
  obtain ⟨i1, i2, i3, i4, i5, i6⟩ := id hI
  unfold pX2_estateOf
  have key := loop_up (fun n (s : Int32 × Int32) => pX2_estateOf_L4 σ (nI r) n s.1 s.2) (fun i => (nI (sumN (fun a => if liesV v a && decide (whoV v a = some r) then leftV v a else 0) i), nI i)) (v 0 1) (some (nI (estV v r)))
    (by
      intro n i hi
      show pX2_estateOf_L4 σ (nI r) (n + 1) (nI _) (nI i) = pX2_estateOf_L4 σ (nI r) n (nI _) (nI (i + 1))
      rw [pX2_estateOf_L4, hR.2.1, if_neg (nI_ge hi (by omega)), c_liesV hR hI (by omega), nI_1, sumN]
      cases hl : liesV v i
      · rw [if_pos (by decide)]
        simp
      · rw [if_neg (by decide), c_who hR hI hi]
        simp only [Option.bind_some]
        by_cases e : whoV v i = some r
        · rw [if_pos ((whoI_eq (by omega) (fun q hq => by have := who_lt hI hi hq; omega)).mpr e), c_left hR hI hi, nI_add]
          simp [e]
        · rw [if_neg (fun z => e ((whoI_eq (by omega) (fun q hq => by have := who_lt hI hi hq; omega)).mp z))]
          simp [e])
    (by
      intro n
      show pX2_estateOf_L4 σ (nI r) (n + 1) (nI _) (nI (v 0 1)) = _
      rw [pX2_estateOf_L4, hR.2.1, if_pos (nI_le (Nat.le_refl _) (by omega))]
      rfl) (v 0 1) 0 2000 (by omega) (by omega)
  have key : pX2_estateOf_L4 σ (nI r) 2000 0 0 = some (nI (estV v r)) := key
  rw [key]
  rfl
theorem or_lt {a b k : Nat} (ha : a < 2 ^ k) (hb : b < 2 ^ k) : a ||| b < 2 ^ k := Nat.or_lt_two_pow ha hb
theorem tstep_lt {v : Vw} (hI : InvN v) {t : Nat} (ht : t < 64) : ∀ n, n ≤ v 0 0 → townStep v t n < 64
  | 0, _ => ht
  | n + 1, h => by
    have h1 := tstep_lt hI ht n (by omega)
    have h2 := hI.2.2.2.2.1 n (by have := hI.1; omega)
    rw [townStep]
    refine or_lt (k := 6) h1 ?_
    split <;> omega
theorem tk_lt {v : Vw} (hI : InvN v) {t : Nat} (ht : t < 64) : ∀ n, townK v t n < 64
  | 0 => ht
  | n + 1 => tstep_lt hI (tk_lt hI ht n) _ (Nat.le_refl _)
theorem town_lt {v : Vw} (hI : InvN v) {r : Nat} (hr : r < 6) : townV v r < 64 := tk_lt hI (by
  have : 2 ^ r < 2 ^ 6 := Nat.pow_lt_pow_right (by decide) hr
  omega) 6
theorem c_town (hR : RcN σ v) (hI : InvN v) {r : Nat} (hr : r < 6) : pX2_townOf σ (nI r) = some (nI (townV v r)) := by
  obtain ⟨i1, i2, i3, i4, i5, i6⟩ := id hI
  have hr2 : 2 ^ r < 64 := by
    have : 2 ^ r < 2 ^ 6 := Nat.pow_lt_pow_right (by decide) hr
    omega
  have inner : ∀ (x3 : Int32) (t : Nat), t < 64 → pX2_townOf_L16 σ x3 2000 (nI t) 0 = some (nI (townStep v t (v 0 0))) := by
    intro x3 t ht
    exact loop_up (fun n (s : Int32 × Int32) => pX2_townOf_L16 σ x3 n s.1 s.2) (fun i => (nI (townStep v t i), nI i)) (v 0 0) (some (nI (townStep v t (v 0 0))))
      (by
        intro n i hi
        show pX2_townOf_L16 σ x3 (n + 1) (nI _) (nI i) = pX2_townOf_L16 σ x3 n (nI _) (nI (i + 1))
        have hl := tstep_lt hI ht i (by omega)
        rw [pX2_townOf_L16, hR.1, if_neg (nI_ge hi (by omega)), has_nI (by omega) (by omega), nI_1, townStep]
        cases hb : (townStep v t i).testBit i
        · rw [if_pos (by decide)]
          simp
        · rw [if_neg (by decide), at_nI (show i < 6 by omega) (by decide), hR.2.2.2.2.2.2.2.2.1 i (by omega), fa_or]
          simp)
      (by
        intro n
        show pX2_townOf_L16 σ x3 (n + 1) (nI _) (nI (v 0 0)) = _
        rw [pX2_townOf_L16, hR.1, if_pos (nI_le (Nat.le_refl _) (by omega))]) (v 0 0) 0 2000 (by omega) (by omega)
  have outer := loop_up (fun n (s : Int32 × Int32) => pX2_townOf_L7 σ n s.1 s.2) (fun i => (nI (townK v (2 ^ r) i), nI i)) 6 (some (nI (townV v r)))
    (by
      intro n i hi
      show pX2_townOf_L7 σ (n + 1) (nI _) (nI i) = pX2_townOf_L7 σ n (nI _) (nI (i + 1))
      rw [pX2_townOf_L7, if_neg (show ¬ (6 : Int32) ≤ nI i from nI_ge (b := 6) hi (by decide)), inner _ _ (tk_lt hI hr2 i)]
      simp only [Option.bind_some]
      rw [nI_1]
      rfl)
    (by
      intro n
      show pX2_townOf_L7 σ (n + 1) (nI _) (nI 6) = _
      rw [pX2_townOf_L7, if_pos (show (6 : Int32) ≤ nI 6 from nI_le (Nat.le_refl 6) (by decide))]
      rfl) 6 0 2000 (by omega) (by omega)
  have outer : pX2_townOf_L7 σ 2000 (nI (2 ^ r)) 0 = some (nI (townV v r)) := outer
  unfold pX2_townOf
  rw [bit_nI (by omega)]
  simp only [Option.bind_some]
  rw [outer]
  rfl
theorem c_adds (hR : RcN σ v) (hI : InvN v) {t a : Nat} (ht : t < 64) (ha : a < v 0 1) : pX2_adds σ (nI t) (nI a) = if inTown v t a then 1 else 0 := by
  obtain ⟨i1, i2, i3, i4, i5, i6⟩ := id hI
  have q := (i4 a ha).1
  unfold pX2_adds
  rw [c_liesV hR hI (by omega), at_nI (show a < 8 by omega) (by decide), hR.2.2.2.2.2.1 a ha, has_nI (by omega) (by omega)]
  unfold inTown
  cases hl : liesV v a
  · rfl
  · rw [if_neg (by decide)]
    cases hb : t.testBit (v 3 a) <;> rfl
theorem c_might (hR : RcN σ v) (hI : InvN v) {t : Nat} (ht : t < 64) : pX2_mightOf σ (nI t) = some (nI (mightV v t)) := by
  obtain ⟨i1, i2, i3, i4, i5, i6⟩ := id hI
  unfold pX2_mightOf
  have key := loop_up (fun n (s : Int32 × Int32) => pX2_mightOf_L4 σ (nI t) n s.1 s.2) (fun i => (nI (sumN (fun a => if inTown v t a then strV v a else 0) i), nI i)) (v 0 1) (some (nI (mightV v t)))
    (by
      intro n i hi
      show pX2_mightOf_L4 σ (nI t) (n + 1) (nI _) (nI i) = pX2_mightOf_L4 σ (nI t) n (nI _) (nI (i + 1))
      rw [pX2_mightOf_L4, hR.2.1, if_neg (nI_ge hi (by omega)), c_adds hR hI ht hi, nI_1, sumN]
      cases hl : inTown v t i
      · rw [if_pos (by decide)]
        simp
      · rw [if_neg (by decide), c_str hR hI hi]
        simp only [Option.bind_some]
        rw [nI_add]
        simp)
    (by
      intro n
      show pX2_mightOf_L4 σ (nI t) (n + 1) (nI _) (nI (v 0 1)) = _
      rw [pX2_mightOf_L4, hR.2.1, if_pos (nI_le (Nat.le_refl _) (by omega))]
      rfl) (v 0 1) 0 2000 (by omega) (by omega)
  have key : pX2_mightOf_L4 σ (nI t) 2000 0 0 = some (nI (mightV v t)) := key
  rw [key]
  rfl
end C
section M
variable {μ : Sg} {v : Vw}
theorem gone_own {v : Vw} {k r : Nat} (h : heirV v k r = none) : ∀ j, j < k → goneV v (Nat.rec r (fun _ q => v 7 (32 + q)) j : Nat) = true := by
  induction k generalizing r with
  | zero => intro j hj; omega
  | succ k ih =>
    intro j hj
    rw [heirV] at h
    by_cases g : goneV v r = true
    · rw [if_pos g] at h
      cases j with
      | zero => exact g
      | succ j =>
        have h2 := ih h j (by omega)
        have e : ∀ i : Nat, (Nat.rec (v 7 (32 + r)) (fun _ q => v 7 (32 + q)) i : Nat) = (Nat.rec r (fun _ q => v 7 (32 + q)) (i + 1) : Nat) := by
          intro i
          induction i with
          | zero => rfl
          | succ i ih2 => show v 7 (32 + _) = v 7 (32 + _); rw [ih2]
        rw [e] at h2
        exact h2
    · rw [if_neg g] at h; cases h
end M
