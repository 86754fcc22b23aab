/-! anchor, storms, after, odds -/
theorem pow_small : ∀ m, m < 100 → ∀ h, h < 100 → ∀ n, n < 5 → 0 < m → h ^ n / Nat.gcd (h ^ n) (m ^ n) = (h / Nat.gcd h m) ^ n ∧ m ^ n / Nat.gcd (h ^ n) (m ^ n) = (m / Nat.gcd h m) ^ n := by decide +kernel
theorem pow_99 {m n : Nat} (hm : m ≤ 99) (hn : n ≤ 4) : m ^ n ≤ 96059601 := by
  rcases Nat.eq_zero_or_pos m with h | h
  · subst h
    rcases Nat.eq_zero_or_pos n with h | h
    · subst h; decide
    · rw [Nat.zero_pow h]; omega
  · exact Nat.le_trans (Nat.pow_le_pow_right h hn) (Nat.pow_le_pow_left hm 4)
section G
variable {σ μ : Sg} {v : Vw}
theorem eq_anchor : EQ_anchor := by
  intro v σ μ a1 a2 hI hRc hRm
  have hN := hI.1
  have hc := hRc.1
  have hm := hRm.1
  have h8 := hN.2.1
  unfold pX10_anchor pX11_anchor
  rw [c_noAnchor hc, m_isAnchor hm]
  simp only [Option.bind_some]
  rcases out_lt a1 (n := v 0 1) (by omega) with ⟨h1, a, rfl, ha⟩ | ⟨h1, -⟩
  · have a8 : a < 8 := by omega
    by_cases k0 : a2 = 0
    · refine same1 hI hRc hRm (o := nI (v 3 a)) ?_ ?_
      · rw [h1, if_pos rfl, k0, if_pos (by decide), if_pos rfl, at_nI a8 (by decide), hc.2.2.2.2.2.1 a ha]
      · rw [h1, if_neg (by decide), if_pos k0, m_own hm ha h8]; rfl
    by_cases k1 : a2 = 1
    · refine same1 hI hRc hRm (o := nI (v 7 a)) ?_ ?_
      · rw [h1, if_pos rfl, k1, if_pos (by decide), if_neg (by decide), if_pos rfl, c_get hc (k := 0) (K := 0) rfl (by omega), Nat.zero_add]
      · rw [h1, if_neg (by decide), if_neg k0, if_pos k1, m_cel hm a8]; rfl
    by_cases k2 : a2 = 2
    · refine same1 hI hRc hRm (o := nI (v 4 a)) ?_ ?_
      · rw [h1, if_pos rfl, k2, if_pos (by decide), if_neg (by decide), if_neg (by decide), if_pos rfl, at_nI a8 (by decide), hc.2.2.2.2.2.2.1 a ha]
      · rw [h1, if_neg (by decide), if_neg k0, if_neg k1, if_pos k2, m_wgt hm ha h8]; rfl
    by_cases k3 : a2 = 3
    · refine same1 hI hRc hRm (o := nI (v 7 (8 + a))) ?_ ?_
      · rw [h1, if_pos rfl, k3, if_pos (by decide), if_neg (by decide), if_neg (by decide), if_neg (by decide), if_pos rfl, c_get hc (k := 8) (K := 8) rfl (by omega)]
      · rw [h1, if_neg (by decide), if_neg k0, if_neg k1, if_neg k2, if_pos k3, m_lnk hm a8]; rfl
    by_cases k4 : a2 = 4
    · refine same1 hI hRc hRm (o := nI (v 5 a)) ?_ ?_
      · rw [h1, if_pos rfl, k4, if_pos (by decide), if_neg (by decide), if_neg (by decide), if_neg (by decide), if_neg (by decide), if_pos rfl, at_nI a8 (by decide), hc.2.2.2.2.2.2.2.1 a ha]
      · rw [h1, if_neg (by decide), if_neg k0, if_neg k1, if_neg k2, if_neg k3, if_pos k4, m_wth hm ha h8]; rfl
    by_cases k5 : a2 = 5
    · refine same1 hI hRc hRm (o := nI (v 7 (16 + a))) ?_ ?_
      · rw [h1, if_pos rfl, k5, if_pos (by decide), if_neg (by decide), if_neg (by decide), if_neg (by decide), if_neg (by decide), if_neg (by decide), if_pos rfl, c_get hc (k := 16) (K := 16) rfl (by omega)]
      · rw [h1, if_neg (by decide), if_neg k0, if_neg k1, if_neg k2, if_neg k3, if_neg k4, if_pos k5, m_age hm a8]; rfl
    by_cases k6 : a2 = 6
    · refine same1 hI hRc hRm (o := nI (v 7 (24 + a))) ?_ ?_
      · rw [h1, if_pos rfl, k6, if_pos (by decide), if_neg (by decide), if_neg (by decide), if_neg (by decide), if_neg (by decide), if_neg (by decide), if_neg (by decide), if_pos rfl, c_get hc (k := 24) (K := 24) rfl (by omega)]
      · rw [h1, if_neg (by decide), if_neg k0, if_neg k1, if_neg k2, if_neg k3, if_neg k4, if_neg k5, if_pos k6, m_how hm a8]; rfl
    by_cases k7 : a2 = 7
    · cases hl : liesV v a
      · refine same1 hI hRc hRm (o := -9) ?_ ?_
        · rw [h1, if_pos rfl, k7, if_pos (by decide), if_neg (by decide), if_neg (by decide), if_neg (by decide), if_neg (by decide), if_neg (by decide), if_neg (by decide), if_neg (by decide), if_pos rfl, c_liesV hc hN a8, hl, if_pos (by decide)]
        · rw [h1, if_neg (by decide), if_neg k0, if_neg k1, if_neg k2, if_neg k3, if_neg k4, if_neg k5, if_neg k6, if_pos k7, m_lies hm hN a8, hl]; rfl
      · obtain ⟨h, e1, e2⟩ := c_weighH hc hN (r := 20) (by decide) hc.2.2.2.2.2.2.2.2.2 hN.2.2.2.2.2
        have hc2 : RcN (sA σ 38 h) v := hc
        have q := (hN.2.2.2.2.2.1 a a8).1
        refine same1 (σ' := sA σ 38 h) hI hRc hRm (o := nI (holdC v (v 7 a))) ?_ ?_
        · rw [h1, if_pos rfl, k7, if_pos (by decide), if_neg (by decide), if_neg (by decide), if_neg (by decide), if_neg (by decide), if_neg (by decide), if_neg (by decide), if_neg (by decide), if_pos rfl, c_liesV hc hN a8, hl, if_neg (by decide)]
          unfold pX8_holdOf
          rw [e1, Option.bind_some, Option.bind_some, c_get hc2 (k := 0) (K := 0) rfl (by omega), Nat.zero_add, sA_eq, at_nI q (by decide), e2 _ q]
          rfl
        · rw [h1, if_neg (by decide), if_neg k0, if_neg k1, if_neg k2, if_neg k3, if_neg k4, if_neg k5, if_neg k6, if_pos k7, m_lies hm hN a8, hl, Option.bind_some, if_neg (by decide), m_hold hm hN ha]; rfl
    by_cases k8 : a2 = 8
    · refine same1 hI hRc hRm (o := whoI (whoV v a)) ?_ ?_
      · rw [h1, if_pos rfl, k8, if_pos (by decide), if_neg (by decide), if_neg (by decide), if_neg (by decide), if_neg (by decide), if_neg (by decide), if_neg (by decide), if_neg (by decide), if_neg (by decide), c_who hc hN ha]; rfl
      · rw [h1, if_neg (by decide), if_neg k0, if_neg k1, if_neg k2, if_neg k3, if_neg k4, if_neg k5, if_neg k6, if_neg k7, if_pos k8, m_who hm hN ha]; rfl
    · refine same1 hI hRc hRm (o := -1) ?_ ?_
      · rcases o0 a2 (H := 8) 8 rfl (by decide) with ⟨h2, n, rfl, hn⟩ | ⟨h2, -⟩
        · rcases (show n = 0 ∨ n = 1 ∨ n = 2 ∨ n = 3 ∨ n = 4 ∨ n = 5 ∨ n = 6 ∨ n = 7 ∨ n = 8 by omega) with rfl | rfl | rfl | rfl | rfl | rfl | rfl | rfl | rfl
          · exact absurd rfl k0
          · exact absurd rfl k1
          · exact absurd rfl k2
          · exact absurd rfl k3
          · exact absurd rfl k4
          · exact absurd rfl k5
          · exact absurd rfl k6
          · exact absurd rfl k7
          · exact absurd rfl k8
        · rw [h1, if_pos rfl, h2, if_neg (by decide)]
      · rw [h1, if_neg (by decide), if_neg k0, if_neg k1, if_neg k2, if_neg k3, if_neg k4, if_neg k5, if_neg k6, if_neg k7, if_neg k8]
  · refine same1 hI hRc hRm (o := -1) ?_ ?_
    · rw [h1, if_neg (by decide)]
    · rw [h1, if_pos (by decide)]
theorem eq_storms : EQ_storms := by
  intro v σ μ a1 a2 hI hRc hRm
  unfold pX10_storms pX11_storms pX10_isNoForce pX11_isStorm pX11_isSide
  rcases o1 a1 (H := 99) 99 rfl (by decide) with ⟨h1, F, rfl, hF1, hF⟩ | ⟨h1, -⟩
  · rcases o0 a2 (H := 1) 1 rfl (by decide) with ⟨h2, s, rfl, hs⟩ | ⟨h2, -⟩
    · obtain ⟨σ1, s1, s2⟩ := c_mem hRc hI
      obtain ⟨μ1, t1, t2⟩ := m_mem hRm hI
      have hI1 := mem_inv hI
      obtain ⟨h, g, s3, s4⟩ := c_blow s2.1 hI1.1 (r := 20) (by decide) (by decide) s2.1.2.2.2.2.2.2.2.2.2 hI1.1.2.2.2.2.2 hF hs
      obtain ⟨g', t3, t4⟩ := m_blow t2.1 hI1.1 hF hs
      have s5 : Rc (sA σ1 38 h) (memV v) := s2
      refine diff (o := nI (lostN (memV v) (memV v 7) F s (memV v 0 1))) (σ' := sA (sA σ1 38 h) 20 g) (μ' := sA μ1 13 g') ?_ ?_ (Inv_row hI1 (blow_ok hI1.1 hI1.1.2.2.2.2.2 _ (Nat.le_refl _))) (Rc_row s5 s4) (Rm_row t2 t4)
      · rw [if_pos h1, if_pos h2]
        exact (bnd s1).trans ((bnd s3).trans rfl)
      · rw [if_neg (show ¬ pX11_in (nI F) 1 99 = 0 by rw [in_yes h1]; decide), if_neg (show ¬ pX11_in (nI s) 0 1 = 0 by rw [in_yes h2]; decide)]
        exact (bnd t1).trans ((bnd t3).trans rfl)
    · refine same hI hRc hRm (o := -1) ?_ ?_
      · rw [if_pos h1, h2, if_neg (by decide)]
      · rw [if_neg (show ¬ pX11_in (nI F) 1 99 = 0 by rw [in_yes h1]; decide), if_pos (in_no h2)]
  · refine same hI hRc hRm (o := -1) ?_ ?_
    · rw [h1, if_neg (by decide)]
    · rw [if_pos (in_no h1)]
theorem eq_after : EQ_after := by
  intro v σ μ a1 a2 a3 hI hRc hRm
  have hN := hI.1
  have hc := hRc.1
  have hm := hRm.1
  have h8 := hN.2.1
  unfold pX10_after pX11_after pX10_isNoForce pX11_isStorm pX11_isSide
  rw [c_noAnchor hc, m_isAnchor hm]
  simp only [Option.bind_some]
  rcases out_lt a1 (n := v 0 1) (by omega) with ⟨h1, a, rfl, ha⟩ | ⟨h1, -⟩
  · have a8 : a < 8 := by omega
    rcases o1 a2 (H := 99) 99 rfl (by decide) with ⟨h2, F, rfl, hF1, hF⟩ | ⟨h2, -⟩
    · rcases o0 a3 (H := 1) 1 rfl (by decide) with ⟨h3, s, rfl, hs⟩ | ⟨h3, -⟩
      · have hrow : ∀ i, i < 45 → va_cpy (σ 20) (σ 37) 0 0 45 i = nI (v 7 i) := fun i hi => by
          rw [pk_cpy_in (by omega) (by omega), Nat.zero_add, Nat.sub_zero, hc.2.2.2.2.2.2.2.2.2 i hi]
        have hc1 : RcN (sA σ 37 (va_cpy (σ 20) (σ 37) 0 0 45)) v := hc
        obtain ⟨h, g, s3, s4⟩ := c_blow hc1 hN (r := 37) (by decide) (by decide) hrow hN.2.2.2.2.2 hF hs
        have e0 : pX5_becomes 37 20 σ = some (sA σ 37 (va_cpy (σ 20) (σ 37) 0 0 45)) := by
          unfold pX5_becomes
          rw [copy45]
          rfl
        have hb := blow_ok hN hN.2.2.2.2.2 (F := F) (s := s) (v 0 1) (Nat.le_refl _)
        have bc := blow_cell h8 (v := v) (f := v 7) (F := F) (s := s) ha (Nat.le_refl _)
        have bh := blow_how h8 (v := v) (f := v 7) (F := F) (s := s) ha (Nat.le_refl _)
        have hr2 : ∀ j, j < 45 → (sA (sA (sA σ 37 (va_cpy (σ 20) (σ 37) 0 0 45)) 38 h) 37 g) 37 j = nI (blowR v (v 7) F s (v 0 1) j) := fun j hj => by rw [sA_eq]; exact s4 j hj
        have q := (hN.2.2.2.2.2.1 a a8).1
        have hH := hold_le hN hN.2.2.2.2.2 (v 7 a)
        refine same1 (σ' := sA (sA (sA σ 37 (va_cpy (σ 20) (σ 37) 0 0 45)) 38 h) 37 g) hI hRc hRm (o := if blowR v (v 7) F s (v 0 1) (24 + a) == 0 then nI (blowR v (v 7) F s (v 0 1) a) else -9) ?_ ?_
        · rw [h1, if_pos rfl, if_pos h2, if_pos h3]
          unfold pX8_cellBehind
          rw [e0, Option.bind_some, s3, Option.bind_some, c_lies hr2 (fun a ha => (hb.1 a ha).2.2.2) a8, get_nI hr2 (k := 0) (K := 0) rfl (by omega), Nat.zero_add]
          cases (blowR v (v 7) F s (v 0 1) (24 + a) == 0)
          · rw [if_pos (by decide)]; rfl
          · rw [if_neg (by decide)]; rfl
        · rw [h1, if_neg (by decide), if_neg (show ¬ pX11_in (nI F) 1 99 = 0 by rw [in_yes h2]; decide), if_neg (show ¬ pX11_in (nI s) 0 1 = 0 by rw [in_yes h3]; decide), m_lies hm hN a8, Option.bind_some, bc, bh]
          have em : moveB v (v 7) F a = (liesV v a && decide (holdR v (v 7) (v 7 a) < F)) := rfl
          have hh : pX11_hold μ (nI a) = some (nI (holdR v (v 7) (v 7 a))) := m_hold hm hN ha
          cases hl : liesV v a
          · rw [hl, Bool.false_and] at em
            rw [em, if_pos (by decide)]
            have : (v 7 (24 + a) == 0) = false := hl
            simp only [Bool.false_and, Bool.false_eq_true, if_false, this]
          · rw [hl, Bool.true_and] at em
            have hz : (v 7 (24 + a) == 0) = true := hl
            rw [if_neg (by decide), m_cel hm a8, Option.bind_some, hh, Option.bind_some]
            by_cases w : holdR v (v 7) (v 7 a) < F
            · rw [decide_eq_true w] at em
              rw [em, if_pos (nI_lt w (by omega))]
              rcases (show s = 0 ∨ s = 1 by omega) with rfl | rfl
              · rw [if_pos (show nI 0 = 0 from rfl), Option.bind_some]
                by_cases e : v 7 a = 0
                · have ee : edgeB (v 7) 0 a = true := by unfold edgeB; rw [e]; rfl
                  rw [if_pos (by rw [e]; rfl), ee]
                  rfl
                · have ee : edgeB (v 7) 0 a = false := by unfold edgeB; rw [if_pos rfl]; simpa using e
                  obtain ⟨k, hk⟩ : ∃ k, v 7 a = k + 1 := ⟨v 7 a - 1, by omega⟩
                  rw [if_neg (nI_ne0 (by omega) (by omega)), ee, if_pos (show nI 0 = 0 from rfl)]
                  simp only [Bool.and_false, Bool.false_eq_true, if_false, Bool.not_false, Bool.and_true, if_true, hz]
                  rw [hk, pk_m1]
                  rfl
              · rw [if_neg (show ¬ nI 1 = 0 by decide), Option.bind_some]
                by_cases e : v 7 a = 9
                · have ee : edgeB (v 7) 1 a = true := by unfold edgeB; rw [e]; rfl
                  rw [if_pos (by rw [e]; rfl), ee]
                  rfl
                · have ee : edgeB (v 7) 1 a = false := by unfold edgeB; rw [if_neg (by omega)]; simpa using e
                  rw [if_neg (show ¬ nI (v 7 a) = 9 from fun z => e ((nI_eq (b := 9) (by omega) (by decide)).mp z)), ee, if_neg (show ¬ nI 1 = 0 by decide)]
                  simp only [Bool.and_false, Bool.false_eq_true, if_false, Bool.not_false, Bool.and_true, if_true, hz]
                  rw [nI_1]
                  rfl
            · rw [decide_eq_false w] at em
              rw [em, if_neg (nI_nlt (by omega) (by omega))]
              simp only [Bool.false_and, Bool.false_eq_true, if_false, hz, if_true]
      · refine same1 hI hRc hRm (o := -1) ?_ ?_
        · rw [h1, if_pos rfl, if_pos h2, h3, if_neg (by decide)]
        · rw [h1, if_neg (by decide), if_neg (show ¬ pX11_in (nI F) 1 99 = 0 by rw [in_yes h2]; decide), if_pos (in_no h3)]
    · refine same1 hI hRc hRm (o := -1) ?_ ?_
      · rw [h1, if_pos rfl, h2, if_neg (by decide)]
      · rw [h1, if_neg (by decide), if_pos (in_no h2)]
  · refine same1 hI hRc hRm (o := -1) ?_ ?_
    · rw [h1, if_neg (by decide)]
    · rw [h1, if_pos (by decide)]
theorem c_gcd : ∀ (x y i n : Nat), y + i ≤ 99 → y < n → x < 2 ^ 31 → pX10_commonPart_L15 n (nI x) (nI y) (nI i) = some (nI (Nat.gcd y x)) := by
  intro x y
  induction y using Nat.strongRecOn generalizing x with
  | ind y ih =>
    intro i n h1 hn hx
    obtain ⟨n, rfl⟩ : ∃ q, n = q + 1 := ⟨n - 1, by omega⟩
    rw [pX10_commonPart_L15]
    rcases Nat.eq_zero_or_pos y with h0 | h0
    · subst h0
      rw [if_pos (show nI 0 ≤ 0 by decide), Nat.gcd_zero_left]
      split <;> rfl
    · have hm := Nat.mod_lt x h0
      rw [if_neg (show ¬ (99 : Int32) ≤ nI i from nI_ge (b := 99) (by omega) (by decide)), if_neg (nI_nle h0 (by omega)), rem_nI hx h0 (by omega), Option.bind_some, nI_1, ih (x % y) hm y (i + 1) n (by omega) (by omega) (by omega), ← Nat.gcd_rec]
theorem m_gcd (σ : Sg) (x4 x6 x7 : Int32) : ∀ (k x y n : Nat), y < 2 ^ k → 2 * k + 1 < n → x < 2 ^ 31 → y < 2 ^ 31 → pX11_odds_L109 σ x4 x6 x7 n (nI x) (nI y) = some (nI (Nat.gcd y x)) := by
  intro k
  induction k with
  | zero =>
    intro x y n hy hn hx hy2
    obtain ⟨n, rfl⟩ : ∃ q, n = q + 1 := ⟨n - 1, by omega⟩
    have : y = 0 := by omega
    subst this
    rw [pX11_odds_L109, if_pos (show nI 0 = 0 from rfl), Nat.gcd_zero_left]
  | succ k ih =>
    intro x y n hy hn hx hy2
    obtain ⟨n, rfl⟩ : ∃ q, n = q + 1 := ⟨n - 1, by omega⟩
    rw [Nat.pow_succ] at hy
    rw [pX11_odds_L109]
    rcases Nat.eq_zero_or_pos y with h0 | h0
    · subst h0
      rw [if_pos (show nI 0 = 0 from rfl), Nat.gcd_zero_left]
    · have hm := Nat.mod_lt x h0
      rw [if_neg (nI_ne0 h0 hy2), rem_nI hx h0 hy2, Option.bind_some, Nat.gcd_rec]
      by_cases hb : x % y < 2 ^ k
      · exact ih y (x % y) n hb (by omega) hy2 (by omega)
      · have h00 : 0 < x % y := by
          have := Nat.two_pow_pos k
          omega
        obtain ⟨n, rfl⟩ : ∃ q, n = q + 1 := ⟨n - 1, by omega⟩
        have hm2 : y % (x % y) < 2 ^ k := by
          rw [Nat.mod_eq_sub_mod (by omega), Nat.mod_eq_of_lt (by omega)]
          omega
        rw [pX11_odds_L109, if_neg (nI_ne0 h00 (by omega)), rem_nI hy2 h00 (by omega), Option.bind_some, Nat.gcd_rec]
        exact ih (x % y) (y % (x % y)) n hm2 (by omega) (by omega) (by omega)
theorem c_pow {b t : Nat} (ht : t ≤ 4) : pX10_power (nI b) (nI t) = some (nI (b ^ t)) := by
  have key := loop_up (fun n (s : Int32 × Int32) => pX10_power_L4 (nI b) (nI t) n s.1 s.2) (fun i => (nI (b ^ i), nI i)) t (some (nI (b ^ t)))
    (by
      intro n i hi
      show pX10_power_L4 (nI b) (nI t) (n + 1) (nI _) (nI i) = pX10_power_L4 (nI b) (nI t) n (nI _) (nI (i + 1))
      rw [pX10_power_L4, if_neg (nI_ge hi (by omega)), pk_mul, nI_1, Option.bind_some, Nat.pow_succ])
    (by
      intro n
      show pX10_power_L4 (nI b) (nI t) (n + 1) (nI _) (nI t) = _
      rw [pX10_power_L4, if_pos (nI_le (Nat.le_refl _) (by omega))]) t 0 2000 (by omega) (by omega)
  have key : pX10_power_L4 (nI b) (nI t) 2000 (nI (b ^ 0)) (nI 0) = some (nI (b ^ t)) := key
  rw [Nat.pow_zero, nI_0, show nI 1 = 1 from rfl] at key
  unfold pX10_power
  exact (bnd key).trans rfl
theorem m_pow (σ : Sg) (x4 : Int32) {b m t : Nat} (ht : t ≤ 4) : pX11_odds_L76 σ (nI m) (nI t) x4 (nI b) 2000 1 1 0 = some (nI (b ^ t), nI (m ^ t)) := by
  have key := loop_up (fun n (s : Int32 × Int32 × Int32) => pX11_odds_L76 σ (nI m) (nI t) x4 (nI b) n s.1 s.2.1 s.2.2) (fun i => (nI (b ^ i), nI (m ^ i), nI i)) t (some (nI (b ^ t), nI (m ^ t)))
    (by
      intro n i hi
      show pX11_odds_L76 σ (nI m) (nI t) x4 (nI b) (n + 1) (nI _) (nI _) (nI i) = pX11_odds_L76 σ (nI m) (nI t) x4 (nI b) n (nI _) (nI _) (nI (i + 1))
      rw [pX11_odds_L76, if_neg (nI_ge hi (by omega)), pk_mul, pk_mul, nI_1, Option.bind_some, Option.bind_some, Nat.pow_succ, Nat.pow_succ])
    (by
      intro n
      show pX11_odds_L76 σ (nI m) (nI t) x4 (nI b) (n + 1) (nI _) (nI _) (nI t) = _
      rw [pX11_odds_L76, if_pos (nI_le (Nat.le_refl _) (by omega))]) t 0 2000 (by omega) (by omega)
  have key : pX11_odds_L76 σ (nI m) (nI t) x4 (nI b) 2000 (nI (b ^ 0)) (nI (m ^ 0)) (nI 0) = some (nI (b ^ t), nI (m ^ t)) := key
  rw [Nat.pow_zero, Nat.pow_zero, nI_0, show nI 1 = 1 from rfl] at key
  exact key
end G
