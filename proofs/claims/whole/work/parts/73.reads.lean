/-! questions that change nothing: both sides answer alike -/
theorem o0 (x : Int32) {H : Int32} (h : Nat) (hH : H = nI h) (hh : h < 2 ^ 31) : (pX10_isOutside x 0 H = 0 ∧ ∃ n, x = nI n ∧ n ≤ h) ∨ (pX10_isOutside x 0 H = 1 ∧ ¬ ∃ n, x = nI n ∧ n ≤ h) := by
  subst hH
  rcases out_is (x := x) (lo := 0) (hi := h) hh (by decide) with ⟨h1, n, h2, -, h3⟩ | ⟨h1, h2⟩
  · exact Or.inl ⟨h1, n, h2, h3⟩
  · exact Or.inr ⟨h1, fun ⟨n, h3, h4⟩ => h2 ⟨n, h3, Nat.zero_le n, h4⟩⟩
theorem o1 (x : Int32) {H : Int32} (h : Nat) (hH : H = nI h) (hh : h < 2 ^ 31) : (pX10_isOutside x 1 H = 0 ∧ ∃ n, x = nI n ∧ 1 ≤ n ∧ n ≤ h) ∨ (pX10_isOutside x 1 H = 1 ∧ ¬ ∃ n, x = nI n ∧ 1 ≤ n ∧ n ≤ h) := by
  subst hH
  exact out_is (x := x) (lo := 1) (hi := h) hh (by decide)
theorem in_yes {x l h : Int32} (e : pX10_isOutside x l h = 0) : pX11_in x l h = 1 := by rw [in_out, e]; rfl
theorem in_no {x l h : Int32} (e : pX10_isOutside x l h = 1) : pX11_in x l h = 0 := by rw [in_out, e]; rfl
theorem or_z (n : Nat) : nI n ||| (0 : Int32) = nI n := by rw [show (0 : Int32) = nI 0 from rfl, fa_or, Nat.or_zero]
theorem add_z (n : Nat) : nI n + (0 : Int32) = nI n := by rw [show (0 : Int32) = nI 0 from rfl, nI_add, Nat.add_zero]
theorem part_le (f : Nat → Nat) {i : Nat} : ∀ {n : Nat}, i < n → f i ≤ sumN f n
  | 0, h => absurd h (Nat.not_lt_zero i)
  | n + 1, h => by
    rw [sumN]
    rcases Nat.lt_or_ge i n with q | q
    · have := part_le f q; omega
    · have : i = n := by omega
      subst this; omega
def needV (v : Vw) (x a F : Nat) : Nat → Nat → Int32
  | 0, _ => -9
  | k + 1, i => if strAt v x a i < F then needV v x a F k (i + 1) else nI i
def vitB (v : Vw) (t F a : Nat) : Bool := inTown v t a && decide (F ≤ mightV v t) && decide (mightV v t - strV v a < F)
section EQ
variable {σ μ : Sg} {v : Vw}
theorem m_cell57 (hR : RmN μ v) (hI : InvN v) {x : Nat} (hx : x < 2 ^ 31) : pX11_cell_L57 μ (nI x) 2000 0 0 = some (nI (lyingInV v x)) := by
  obtain ⟨i1, i2, i3, i4, i5, i6⟩ := id hI
  exact loop_up (fun n (s : Int32 × Int32) => pX11_cell_L57 μ (nI x) n s.1 s.2) (fun i => (nI (bitsN (fun a => liesV v a && v 7 a == x) i), nI i)) (v 0 1) (some (nI (lyingInV v x)))
    (by
      intro n i hi
      show pX11_cell_L57 μ (nI x) (n + 1) (nI _) (nI i) = pX11_cell_L57 μ (nI x) n (nI _) (nI (i + 1))
      have q := (i6.1 i (by omega)).1
      rw [pX11_cell_L57]
      simp only [m_na hR, Option.bind_some, m_lies hR hI (show i < 8 by omega), m_cel hR (show i < 8 by omega)]
      rw [if_neg (nI_ge hi (by omega)), nI_1]
      cases hl : liesV v i
      · rw [if_pos (by decide), or_z, bitsN_no (fun a => liesV v a && v 7 a == x) i (by simp [hl])]
      · rw [if_neg (by decide)]
        by_cases e : v 7 i = x
        · rw [if_pos (by rw [e]), m_shl (by omega), bitsN_or (fun a => liesV v a && v 7 a == x) i (by simp [e, hl])]
        · rw [if_neg (fun z => e ((nI_eq (by omega) hx).mp z)), or_z, bitsN_no (fun a => liesV v a && v 7 a == x) i (by simp [e])])
    (by
      intro n
      show pX11_cell_L57 μ (nI x) (n + 1) (nI _) (nI (v 0 1)) = _
      rw [pX11_cell_L57]
      simp only [m_na hR, Option.bind_some]
      rw [if_pos (nI_le (Nat.le_refl _) (by omega))]
      rfl) (v 0 1) 0 2000 (by omega) (by omega)
theorem eq_cell : EQ_cell := by
  intro v σ μ a1 a2 hI hRc hRm
  have hN := hI.1
  have hc := hRc.1
  have hm := hRm.1
  unfold pX10_cell pX11_cell
  rcases o0 a1 (H := 9) 9 rfl (by decide) with ⟨h1, x, rfl, hx⟩ | ⟨h1, -⟩
  · rw [if_pos h1, if_neg (show ¬ pX11_in (nI x) 0 9 = 0 by rw [in_yes h1]; decide)]
    by_cases k0 : a2 = 0
    · rw [if_pos (show pX10_isOutside a2 0 2 = 0 by rw [k0]; rfl), if_pos k0, if_pos k0, m_deep hm (by omega)]
      exact ⟨_, _, rfl, rfl, by rw [at_nI (by omega) (by decide), hc.2.2.2.1 x (by omega)]⟩
    by_cases k1 : a2 = 1
    · rw [if_pos (show pX10_isOutside a2 0 2 = 0 by rw [k1]; rfl), if_neg k0, if_pos k1, if_neg k0, if_pos k1, m_grip hm (by omega)]
      exact ⟨_, _, rfl, rfl, by rw [at_nI (by omega) (by decide), hc.2.2.2.2.1 x (by omega)]⟩
    by_cases k2 : a2 = 2
    · rw [if_pos (show pX10_isOutside a2 0 2 = 0 by rw [k2]; rfl), if_neg k0, if_neg k1, if_neg k0, if_neg k1, if_pos k2, m_cell57 hm hN (by omega), c_lyingIn hc hN (by omega)]
      exact ⟨_, _, rfl, rfl, rfl⟩
    · rcases o0 a2 (H := 2) 2 rfl (by decide) with ⟨h2, n, rfl, hn⟩ | ⟨h2, -⟩
      · rcases (show n = 0 ∨ n = 1 ∨ n = 2 by omega) with rfl | rfl | rfl
        · exact absurd rfl k0
        · exact absurd rfl k1
        · exact absurd rfl k2
      · refine ⟨-1, -1, ?_, ?_, rfl⟩
        · rw [if_neg (show ¬ pX10_isOutside a2 0 2 = 0 by rw [h2]; decide)]
        · rw [if_neg k0, if_neg k1, if_neg k2]
  · rw [if_neg (show ¬ pX10_isOutside a1 0 9 = 0 by rw [h1]; decide), if_pos (in_no h1)]
    exact ⟨_, _, rfl, rfl, rfl⟩
theorem c_noRaft (hR : RcN σ v) (x : Int32) : pX10_isNoRaft σ x = pX10_isOutside x 0 (nI (v 0 0) - 1) := by
  unfold pX10_isNoRaft
  rw [hR.1]
theorem c_noAnchor (hR : RcN σ v) (x : Int32) : pX10_isNoAnchor σ x = pX10_isOutside x 0 (nI (v 0 1) - 1) := by
  unfold pX10_isNoAnchor
  rw [hR.2.1]
theorem both {A : Type} {x y : Option A} {o : A} (h1 : x = some o) (h2 : y = some o) : ∃ (a b : A), x = some a ∧ y = some b ∧ a = b := ⟨o, o, h1, h2, rfl⟩
theorem eq_raft : EQ_raft := by
  intro v σ μ a1 a2 hI hRc hRm
  have hN := hI.1
  have hc := hRc.1
  have hm := hRm.1
  have h6 := hN.1
  unfold pX10_raft pX11_raft
  rw [c_noRaft hc, m_isRaft hm]
  simp only [Option.bind_some]
  rcases out_lt a1 (n := v 0 0) (by omega) with ⟨h1, r, rfl, hr⟩ | ⟨h1, -⟩
  · have hr6 : r < 6 := by omega
    by_cases k0 : a2 = 0
    · refine both (o := nI (v 7 (32 + r))) ?_ ?_
      · rw [h1, if_pos rfl, if_pos (show pX10_isOutside a2 0 5 = 0 by rw [k0]; rfl), if_pos k0, c_get hc (k := 32) (K := 32) rfl (by omega)]
      · rw [h1, if_neg (by decide), if_pos k0, m_nxt hm hr6]; rfl
    by_cases k1 : a2 = 1
    · refine both (o := if goneV v r then 1 else 0) ?_ ?_
      · rw [h1, if_pos rfl, if_pos (show pX10_isOutside a2 0 5 = 0 by rw [k1]; rfl), if_neg k0, if_pos k1, c_gone hc hN hr6]
        cases goneV v r <;> rfl
      · rw [h1, if_neg (by decide), if_neg k0, if_pos k1, m_gon hm, Option.bind_some, m_gone hN hr6]
        cases goneV v r <;> rfl
    by_cases k2 : a2 = 2
    · refine both (o := nI (v 7 (38 + r))) ?_ ?_
      · rw [h1, if_pos rfl, if_pos (show pX10_isOutside a2 0 5 = 0 by rw [k2]; rfl), if_neg k0, if_neg k1, if_pos k2, c_get hc (k := 38) (K := 38) rfl (by omega)]
      · rw [h1, if_neg (by decide), if_neg k0, if_neg k1, if_pos k2, m_wlt hm hr6]; rfl
    by_cases k3 : a2 = 3
    · refine both (o := nI (estV v r)) ?_ ?_
      · rw [h1, if_pos rfl, if_pos (show pX10_isOutside a2 0 5 = 0 by rw [k3]; rfl), if_neg k0, if_neg k1, if_neg k2, if_pos k3, c_est hc hN hr6]; rfl
      · rw [h1, if_neg (by decide), if_neg k0, if_neg k1, if_neg k2, if_pos k3, m_est hm hN hr6]; rfl
    by_cases k4 : a2 = 4
    · refine both (o := nI (townV v r)) ?_ ?_
      · rw [h1, if_pos rfl, if_pos (show pX10_isOutside a2 0 5 = 0 by rw [k4]; rfl), if_neg k0, if_neg k1, if_neg k2, if_neg k3, if_pos k4, c_town hc hN hr6]; rfl
      · rw [h1, if_neg (by decide), if_neg k0, if_neg k1, if_neg k2, if_neg k3, if_pos k4, m_town hm hN hr6]; rfl
    by_cases k5 : a2 = 5
    · refine both (o := nI (mightV v (townV v r))) ?_ ?_
      · rw [h1, if_pos rfl, if_pos (show pX10_isOutside a2 0 5 = 0 by rw [k5]; rfl), if_neg k0, if_neg k1, if_neg k2, if_neg k3, if_neg k4, c_town hc hN hr6, Option.bind_some, c_might hc hN (town_lt hN hr6)]; rfl
      · rw [h1, if_neg (by decide), if_neg k0, if_neg k1, if_neg k2, if_neg k3, if_neg k4, if_pos k5, m_might hm hN hr6]; rfl
    · refine both (o := -1) ?_ ?_
      · rcases o0 a2 (H := 5) 5 rfl (by decide) with ⟨h2, n, rfl, hn⟩ | ⟨h2, -⟩
        · rcases (show n = 0 ∨ n = 1 ∨ n = 2 ∨ n = 3 ∨ n = 4 ∨ n = 5 by omega) with rfl | rfl | rfl | rfl | rfl | rfl
          · exact absurd rfl k0
          · exact absurd rfl k1
          · exact absurd rfl k2
          · exact absurd rfl k3
          · exact absurd rfl k4
          · exact absurd rfl k5
        · rw [h1, if_pos rfl, if_neg (show ¬ pX10_isOutside a2 0 5 = 0 by rw [h2]; decide)]
      · rw [h1, if_neg (by decide), if_neg k0, if_neg k1, if_neg k2, if_neg k3, if_neg k4, if_neg k5]
  · rw [h1]
    exact both rfl rfl
def wealthV (v : Vw) : Nat := sumN (fun r => v 7 (38 + r)) (v 0 0)
theorem c_wealth (hR : RcN σ v) (hI : InvN v) : pX2_wealthOfAll σ = some (nI (wealthV v)) := by
  have i1 := hI.1
  have key := loop_up (fun n (s : Int32 × Int32) => pX2_wealthOfAll_L4 σ n s.1 s.2) (fun i => (nI (sumN (fun r => v 7 (38 + r)) i), nI i)) (v 0 0) (some (nI (wealthV v)))
    (by
      intro n i hi
      show pX2_wealthOfAll_L4 σ (n + 1) (nI _) (nI i) = pX2_wealthOfAll_L4 σ n (nI _) (nI (i + 1))
      rw [pX2_wealthOfAll_L4, hR.1, if_neg (nI_ge hi (by omega)), c_get hR (k := 38) (K := 38) rfl (by omega), nI_1, nI_add]
      rfl)
    (by
      intro n
      show pX2_wealthOfAll_L4 σ (n + 1) (nI _) (nI (v 0 0)) = _
      rw [pX2_wealthOfAll_L4, hR.1, if_pos (nI_le (Nat.le_refl _) (by omega))]
      rfl) (v 0 0) 0 2000 (by omega) (by omega)
  have key : pX2_wealthOfAll_L4 σ 2000 0 0 = some (nI (wealthV v)) := key
  unfold pX2_wealthOfAll
  rw [key]
  rfl
theorem m_wealth (hR : RmN μ v) (hI : InvN v) : pX11_now_L52 μ 2000 0 0 = some (nI (wealthV v)) := by
  have i1 := hI.1
  exact loop_up (fun n (s : Int32 × Int32) => pX11_now_L52 μ n s.1 s.2) (fun i => (nI (sumN (fun r => v 7 (38 + r)) i), nI i)) (v 0 0) (some (nI (wealthV v)))
    (by
      intro n i hi
      show pX11_now_L52 μ (n + 1) (nI _) (nI i) = pX11_now_L52 μ n (nI _) (nI (i + 1))
      rw [pX11_now_L52]
      simp only [m_nr hR, Option.bind_some, m_wlt hR (show i < 6 by omega)]
      rw [if_neg (nI_ge hi (by omega)), nI_1, nI_add]
      rfl)
    (by
      intro n
      show pX11_now_L52 μ (n + 1) (nI _) (nI (v 0 0)) = _
      rw [pX11_now_L52]
      simp only [m_nr hR, Option.bind_some]
      rw [if_pos (nI_le (Nat.le_refl _) (by omega))]
      rfl) (v 0 0) 0 2000 (by omega) (by omega)
theorem eq_now : EQ_now := by
  intro v σ μ a1 hI hRc hRm
  have hN := hI.1
  have hc := hRc.1
  have hm := hRm.1
  unfold pX10_now pX11_now
  rcases o0 a1 (H := 4) 4 rfl (by decide) with ⟨h2, n, rfl, hn⟩ | ⟨h2, h3⟩
  · rw [if_pos h2]
    rcases (show n ≤ 2 ∨ n = 3 ∨ n = 4 by omega) with hn2 | rfl | rfl
    · refine both (o := nI (thoseV v n)) ?_ ?_
      · rw [if_neg (show ¬ nI n = 3 from fun e => by have := (nI_eq (b := 3) (by omega) (by decide)).mp e; omega), if_neg (show ¬ nI n = 4 from fun e => by have := (nI_eq (b := 4) (by omega) (by decide)).mp e; omega), c_those hc hN hn2]; rfl
      · rw [m_those hm hN hn2]
        rcases (show n = 0 ∨ n = 1 ∨ n = 2 by omega) with rfl | rfl | rfl
        · rw [if_pos (by decide)]; rfl
        · rw [if_neg (by decide), if_pos (by decide)]; rfl
        · rw [if_neg (by decide), if_neg (by decide), if_pos (by decide)]; rfl
    · refine both (o := nI (v 7 44)) ?_ ?_
      · rw [if_pos (by decide), c_gone0 hc]
      · rw [if_neg (by decide), if_neg (by decide), if_neg (by decide), if_pos (by decide), m_gon hm]; rfl
    · refine both (o := nI (wealthV v)) ?_ ?_
      · rw [if_neg (by decide), if_pos (by decide), c_wealth hc hN]; rfl
      · rw [if_neg (by decide), if_neg (by decide), if_neg (by decide), if_neg (by decide), if_pos (by decide), m_wealth hm hN]; rfl
  · have z : ∀ k, k ≤ 4 → ¬ a1 = nI k := fun k hk e => h3 ⟨k, e, hk⟩
    refine both (o := -1) ?_ ?_
    · rw [if_neg (show ¬ pX10_isOutside a1 0 4 = 0 by rw [h2]; decide)]
    · rw [if_neg (show ¬ a1 = 0 from z 0 (by omega)), if_neg (show ¬ a1 = 1 from z 1 (by omega)), if_neg (show ¬ a1 = 2 from z 2 (by omega)), if_neg (show ¬ a1 = 3 from z 3 (by omega)), if_neg (show ¬ a1 = 4 from z 4 (by omega))]
theorem c_need (hR : RcN σ v) (hI : InvN v) {x a F : Nat} (hx : x < 10) (ha : a < v 0 1) (hF : F ≤ 99) : ∀ (k i n : Nat), i + k = 61 → k < n → pX8_fewestLinks_L13 σ (nI a) (nI F) (nI x) n (nI i) = some (needV v x a F k i) := by
  intro k
  induction k with
  | zero =>
    intro i n hi hn
    obtain ⟨n, rfl⟩ : ∃ q, n = q + 1 := ⟨n - 1, by omega⟩
    rw [pX8_fewestLinks_L13, if_pos (show (60 : Int32) < nI i from nI_lt (a := 60) (by omega) (by omega))]
    rfl
  | succ k ih =>
    intro i n hi hn
    obtain ⟨n, rfl⟩ : ∃ q, n = q + 1 := ⟨n - 1, by omega⟩
    have hs := str_le hI hx ha (show i ≤ 60 by omega)
    rw [pX8_fewestLinks_L13, if_neg (show ¬ (60 : Int32) < nI i from nI_nlt (a := 60) (by omega) (by decide)), c_strAt hR hI hx ha (by omega)]
    simp only [Option.bind_some]
    rw [needV]
    by_cases q : strAt v x a i < F
    · rw [if_pos (nI_lt q (by omega)), if_pos q, nI_1]
      exact ih (i + 1) n (by omega) (by omega)
    · rw [if_neg (nI_nlt (by omega) (by omega)), if_neg q]
theorem m_need (hR : RmN μ v) (hI : InvN v) {x a F : Nat} (hx : x < 10) (ha : a < v 0 1) (hF : F ≤ 99) : ∀ (k i n : Nat), i + k = 61 → k < n → pX11_needs_L40 μ (nI a) (nI F) (nI x) n (nI i) = some (needV v x a F k i) := by
  have d := hI.2.2.1 x hx
  intro k
  induction k with
  | zero =>
    intro i n hi hn
    obtain ⟨n, rfl⟩ : ∃ q, n = q + 1 := ⟨n - 1, by omega⟩
    rw [pX11_needs_L40, if_pos (show (60 : Int32) < nI i from nI_lt (a := 60) (by omega) (by omega))]
    rfl
  | succ k ih =>
    intro i n hi hn
    obtain ⟨n, rfl⟩ : ∃ q, n = q + 1 := ⟨n - 1, by omega⟩
    have hs := str_le hI hx ha (show i ≤ 60 by omega)
    rw [pX11_needs_L40, if_neg (show ¬ (60 : Int32) < nI i from nI_nlt (a := 60) (by omega) (by decide))]
    simp only [m_wgt hR ha hI.2.1, m_grip hR hx, m_deep hR hx, Option.bind_some]
    rw [div_nI (by omega) (by omega) (by omega)]
    simp only [Option.bind_some]
    rw [nI_1, pk_mul, nI_add, show v 4 a * (v 2 x + 1) + i / v 1 x = strAt v x a i from rfl, needV]
    by_cases q : strAt v x a i < F
    · rw [if_pos (nI_lt q (by omega)), if_pos q, nI_1]
      exact ih (i + 1) n (by omega) (by omega)
    · rw [if_neg (nI_nlt (by omega) (by omega)), if_neg q]
theorem eq_needs : EQ_needs := by
  intro v σ μ a1 a2 hI hRc hRm
  have hN := hI.1
  have hc := hRc.1
  have hm := hRm.1
  have h8 := hN.2.1
  unfold pX10_needs pX11_needs pX10_isNoForce pX11_isStorm
  rw [c_noAnchor hc, m_isAnchor hm]
  simp only [Option.bind_some]
  rcases out_lt a1 (n := v 0 1) (by omega) with ⟨h1, a, rfl, ha⟩ | ⟨h1, -⟩
  · rcases o1 a2 (H := 99) 99 rfl (by decide) with ⟨h2, F, rfl, hF1, hF⟩ | ⟨h2, -⟩
    · have q := (hN.2.2.2.2.2.1 a (by omega)).1
      cases hl : liesV v a
      · refine both (o := -2) ?_ ?_
        · rw [h1, if_pos rfl, if_pos h2, c_liesV hc hN (by omega), hl]; rfl
        · rw [h1, if_neg (by decide), if_neg (show ¬ pX11_in (nI F) 1 99 = 0 by rw [in_yes h2]; decide), m_lies hm hN (by omega), hl]; rfl
      · have e1 := c_need hc hN (F := F) q ha (by omega) 60 1 2000 rfl (by omega)
        have e2 := m_need hm hN (F := F) q ha (by omega) 60 1 2000 rfl (by omega)
        have e1 : pX8_fewestLinks_L13 σ (nI a) (nI F) (nI (v 7 a)) 2000 1 = _ := e1
        have e2 : pX11_needs_L40 μ (nI a) (nI F) (nI (v 7 a)) 2000 1 = _ := e2
        refine both (o := needV v (v 7 a) a F 60 1) ?_ ?_
        · unfold pX8_fewestLinks
          rw [h1, if_pos rfl, if_pos h2, c_liesV hc hN (by omega), hl, if_neg (by decide), c_get hc (k := 0) (K := 0) rfl (by omega), Nat.zero_add, Option.bind_some, e1]; rfl
        · rw [h1, if_neg (by decide), if_neg (show ¬ pX11_in (nI F) 1 99 = 0 by rw [in_yes h2]; decide), m_lies hm hN (by omega), hl, Option.bind_some, if_neg (by decide), m_cel hm (by omega), Option.bind_some, e2]
    · refine both (o := -1) ?_ ?_
      · rw [h1, if_pos rfl, if_neg (show ¬ pX10_isOutside a2 1 99 = 0 by rw [h2]; decide)]
      · rw [h1, if_neg (by decide), if_pos (in_no h2)]
  · rw [h1]
    exact both rfl rfl
end EQ
