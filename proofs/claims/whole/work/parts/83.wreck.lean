/-! odds, wreck -/
theorem vs_vs {v : Vw} {c : Nat} {f g : Nat → Nat} : vs (vs v c f) c g = vs v c g := by
  funext d
  unfold vs
  by_cases h : d = c
  · rw [if_pos h, if_pos h]
  · rw [if_neg h, if_neg h, if_neg h]
theorem vs_self {v : Vw} {c : Nat} : vs v c (v c) = v := by
  funext d
  unfold vs
  by_cases h : d = c
  · rw [if_pos h, h]
  · rw [if_neg h]
section G
variable {σ μ : Sg} {v : Vw}
theorem c_common {a m : Nat} (h : a ≤ m) (hm : m ≤ 99) : pX10_commonPart (nI a) (nI m) = some (nI (Nat.gcd a m)) := by
  have key := c_gcd m a 0 2000 (by omega) (by omega) (by omega)
  rw [nI_0] at key
  have e1 : (if nI a < nI m then nI m else nI a) = nI m := by
    by_cases w : a < m
    · rw [if_pos (nI_lt w (by omega))]
    · rw [if_neg (nI_nlt (by omega) (by omega)), show a = m by omega]
  have e2 : (if nI m < nI a then nI m else nI a) = nI a := by
    rw [if_neg (nI_nlt h (by omega))]
  unfold pX10_commonPart
  rw [e1, e2, Option.bind_some, Option.bind_some]
  exact (bnd key).trans rfl
theorem eq_odds : EQ_odds := by
  intro v σ μ a1 a2 a3 a4 hI hRc hRm
  have hN := hI.1
  have hc := hRc.1
  have hm := hRm.1
  have h8 := hN.2.1
  unfold pX10_odds pX11_odds pX10_isNoForce pX11_isStorm
  rw [c_noAnchor hc, m_isAnchor hm]
  simp only [Option.bind_some]
  rcases out_lt a1 (n := v 0 1) (by omega) with ⟨h1, a, rfl, ha⟩ | ⟨h1, -⟩
  · have a8 : a < 8 := by omega
    rcases o1 a2 (H := 99) 99 rfl (by decide) with ⟨h2, m, rfl, hm1, hm9⟩ | ⟨h2, -⟩
    · rcases o0 a3 (H := 4) 4 rfl (by decide) with ⟨h3, n, rfl, hn⟩ | ⟨h3, -⟩
      · rcases o0 a4 (H := 1) 1 rfl (by decide) with ⟨h4, w, rfl, hw⟩ | ⟨h4, -⟩
        · have g2 : ¬ pX11_in (nI m) 1 99 = 0 := by rw [in_yes h2]; decide
          have g3 : ¬ pX11_in (nI n) 0 4 = 0 := by rw [in_yes h3]; decide
          have g4 : ¬ pX11_in (nI w) 0 1 = 0 := by rw [in_yes h4]; decide
          cases hl : liesV v a
          · refine same1 hI hRc hRm (o := -2) ?_ ?_
            · rw [h1, if_pos rfl, if_pos h2, if_pos h3, if_pos h4, c_liesV hc hN a8, hl, if_pos (by decide)]
            · rw [h1, if_neg (by decide), if_neg g2, if_neg g3, if_neg g4, m_lies hm hN a8, hl]
              rfl
          · obtain ⟨h, e1, e2⟩ := c_weighH hc hN (r := 20) (by decide) hc.2.2.2.2.2.2.2.2.2 hN.2.2.2.2.2
            have hc2 : RcN (sA σ 38 h) v := hc
            have q := (hN.2.2.2.2.2.1 a a8).1
            have hH := hold_le hN hN.2.2.2.2.2 (v 7 a)
            have e3 : pX8_holdOf σ (nI a) = some (nI (holdR v (v 7) (v 7 a)), sA σ 38 h) := by
              unfold pX8_holdOf
              rw [e1, Option.bind_some, c_get hc2 (k := 0) (K := 0) rfl (by omega), Nat.zero_add, sA_eq, at_nI q (by decide), e2 _ q]
            have hh : pX11_hold μ (nI a) = some (nI (holdR v (v 7) (v 7 a))) := m_hold hm hN ha
            obtain ⟨b, hb, hbm⟩ : ∃ b, b = (if m < holdR v (v 7) (v 7 a) then m else holdR v (v 7) (v 7 a)) ∧ b ≤ m := ⟨_, rfl, by split <;> omega⟩
            have e4 : (if nI m < nI (holdR v (v 7) (v 7 a)) then nI m else nI (holdR v (v 7) (v 7 a))) = nI b := by
              rw [hb]
              by_cases z : m < holdR v (v 7) (v 7 a)
              · rw [if_pos (nI_lt z (by omega)), if_pos z]
              · rw [if_neg (nI_nlt (by omega) (by omega)), if_neg z]
            have hg0 : 0 < Nat.gcd b m := Nat.gcd_pos_of_pos_right b hm1
            have hg1 : Nat.gcd b m ≤ m := Nat.le_of_dvd hm1 (Nat.gcd_dvd_right b m)
            have ps := pow_small m (by omega) b (by omega) n (by omega) hm1
            have pb := pow_99 (m := b) (n := n) (by omega) hn
            have pm := pow_99 (m := m) (n := n) (by omega) hn
            have pp : 0 < m ^ n := Nat.pow_pos hm1
            have hG0 : 0 < Nat.gcd (b ^ n) (m ^ n) := Nat.gcd_pos_of_pos_right _ pp
            have hG1 : Nat.gcd (b ^ n) (m ^ n) ≤ m ^ n := Nat.le_of_dvd pp (Nat.gcd_dvd_right _ _)
            have eM : ∀ (X : Option Int32 → Option Int32), (∀ y, X (some y) = some y) → ((pX11_odds_L76 μ (nI m) (nI n) (nI w) (nI b) 2000 1 1 0).bind fun w11 => (pX11_odds_L109 μ (nI w) w11.1 w11.2 2000 w11.1 w11.2).bind fun w15 => (if nI w = 0 then (dvI w11.1 w15).bind fun v19 => some v19 else (dvI w11.2 w15).bind fun v17 => some v17)) = some (if w = 0 then nI (b ^ n / Nat.gcd (b ^ n) (m ^ n)) else nI (m ^ n / Nat.gcd (b ^ n) (m ^ n))) := by
              intro _ _
              refine (bnd (m_pow μ (nI w) hn)).trans ?_
              have kg := m_gcd μ (nI w) (nI (b ^ n)) (nI (m ^ n)) 27 (b ^ n) (m ^ n) 2000 (by omega) (by omega) (by omega) (by omega)
              rw [Nat.gcd_comm] at kg
              refine (bnd kg).trans ?_
              rcases (show w = 0 ∨ w = 1 by omega) with rfl | rfl
              · rw [if_pos (show nI 0 = 0 from rfl), if_pos rfl, div_nI (by omega) hG0 (by omega)]; rfl
              · rw [if_neg (show ¬ nI 1 = 0 by decide), if_neg (by decide), div_nI (by omega) hG0 (by omega)]; rfl
            have eM := eM (fun x => x) (fun _ => rfl)
            refine same1 (σ' := sA σ 38 h) hI hRc hRm (o := if w = 0 then nI (b ^ n / Nat.gcd (b ^ n) (m ^ n)) else nI (m ^ n / Nat.gcd (b ^ n) (m ^ n))) ?_ ?_
            · rw [h1, if_pos rfl, if_pos h2, if_pos h3, if_pos h4, c_liesV hc hN a8, hl, if_neg (by decide), e3, Option.bind_some, e4, c_common hbm hm9, Option.bind_some, ps.1, ps.2]
              rcases (show w = 0 ∨ w = 1 by omega) with rfl | rfl
              · rw [if_pos (show nI 0 = 0 from rfl), if_pos rfl, divided_nI (by omega) hg0 (by omega), Option.bind_some, c_pow hn]; rfl
              · rw [if_neg (show ¬ nI 1 = 0 by decide), if_neg (by decide), divided_nI (by omega) hg0 (by omega), Option.bind_some, c_pow hn]; rfl
            · rw [h1, if_neg (by decide), if_neg g2, if_neg g3, if_neg g4]
              refine (bnd (m_lies hm hN a8)).trans ?_
              rw [hl, if_neg (by decide)]
              refine (bnd hh).trans ?_
              by_cases z : m ≤ holdR v (v 7) (v 7 a)
              · rw [if_pos (nI_le z (by omega))]
                rw [show b = m by rw [hb]; split <;> omega] at eM ⊢
                exact eM
              · rw [if_neg (nI_ge (by omega) (by omega))]
                refine (bnd hh).trans ?_
                rw [show b = holdR v (v 7) (v 7 a) by rw [hb]; split <;> omega] at eM ⊢
                exact eM
        · refine same1 hI hRc hRm (o := -1) ?_ ?_
          · rw [h1, if_pos rfl, if_pos h2, if_pos h3, h4, if_neg (by decide)]
          · rw [h1, if_neg (by decide), if_neg (show ¬ pX11_in (nI m) 1 99 = 0 by rw [in_yes h2]; decide), if_neg (show ¬ pX11_in (nI n) 0 4 = 0 by rw [in_yes h3]; decide), if_pos (in_no h4)]
      · refine same1 hI hRc hRm (o := -1) ?_ ?_
        · rw [h1, if_pos rfl, if_pos h2, h3, if_neg (by decide)]
        · rw [h1, if_neg (by decide), if_neg (show ¬ pX11_in (nI m) 1 99 = 0 by rw [in_yes h2]; decide), if_pos (in_no h3)]
    · refine same1 hI hRc hRm (o := -1) ?_ ?_
      · rw [h1, if_pos rfl, h2, if_neg (by decide)]
      · rw [h1, if_neg (by decide), if_pos (in_no h2)]
  · refine same1 hI hRc hRm (o := -1) ?_ ?_
    · rw [h1, if_neg (by decide)]
    · rw [h1, if_pos (by decide)]
end G
/-- the side of a row's k-th storm -/
def sideN (n rank k : Nat) : Nat := if rank.testBit (n - 1 - k) then 1 else 0
def sidesN (n rank k : Nat) : Nat := bitsN (fun j => rank.testBit (n - 1 - j)) k
def rowW (v : Vw) (F n rank : Nat) : Nat → Nat → Nat
  | 0 => v 7
  | k + 1 => blowR v (rowW v F n rank k) F (sideN n rank k) (v 0 1)
def lostW (v : Vw) (F n rank : Nat) : Nat → Nat
  | 0 => 0
  | k + 1 => lostW v F n rank k + lostN v (rowW v F n rank k) F (sideN n rank k) (v 0 1)
/-- the worst, and one more than how many it loses -/
def worstL (v : Vw) (F n : Nat) : Nat → Nat → Nat × Nat → Nat × Nat
  | 0, _, p => p
  | d + 1, rank, p => worstL v F n d (rank + 1) (if lostW v F n rank n < p.2 then p else (sidesN n rank n, lostW v F n rank n + 1))
theorem blow_cong {v v' : Vw} {f : Nat → Nat} {F s : Nat} (h : ∀ a, moveB v' f F a = moveB v f F a) : ∀ i, blowR v' f F s i = blowR v f F s i
  | 0 => rfl
  | i + 1 => by rw [blowR, blowR, h i, blow_cong h i]
theorem rowW_ok {v : Vw} (hI : InvN v) (F n rank : Nat) : ∀ k, rowOK (v 0 0) (rowW v F n rank k)
  | 0 => hI.2.2.2.2.2
  | k + 1 => blow_ok hI (rowW_ok hI F n rank k) _ (Nat.le_refl _)
theorem lostN_le {v : Vw} (hI : InvN v) (f : Nat → Nat) (F s : Nat) : lostN v f F s (v 0 1) ≤ 8 := by
  have h8 := hI.2.1
  have h := sumN_le (f := fun a => if moveB v f F a && edgeB f s a then 1 else 0) (n := v 0 1) (c := 1) (fun a _ => by
    show (if _ then 1 else 0) ≤ 1
    split <;> omega)
  unfold lostN
  omega
theorem lostW_le {v : Vw} (hI : InvN v) (F n rank : Nat) : ∀ k, lostW v F n rank k ≤ 8 * k
  | 0 => Nat.le_refl 0
  | k + 1 => by
    have h1 := lostW_le hI F n rank k
    have h2 := lostN_le hI (rowW v F n rank k) F (sideN n rank k)
    rw [lostW]
    omega
theorem side_le (n rank k : Nat) : sideN n rank k ≤ 1 := by unfold sideN; split <;> omega
theorem le_pred {a m : Nat} (ha : a ≤ 1000) (hm : m ≤ 1000) : (nI a ≤ nI m - 1) ↔ a < m := by
  cases m with
  | zero =>
    refine ⟨fun z => ?_, fun z => absurd z (Nat.not_lt_zero a)⟩
    rw [Int32.le_iff_toInt_le, nI_toInt (by omega), show (nI 0 - 1).toInt = -1 from rfl] at z
    omega
  | succ m =>
    rw [nI_pred, nI_leI (by omega) (by omega)]
    omega
section G
variable {σ μ : Sg} {v : Vw}
theorem c_sides (σ : Sg) {n rank : Nat} (hn : n ≤ 4) (hr : rank < 2 ^ 31) : pX8_sidesAt σ (nI rank) (nI n) = some (nI (sidesN n rank n)) := by
  have key := loop_up (fun m (s : Int32 × Int32) => pX8_sidesAt_L4 σ (nI rank) (nI n) m s.1 s.2) (fun i => (nI (sidesN n rank i), nI i)) n (some (nI (sidesN n rank n)))
    (by
      intro m i hi
      show pX8_sidesAt_L4 σ (nI rank) (nI n) (m + 1) (nI _) (nI i) = pX8_sidesAt_L4 σ (nI rank) (nI n) m (nI _) (nI (i + 1))
      obtain ⟨k, rfl⟩ : ∃ k, n = k + 1 := ⟨n - 1, by omega⟩
      rw [pX8_sidesAt_L4, if_neg (nI_ge hi (by omega)), nI_pred, pk_sub (by omega), has_nI hr (by omega), nI_1]
      unfold sidesN
      cases hb : rank.testBit (k - i)
      · rw [if_pos (by decide), bitsN_no (fun j => rank.testBit (k + 1 - 1 - j)) i hb]
      · rw [if_neg (by decide), bit_nI (by omega), bitsN_or (fun j => rank.testBit (k + 1 - 1 - j)) i hb, Option.bind_some])
    (by
      intro m
      show pX8_sidesAt_L4 σ (nI rank) (nI n) (m + 1) (nI _) (nI n) = _
      rw [pX8_sidesAt_L4, if_pos (nI_le (Nat.le_refl _) (by omega))]) n 0 2000 (by omega) (by omega)
  have key : pX8_sidesAt_L4 σ (nI rank) (nI n) 2000 (nI (sidesN n rank 0)) (nI 0) = some (nI (sidesN n rank n)) := key
  rw [nI_0, show nI (sidesN n rank 0) = 0 from rfl] at key
  unfold pX8_sidesAt
  exact (bnd key).trans rfl
theorem c_row {F n rank : Nat} (hI : InvN v) (hF : F ≤ 99) (hn : n ≤ 4) (x3 x4 x5 : Int32) : ∀ (d k m : Nat) (σ : Sg), k + d = n → d < m → Rc σ v → (∀ i, i < 45 → σ 37 i = nI (rowW v F n rank k i)) → ∃ σ', pX8_worstRow_L42 (nI F) (nI n) x3 x4 x5 (nI (sidesN n rank n)) m (nI (lostW v F n rank k)) (nI k) σ = some (nI (lostW v F n rank n), σ') ∧ Rc σ' v := by
  intro d
  induction d with
  | zero =>
    intro k m σ hk hm hR hr
    obtain ⟨m, rfl⟩ : ∃ q, m = q + 1 := ⟨m - 1, by omega⟩
    have e : k = n := by omega
    subst e
    refine ⟨σ, ?_, hR⟩
    rw [pX8_worstRow_L42, if_pos (nI_le (Nat.le_refl _) (by omega))]
  | succ d ih =>
    intro k m σ hk hm hR hr
    obtain ⟨m, rfl⟩ : ∃ q, m = q + 1 := ⟨m - 1, by omega⟩
    have hs := side_le n rank k
    obtain ⟨h, g, e1, e2⟩ := c_blow hR.1 hI (r := 37) (by decide) (by decide) hr (rowW_ok hI F n rank k) hF hs
    have hR2 : Rc (sA (sA σ 38 h) 37 g) v := hR
    obtain ⟨σ', f1, f2⟩ := ih (k + 1) m (sA (sA σ 38 h) 37 g) (by omega) (by omega) hR2 (fun i hi => by rw [sA_eq]; exact e2 i hi)
    refine ⟨σ', ?_, f2⟩
    have hb := bitsN_lt (fun j => rank.testBit (n - 1 - j)) n
    have hb2 : 2 ^ n ≤ 2 ^ 4 := Nat.pow_le_pow_right (by decide) hn
    have hh : pX10_has (nI (sidesN n rank n)) (nI k) = if rank.testBit (n - 1 - k) then 1 else 0 := by
      unfold sidesN
      rw [has_nI (by omega) (by omega), bitsN_bit, show decide (k < n) = true from decide_eq_true (by omega), Bool.true_and]
    rw [pX8_worstRow_L42, if_neg (nI_ge (by omega) (by omega)), hh]
    unfold sideN at e1
    rw [lostW] at f1
    unfold sideN at f1
    cases hbt : rank.testBit (n - 1 - k)
    · rw [hbt, if_neg (by decide)] at e1 f1
      rw [if_pos (by decide)]
      refine (bnd e1).trans ?_
      rw [nI_add, Option.bind_some, nI_1]
      exact f1
    · rw [hbt, if_pos rfl] at e1 f1
      rw [if_neg (by decide)]
      refine (bnd e1).trans ?_
      rw [nI_add, Option.bind_some, nI_1]
      exact f1
theorem c_worst {F n : Nat} (hI : InvN v) (hF : F ≤ 99) (hn : n ≤ 4) : ∀ (d rank m : Nat) (p : Nat × Nat) (σ : Sg), rank + d = 2 ^ n → d < m → p.2 ≤ 33 → Rc σ v → ∃ σ', pX8_worstRow_L8 (nI F) (nI n) m (nI p.1) (nI p.2 - 1) (nI rank) σ = some (nI (worstL v F n d rank p).1, nI (worstL v F n d rank p).2 - 1, σ') ∧ Rc σ' v := by
  have h16 : 2 ^ n ≤ 2 ^ 4 := Nat.pow_le_pow_right (by decide) hn
  intro d
  induction d with
  | zero =>
    intro rank m p σ hr hm hp hR
    obtain ⟨m, rfl⟩ : ∃ q, m = q + 1 := ⟨m - 1, by omega⟩
    refine ⟨σ, ?_, hR⟩
    rw [pX8_worstRow_L8, bit_nI (by omega), if_pos (nI_le (by omega) (by omega))]
    rfl
  | succ d ih =>
    intro rank m p σ hr hm hp hR
    obtain ⟨m, rfl⟩ : ∃ q, m = q + 1 := ⟨m - 1, by omega⟩
    have hc := hR.1
    have hrow : ∀ i, i < 45 → va_cpy (σ 20) (σ 37) 0 0 45 i = nI (v 7 i) := fun i hi => by
      rw [pk_cpy_in (by omega) (by omega), Nat.zero_add, Nat.sub_zero, hc.2.2.2.2.2.2.2.2.2 i hi]
    have e0 : pX5_becomes 37 20 σ = some (sA σ 37 (va_cpy (σ 20) (σ 37) 0 0 45)) := by
      unfold pX5_becomes
      rw [copy45]
      rfl
    have hR1 : Rc (sA σ 37 (va_cpy (σ 20) (σ 37) 0 0 45)) v := hR
    have hl := lostW_le hI F n rank n
    obtain ⟨σ2, f1, f2⟩ := c_row (rank := rank) hI hF hn (nI p.1) (nI p.2 - 1) (nI rank) n 0 2000 _ (by omega) (by omega) hR1 hrow
    rw [nI_0, show nI (lostW v F n rank 0) = 0 from rfl] at f1
    rw [pX8_worstRow_L8, bit_nI (by omega), if_neg (nI_ge (by omega) (by omega))]
    rw [show worstL v F n (d + 1) rank p = worstL v F n d (rank + 1) (if lostW v F n rank n < p.2 then p else (sidesN n rank n, lostW v F n rank n + 1)) from rfl]
    by_cases w : lostW v F n rank n < p.2
    · rw [if_pos w]
      obtain ⟨σ', g1, g2⟩ := ih (rank + 1) m p σ2 (by omega) (by omega) hp f2
      refine ⟨σ', ?_, g2⟩
      refine (bnd (c_sides σ hn (by omega))).trans ((bnd e0).trans ((bnd f1).trans ?_))
      rw [if_pos ((le_pred (by omega) (by omega)).mpr w), nI_1]
      exact g1
    · rw [if_neg w]
      obtain ⟨σ', g1, g2⟩ := ih (rank + 1) m (sidesN n rank n, lostW v F n rank n + 1) σ2 (by omega) (by omega) (by show lostW v F n rank n + 1 ≤ 33; omega) f2
      refine ⟨σ', ?_, g2⟩
      refine (bnd (c_sides σ hn (by omega))).trans ((bnd e0).trans ((bnd f1).trans ?_))
      rw [if_neg (fun z => w ((le_pred (by omega) (by omega)).mp z)), nI_1]
      rw [nI_pred] at g1
      exact g1
theorem k_30 (x1 x2 x3 : Int32) : pX11_wreck_L30 x1 x2 x3 2000 0 μ = some (sA μ 18 (va_cpy (μ 13) (μ 18) 0 0 45)) := by
  have key := loop_up (fun k (s : Int32 × Sg) => pX11_wreck_L30 x1 x2 x3 k s.1 s.2) (fun i => (nI i, sA μ 18 (va_cpy (μ 13) (μ 18) 0 0 i))) 45 (some (sA μ 18 (va_cpy (μ 13) (μ 18) 0 0 45)))
    (by
      intro k i hi
      show pX11_wreck_L30 x1 x2 x3 (k + 1) (nI i) (sA μ 18 _) = pX11_wreck_L30 x1 x2 x3 k (nI (i + 1)) (sA μ 18 _)
      have e2 : rdA (sA μ 18 (va_cpy (μ 13) (μ 18) 0 0 i)) 13 45 (nI i) = some (μ 13 i) := rd_nI (by omega) (by decide)
      rw [pX11_wreck_L30, if_neg (show ¬ (45 : Int32) ≤ nI i from nI_ge (b := 45) hi (by decide)), e2, Option.bind_some, wr_nI (by omega) (by decide), Option.bind_some, nI_1]
      have := cpy_s (σ := μ) (c := 18) (a := 0) (b := 0) (i := i) (f := μ 13) (g := μ 18)
      rw [Nat.zero_add] at this
      rw [this])
    (by
      intro k
      show pX11_wreck_L30 x1 x2 x3 (k + 1) (nI 45) (sA μ 18 _) = _
      rw [pX11_wreck_L30, if_pos (show (45 : Int32) ≤ nI 45 from nI_le (Nat.le_refl 45) (by decide))]) 45 0 2000 (by omega) (by omega)
  have key : pX11_wreck_L30 x1 x2 x3 2000 (nI 0) (sA μ 18 (va_cpy (μ 13) (μ 18) 0 0 0)) = _ := key
  rw [cpy_0, nI_0] at key
  exact key
theorem k_133 (x1 x2 x3 x4 x5 x6 x7 x8 : Int32) : pX11_wreck_L133 x1 x2 x3 x4 x5 x6 x7 x8 2000 0 μ = some (sA μ 13 (va_cpy (μ 18) (μ 13) 0 0 45)) := by
  have key := loop_up (fun k (s : Int32 × Sg) => pX11_wreck_L133 x1 x2 x3 x4 x5 x6 x7 x8 k s.1 s.2) (fun i => (nI i, sA μ 13 (va_cpy (μ 18) (μ 13) 0 0 i))) 45 (some (sA μ 13 (va_cpy (μ 18) (μ 13) 0 0 45)))
    (by
      intro k i hi
      show pX11_wreck_L133 x1 x2 x3 x4 x5 x6 x7 x8 (k + 1) (nI i) (sA μ 13 _) = pX11_wreck_L133 x1 x2 x3 x4 x5 x6 x7 x8 k (nI (i + 1)) (sA μ 13 _)
      have e2 : rdA (sA μ 13 (va_cpy (μ 18) (μ 13) 0 0 i)) 18 45 (nI i) = some (μ 18 i) := rd_nI (by omega) (by decide)
      rw [pX11_wreck_L133, if_neg (show ¬ (45 : Int32) ≤ nI i from nI_ge (b := 45) hi (by decide)), e2, Option.bind_some, wr_nI (by omega) (by decide), Option.bind_some, nI_1]
      have := cpy_s (σ := μ) (c := 13) (a := 0) (b := 0) (i := i) (f := μ 18) (g := μ 13)
      rw [Nat.zero_add] at this
      rw [this])
    (by
      intro k
      show pX11_wreck_L133 x1 x2 x3 x4 x5 x6 x7 x8 (k + 1) (nI 45) (sA μ 13 _) = _
      rw [pX11_wreck_L133, if_pos (show (45 : Int32) ≤ nI 45 from nI_le (Nat.le_refl 45) (by decide))]) 45 0 2000 (by omega) (by omega)
  have key : pX11_wreck_L133 x1 x2 x3 x4 x5 x6 x7 x8 2000 (nI 0) (sA μ 13 (va_cpy (μ 18) (μ 13) 0 0 0)) = _ := key
  rw [cpy_0, nI_0] at key
  exact key
theorem m_rowW {F n rank : Nat} (hI : Inv v) (hF : F ≤ 99) (hn : n ≤ 4) (hrk : rank < 2 ^ 31) (x3 x4 x5 : Int32) : ∀ (d k m : Nat) (μ : Sg), k + d = n → d < m → Rm μ (vs v 7 (rowW v F n rank k)) → (∀ i, i < 45 → μ 18 (mq i) = nI (v 7 i)) → ∃ (μ' : Sg) (f : Nat → Nat), pX11_wreck_L83 (nI F) (nI n) x3 x4 x5 (nI rank) m (nI (lostW v F n rank k)) (nI (sidesN n rank k)) (nI k) μ = some (nI (lostW v F n rank n), nI (sidesN n rank n), μ') ∧ Rm μ' (vs v 7 f) ∧ (∀ i, i < 45 → μ' 18 (mq i) = nI (v 7 i)) := by
  intro d
  induction d with
  | zero =>
    intro k m μ hk hm hR hs
    obtain ⟨m, rfl⟩ : ∃ q, m = q + 1 := ⟨m - 1, by omega⟩
    have e : k = n := by omega
    subst e
    refine ⟨μ, _, ?_, hR, hs⟩
    rw [pX11_wreck_L83, if_pos (nI_le (Nat.le_refl _) (by omega))]
  | succ d ih =>
    intro k m μ hk hm hR hs
    obtain ⟨m, rfl⟩ : ∃ q, m = q + 1 := ⟨m - 1, by omega⟩
    have hsd := side_le n rank k
    have hI2 : Inv (vs v 7 (rowW v F n rank k)) := Inv_row hI (rowW_ok hI.1 F n rank k)
    obtain ⟨g, e1, e2⟩ := m_blow hR.1 hI2.1 hF hsd
    have e1 : pX11_blow μ (nI F) (nI (sideN n rank k)) = some (nI (lostN v (rowW v F n rank k) F (sideN n rank k) (v 0 1)), sA μ 13 g) := e1
    have e2 : ∀ j, j < 45 → g (mq j) = nI (blowR v (rowW v F n rank k) F (sideN n rank k) (v 0 1) j) := fun j hj => by
      rw [e2 j hj]
      have hmv : ∀ a, moveB (vs v 7 (rowW v F n rank k)) (rowW v F n rank k) F a = moveB v (rowW v F n rank k) F a := fun a => rfl
      have ec : blowR (vs v 7 (rowW v F n rank k)) (rowW v F n rank k) F (sideN n rank k) (v 0 1) = blowR v (rowW v F n rank k) F (sideN n rank k) (v 0 1) := blow_cong hmv _
      exact congrArg nI (congrFun ec j)
    have hR2 := Rm_row hR e2
    rw [vs_vs] at hR2
    obtain ⟨μ', f, f1, f2, f3⟩ := ih (k + 1) m (sA μ 13 g) (by omega) (by omega) hR2 hs
    refine ⟨μ', f, ?_, f2, f3⟩
    have hv : (nI rank >>> ((nI n - 1 - nI k) &&& 31)) &&& 1 = nI (sideN n rank k) := by
      obtain ⟨q, rfl⟩ : ∃ q, n = q + 1 := ⟨n - 1, by omega⟩
      rw [nI_pred, pk_sub (by omega), pk_shrN hrk _ (q - k) (s_l (q - k) (by omega)), show (1 : Int32) = nI 1 from rfl, fa_and, Nat.and_one_is_mod]
      unfold sideN
      rw [show q + 1 - 1 - k = q - k by omega, Nat.testBit_eq_decide_div_mod_eq]
      by_cases z : rank / 2 ^ (q - k) % 2 = 1
      · rw [z]; rfl
      · rw [if_neg (by simp [z]), show rank / 2 ^ (q - k) % 2 = 0 by omega]
    have hside : nI (sidesN n rank k) ||| (nI (sideN n rank k) <<< (nI k &&& 31)) = nI (sidesN n rank (k + 1)) := by
      unfold sidesN sideN
      cases hb : rank.testBit (n - 1 - k)
      · rw [if_neg (by decide), pk_shlN _ k (s_l k (by omega)) (by omega), Nat.zero_mul, nI_0, or_z, bitsN_no (fun j => rank.testBit (n - 1 - j)) k hb]
      · have h2 : 2 ^ k < 2 ^ 31 := Nat.pow_lt_pow_right (by decide) (by omega)
        rw [if_pos rfl, pk_shlN _ k (s_l k (by omega)) (by omega), Nat.one_mul, bitsN_or (fun j => rank.testBit (n - 1 - j)) k hb]
    rw [pX11_wreck_L83, if_neg (nI_ge (by omega) (by omega)), hv, Option.bind_some, hside, Option.bind_some]
    refine (bnd e1).trans ?_
    rw [nI_add, Option.bind_some, nI_1]
    exact f1
theorem m_worst {F n : Nat} (hI : Inv v) (hF : F ≤ 99) (hn : n ≤ 4) (x3 : Int32) : ∀ (d rank m : Nat) (p : Nat × Nat) (μ : Sg), rank + d = 2 ^ n → d < m → p.2 ≤ 33 → Rm μ v → (∀ i, i < 45 → μ 18 (mq i) = nI (v 7 i)) → ∃ μ', pX11_wreck_L66 (nI F) (nI n) x3 m (nI p.2 - 1) (nI p.1) (nI rank) μ = some (nI (worstL v F n d rank p).2 - 1, nI (worstL v F n d rank p).1, μ') ∧ Rm μ' v := by
  have h16 : 2 ^ n ≤ 2 ^ 4 := Nat.pow_le_pow_right (by decide) hn
  intro d
  induction d with
  | zero =>
    intro rank m p μ hr hm hp hR hs
    obtain ⟨m, rfl⟩ : ∃ q, m = q + 1 := ⟨m - 1, by omega⟩
    refine ⟨μ, ?_, hR⟩
    rw [pX11_wreck_L66, m_shl (by omega), if_pos (nI_le (by omega) (by omega))]
    rfl
  | succ d ih =>
    intro rank m p μ hr hm hp hR hs
    obtain ⟨m, rfl⟩ : ∃ q, m = q + 1 := ⟨m - 1, by omega⟩
    have hl := lostW_le hI.1 F n rank n
    obtain ⟨μ2, f, f1, f2, f3⟩   := m_rowW (rank := rank) hI hF hn (by omega) x3 (nI p.2 - 1) (nI p.1) n 0 2000 μ (by omega) (by omega) (by
      show Rm μ (vs v 7 (v 7))
      rw [vs_self]; exact hR) hs
    rw [nI_0, show nI (lostW v F n rank 0) = 0 from rfl, show nI (sidesN n rank 0) = 0 from rfl] at f1
    have hR3 : Rm (sA μ2 13 (va_cpy (μ2 18) (μ2 13) 0 0 45)) v := by
      have := Rm_row (g := va_cpy (μ2 18) (μ2 13) 0 0 45) (f := v 7) f2 (fun i hi => by
        have hq := mq_lt hi
        rw [pk_cpy_in (by omega) (by omega), Nat.zero_add, Nat.sub_zero]
        exact f3 i hi)
      rw [vs_vs, vs_self] at this
      exact this
    have hs3 : ∀ i, i < 45 → (sA μ2 13 (va_cpy (μ2 18) (μ2 13) 0 0 45)) 18 (mq i) = nI (v 7 i) := f3
    rw [pX11_wreck_L66, m_shl (by omega), if_neg (nI_ge (by omega) (by omega))]
    rw [show worstL v F n (d + 1) rank p = worstL v F n d (rank + 1) (if lostW v F n rank n < p.2 then p else (sidesN n rank n, lostW v F n rank n + 1)) from rfl]
    by_cases w : lostW v F n rank n < p.2
    · rw [if_pos w]
      obtain ⟨μ', g1, g2⟩ := ih (rank + 1) m p _ (by omega) (by omega) hp hR3 hs3
      refine ⟨μ', ?_, g2⟩
      refine (bnd f1).trans ((bnd (k_133 _ _ _ _ _ _ _ _)).trans ?_)
      rw [if_pos ((le_pred (by omega) (by omega)).mpr w), nI_1]
      exact g1
    · rw [if_neg w]
      obtain ⟨μ', g1, g2⟩ := ih (rank + 1) m (sidesN n rank n, lostW v F n rank n + 1) _ (by omega) (by omega) (by show lostW v F n rank n + 1 ≤ 33; omega) hR3 hs3
      refine ⟨μ', ?_, g2⟩
      refine (bnd f1).trans ((bnd (k_133 _ _ _ _ _ _ _ _)).trans ?_)
      rw [if_neg (fun z => w ((le_pred (by omega) (by omega)).mp z)), nI_1]
      rw [nI_pred] at g1
      exact g1
theorem worst_bd {F n : Nat} (hI : InvN v) (hn : n ≤ 4) : ∀ (d rank : Nat) (p : Nat × Nat), 0 < d → p.1 < 16 → p.2 ≤ 33 → (worstL v F n d rank p).1 < 16 ∧ 1 ≤ (worstL v F n d rank p).2 ∧ (worstL v F n d rank p).2 ≤ 33 := by
  have hb : ∀ rank, sidesN n rank n < 16 := fun rank => by
    have := bitsN_lt (fun j => rank.testBit (n - 1 - j)) n
    have hb2 : 2 ^ n ≤ 2 ^ 4 := Nat.pow_le_pow_right (by decide) hn
    unfold sidesN
    omega
  intro d
  induction d with
  | zero => intro rank p h; omega
  | succ d ih =>
    intro rank p _ h1 h2
    have hl := lostW_le hI F n rank n
    have hs := hb rank
    rw [worstL]
    obtain ⟨p', hp', q1, q2, q3⟩ : ∃ p', p' = (if lostW v F n rank n < p.2 then p else (sidesN n rank n, lostW v F n rank n + 1)) ∧ p'.1 < 16 ∧ 1 ≤ p'.2 ∧ p'.2 ≤ 33 := by
      refine ⟨_, rfl, ?_⟩
      split
      · exact ⟨h1, by omega, h2⟩
      · exact ⟨hs, Nat.succ_le_succ (Nat.zero_le _), by show lostW v F n rank n + 1 ≤ 33; omega⟩
    rw [← hp']
    rcases Nat.eq_zero_or_pos d with h0 | h0
    · subst h0
      exact ⟨q1, q2, q3⟩
    · exact ih (rank + 1) p' h0 q1 q3
theorem eq_wreck : EQ_wreck := by
  intro v σ μ a1 a2 a3 hI hRc hRm
  have hN := hI.1
  unfold pX10_wreck pX11_wreck pX10_isNoForce pX11_isStorm
  rcases o1 a1 (H := 99) 99 rfl (by decide) with ⟨h1, F, rfl, hF1, hF⟩ | ⟨h1, -⟩
  · rcases o0 a2 (H := 4) 4 rfl (by decide) with ⟨h2, n, rfl, hn⟩ | ⟨h2, -⟩
    · rcases o0 a3 (H := 1) 1 rfl (by decide) with ⟨h3, w, rfl, hw⟩ | ⟨h3, -⟩
      · have h16 : 2 ^ n ≤ 2 ^ 4 := Nat.pow_le_pow_right (by decide) hn
        have hp := Nat.two_pow_pos n
        obtain ⟨σ', c1, c2⟩ := c_worst hN hF hn (2 ^ n) 0 2000 (0, 0) σ (by omega) (by omega) (by decide) hRc
        have hR1 : Rm (sA μ 18 (va_cpy (μ 13) (μ 18) 0 0 45)) v := hRm
        obtain ⟨μ', m1, m2⟩ := m_worst hI hF hn (nI w) (2 ^ n) 0 2000 (0, 0) _ (by omega) (by omega) (by decide) hR1 (fun i hi => by
          have hq := mq_lt hi
          show va_cpy (μ 13) (μ 18) 0 0 45 (mq i) = nI (v 7 i)
          rw [pk_cpy_in (by omega) (by omega), Nat.zero_add, Nat.sub_zero]
          exact hRm.1.2.2.2.2.2.2.2.2 i hi)
        obtain ⟨b1, b2, b3⟩ := worst_bd (F := F) hN hn (2 ^ n) 0 (0, 0) hp (by decide) (by decide)
        obtain ⟨q, hq⟩ : ∃ q, (worstL v F n (2 ^ n) 0 (0, 0)).2 = q + 1 := ⟨_ - 1, (Nat.sub_add_cancel b2).symm⟩
        obtain ⟨r, hr⟩ : ∃ r, (worstL v F n (2 ^ n) 0 (0, 0)).1 = r := ⟨_, rfl⟩
        rw [hq, hr, nI_pred] at c1 m1
        rw [hr] at b1
        rw [hq] at b3
        have c1 : pX8_worstRow_L8 (nI F) (nI n) 2000 (nI 0) (nI 0 - 1) (nI 0) σ = some (nI r, nI q, σ') := c1
        have m1 : pX11_wreck_L66 (nI F) (nI n) (nI w) 2000 (nI 0 - 1) (nI 0) (nI 0) _ = some (nI q, nI r, μ') := m1
        rw [nI_0, show (0 : Int32) - 1 = -1 from rfl] at c1 m1
        have eC : pX8_worstRow σ (nI F) (nI n) = some (nI (16 * q + r), σ') := by
          unfold pX8_worstRow
          refine (bnd c1).trans ?_
          show some ((nI q <<< (4 &&& 31)) ||| nI r, σ') = _
          rw [show (4 : Int32) &&& 31 = nI 4 &&& 31 from rfl, pk_shlN _ 4 (s_l 4 (by decide)) (by omega), show q * 2 ^ 4 = 2 ^ 4 * q from Nat.mul_comm _ _, fa_or_sum (k := 4) q (by omega)]
        refine diff (v' := v) (σ' := σ') (μ' := μ') (o := if w = 0 then nI q else nI r) ?_ ?_ hI c2 m2
        · rw [if_pos h1, if_pos h2, if_pos h3]
          refine (bnd eC).trans ?_
          rcases (show w = 0 ∨ w = 1 by omega) with rfl | rfl
          · rw [if_pos (show nI 0 = 0 from rfl), if_pos rfl]
            show some (nI (16 * q + r) >>> (nI 4 &&& 31), σ') = _
            rw [pk_shrN (by omega) _ 4 (s_l 4 (by decide)), show (16 * q + r) / 2 ^ 4 = q by omega]
          · rw [if_neg (show ¬ nI 1 = 0 by decide), if_neg (by decide)]
            show some (nI (16 * q + r) &&& (pX10_bit 4 - 1), σ') = _
            rw [pk_andN (by omega) 4 (by decide), show (16 * q + r) % 2 ^ 4 = r by omega]
        · rw [if_neg (show ¬ pX11_in (nI F) 1 99 = 0 by rw [in_yes h1]; decide), if_neg (show ¬ pX11_in (nI n) 0 4 = 0 by rw [in_yes h2]; decide), if_neg (show ¬ pX11_in (nI w) 0 1 = 0 by rw [in_yes h3]; decide)]
          refine (bnd (k_30 _ _ _)).trans ((bnd m1).trans ?_)
          rcases (show w = 0 ∨ w = 1 by omega) with rfl | rfl
          · rw [if_pos (show nI 0 = 0 from rfl), if_pos rfl]
          · rw [if_neg (show ¬ nI 1 = 0 by decide), if_neg (by decide)]
      · refine same hI hRc hRm (o := -1) ?_ ?_
        · rw [if_pos h1, if_pos h2, h3, if_neg (by decide)]
        · rw [if_neg (show ¬ pX11_in (nI F) 1 99 = 0 by rw [in_yes h1]; decide), if_neg (show ¬ pX11_in (nI n) 0 4 = 0 by rw [in_yes h2]; decide), if_pos (in_no h3)]
    · refine same hI hRc hRm (o := -1) ?_ ?_
      · rw [if_pos h1, h2, if_neg (by decide)]
      · rw [if_neg (show ¬ pX11_in (nI F) 1 99 = 0 by rw [in_yes h1]; decide), if_pos (in_no h2)]
  · refine same hI hRc hRm (o := -1) ?_ ?_
    · rw [h1, if_neg (by decide)]
    · rw [if_pos (in_no h1)]
end G
