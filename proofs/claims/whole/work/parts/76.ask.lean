/-! ask, mark -/
theorem sumN_le2 {f g : Nat → Nat} : ∀ {n : Nat}, (∀ k, k < n → f k ≤ g k) → sumN f n ≤ sumN g n
  | 0, _ => Nat.le_refl 0
  | n + 1, h => by
    have h1 := sumN_le2 (n := n) (fun k hk => h k (by omega))
    have h2 := h n (by omega)
    rw [sumN, sumN]
    omega
def partV (v : Vw) (F : Nat) : Nat := sumN (fun a => if fitB v (v 0 3) a && decide (F ≤ strV v a) then 1 else 0) (v 0 1)
def askG (v : Vw) (F : Nat) : Nat := if partV v F < popN (fitV v) - partV v F then popN (fitV v) - partV v F else partV v F
def askL (v : Vw) : Nat → Nat → Nat → Int32 → Int32
  | 0, _, _, b => b
  | k + 1, F, l, b => if l ≤ askG v F then askL v k (F + 1) l b else askL v k (F + 1) (askG v F) (nI F)
theorem all_sum {v : Vw} (hI : InvN v) : popN (fitV v) = sumN (fun a => if fitB v (v 0 3) a then 1 else 0) (v 0 1) := pop_bits _ hI.2.1
theorem part_all {v : Vw} (hI : InvN v) (F : Nat) : partV v F ≤ popN (fitV v) := by
  rw [all_sum hI]
  refine sumN_le2 (fun a _ => ?_)
  cases fitB v (v 0 3) a
  · exact Nat.le_refl _
  · show (if (true && _) = true then 1 else 0) ≤ 1
    split <;> omega
theorem askG_le {v : Vw} (hI : InvN v) (F : Nat) : askG v F ≤ 8 := by
  have h1 := part_all hI F
  have h2 := popN_le (fitV v)
  unfold askG
  split <;> omega
theorem bnd {A B : Type} {x : Option A} {a : A} {f : A → Option B} (h : x = some a) : x.bind f = f a := by rw [h]; rfl
section EQ
variable {σ μ : Sg} {v : Vw}
theorem c_ask (hR : RcN σ v) (hI : InvN v) (h46 : ∀ a, a < v 0 1 → σ 46 a = nI (strV v a)) : ∀ (k F n l : Nat) (b : Int32), F + k = 100 → k < n → l ≤ 8 → pX1_bestQuestion_L19 σ (nI (fitV v)) (nI (popN (fitV v))) n (nI l) b (nI F) = some (askL v k F l b) := by
  have h8 := hI.2.1
  intro k
  induction k with
  | zero =>
    intro F n l b hi hn hl
    obtain ⟨n, rfl⟩ : ∃ q, n = q + 1 := ⟨n - 1, by omega⟩
    rw [pX1_bestQuestion_L19, if_pos (show (99 : Int32) < nI F from nI_lt (a := 99) (by omega) (by omega))]
    rfl
  | succ k ih =>
    intro F n l b hi hn hl
    obtain ⟨n, rfl⟩ : ∃ q, n = q + 1 := ⟨n - 1, by omega⟩
    have h1 := part_all hI F
    have h2 := popN_le (fitV v)
    have h3 := askG_le hI F
    have hb := bitsN_lt (fun a => fitB v (v 0 3) a && decide (F ≤ strV v a)) (v 0 1)
    have hb2 : 2 ^ v 0 1 ≤ 2 ^ 8 := Nat.pow_le_pow_right (by decide) h8
    rw [pX1_bestQuestion_L19, if_neg (show ¬ (99 : Int32) < nI F from nI_nlt (a := 99) (by omega) (by decide)), c_hold46 hR hI h46 (by omega)]
    simp only [Option.bind_some]
    rw [show nI (fitV v) = nI (bitsN (fitB v (v 0 3)) (v 0 1)) from rfl, bitsN_and, c_bits (by omega), pop_bits _ h8, show sumN (fun a => if (fitB v (v 0 3) a && decide (F ≤ strV v a)) = true then 1 else 0) (v 0 1) = partV v F from rfl, pk_sub h1, show nI (bitsN (fitB v (v 0 3)) (v 0 1)) = nI (fitV v) from rfl, nI_1]
    rw [show (if nI (partV v F) < nI (popN (fitV v) - partV v F) then nI (popN (fitV v) - partV v F) else nI (partV v F)) = nI (askG v F) by
      unfold askG
      by_cases q : partV v F < popN (fitV v) - partV v F
      · rw [if_pos (nI_lt q (by omega)), if_pos q]
      · rw [if_neg (nI_nlt (by omega) (by omega)), if_neg q]]
    rw [askL]
    by_cases q : l ≤ askG v F
    · rw [if_pos (nI_le q (by omega)), if_pos q]
      exact ih (F + 1) n l b (by omega) (by omega) hl
    · rw [if_neg (nI_ge (by omega) (by omega)), if_neg q]
      exact ih (F + 1) n (askG v F) (nI F) (by omega) (by omega) h3
theorem m_part (hR : RmN μ v) (hI : InvN v) (x2 x3 : Int32) {F : Nat} (hF : F ≤ 99) : pX11_ask_L29 μ (nI (fitV v)) x2 x3 (nI F) 2000 0 0 = some (nI (partV v F)) := by
  have h8 := hI.2.1
  have hf := fitV_lt hI
  exact loop_up (fun n (s : Int32 × Int32) => pX11_ask_L29 μ (nI (fitV v)) x2 x3 (nI F) n s.1 s.2) (fun i => (nI (sumN (fun a => if fitB v (v 0 3) a && decide (F ≤ strV v a) then 1 else 0) i), nI i)) (v 0 1) (some (nI (partV v F)))
    (by
      intro n i hi
      show pX11_ask_L29 μ (nI (fitV v)) x2 x3 (nI F) (n + 1) (nI _) (nI i) = pX11_ask_L29 μ (nI (fitV v)) x2 x3 (nI F) n (nI _) (nI (i + 1))
      have hs := strV_le hI hi
      have ht : (fitV v).testBit i = fitB v (v 0 3) i := by
        unfold fitV
        rw [bitsN_bit, show decide (i < v 0 1) = true from decide_eq_true hi, Bool.true_and]
      rw [pX11_ask_L29]
      simp only [m_na hR, Option.bind_some, m_str hR hI hi]
      rw [if_neg (nI_ge hi (by omega)), m_has (by omega) (by omega), ht, sumN, nI_1]
      cases hb : fitB v (v 0 3) i
      · rw [if_pos (by decide), add_z]; rfl
      · rw [if_neg (by decide)]
        by_cases q : strV v i < F
        · rw [if_pos (nI_lt q (by omega)), add_z, show decide (F ≤ strV v i) = false from decide_eq_false (by omega)]; rfl
        · rw [if_neg (nI_nlt (by omega) (by omega)), show (1 : Int32) = nI 1 from rfl, nI_add, show decide (F ≤ strV v i) = true from decide_eq_true (by omega)]; rfl)
    (by
      intro n
      show pX11_ask_L29 μ (nI (fitV v)) x2 x3 (nI F) (n + 1) (nI _) (nI (v 0 1)) = _
      rw [pX11_ask_L29]
      simp only [m_na hR, Option.bind_some]
      rw [if_pos (nI_le (Nat.le_refl _) (by omega))]
      rfl) (v 0 1) 0 2000 (by omega) (by omega)
theorem m_ask (hR : RmN μ v) (hI : InvN v) : ∀ (k F n l : Nat) (b : Int32), F + k = 100 → k < n → l ≤ 8 → pX11_ask_L16 μ (nI (fitV v)) n b (nI l) (nI F) = some (askL v k F l b) := by
  have h8 := hI.2.1
  have hf := fitV_lt hI
  intro k
  induction k with
  | zero =>
    intro F n l b hi hn hl
    obtain ⟨n, rfl⟩ : ∃ q, n = q + 1 := ⟨n - 1, by omega⟩
    rw [pX11_ask_L16, if_pos (show (99 : Int32) < nI F from nI_lt (a := 99) (by omega) (by omega))]
    rfl
  | succ k ih =>
    intro F n l b hi hn hl
    obtain ⟨n, rfl⟩ : ∃ q, n = q + 1 := ⟨n - 1, by omega⟩
    have h1 := part_all hI F
    have h2 := popN_le (fitV v)
    have h3 := askG_le hI F
    rw [pX11_ask_L16, if_neg (show ¬ (99 : Int32) < nI F from nI_nlt (a := 99) (by omega) (by decide)), m_part hR hI _ _ (by omega)]
    simp only [Option.bind_some, m_bits (show fitV v < 2 ^ 31 by omega)]
    rw [pk_sub h1]
    rw [show (if nI (popN (fitV v) - partV v F) ≤ nI (partV v F) then some (nI (partV v F)) else some (nI (popN (fitV v) - partV v F))) = some (nI (askG v F)) by
      unfold askG
      by_cases q : partV v F < popN (fitV v) - partV v F
      · rw [if_neg (nI_ge q (by omega)), if_pos q]
      · rw [if_pos (nI_le (by omega) (by omega)), if_neg q]]
    simp only [Option.bind_some]
    rw [askL, nI_1]
    by_cases q : l ≤ askG v F
    · rw [if_pos (nI_le q (by omega)), if_pos q]
      exact ih (F + 1) n l b (by omega) (by omega) hl
    · rw [if_neg (nI_ge (by omega) (by omega)), if_neg q]
      exact ih (F + 1) n (askG v F) (nI F) (by omega) (by omega) h3
theorem eq_ask : EQ_ask := by
  intro v σ μ hI hRc hRm
  have hN := hI.1
  have hm := hRm.1
  have hf := fitV_lt hN
  obtain ⟨g, h1, h2⟩ := c_fitting hRc hI
  have hR2 : RcN (sA σ 46 g) v := hRc.1
  refine same1 (σ' := sA σ 46 g) hI hRc hRm (o := askL v 99 1 (popN (fitV v)) (-9)) ?_ ?_
  · have key := c_ask hR2 hN (by rw [sA_eq]; exact h2) 99 1 2000 (popN (fitV v)) (-9) rfl (by omega) (popN_le _)
    rw [show nI 1 = (1 : Int32) from rfl] at key
    unfold pX10_ask pX1_bestQuestion
    refine (bnd (a := (askL v 99 1 (popN (fitV v)) (-9), sA σ 46 g)) ?_).trans rfl
    refine (bnd h1).trans ?_
    refine (bnd rfl).trans ?_
    refine (bnd (a := askL v 99 1 (popN (fitV v)) (-9)) ?_).trans rfl
    show pX1_bestQuestion_L19 (sA σ 46 g) (nI (fitV v)) (pJ6_bitCount (nI (fitV v))) 2000 (pJ6_bitCount (nI (fitV v))) (-9) 1 = _
    rw [c_bits hf]
    exact key
  · have key := m_ask hm hN 99 1 2000 (popN (fitV v)) (-9) rfl (by omega) (popN_le _)
    rw [show nI 1 = (1 : Int32) from rfl] at key
    unfold pX11_ask
    refine (bnd (m_fits hRm hI)).trans ?_
    refine (bnd (m_bits (show fitV v < 2 ^ 31 by omega))).trans ?_
    exact (bnd key).trans rfl
theorem int_z (x : Int32) : x - (0 : Int32) = x := by simp
theorem int_p (x : Int32) : x + (0 : Int32) = x := by simp
theorem int_2 (x : Int32) : x * 2 = 2 * x := Int32.mul_comm x 2
theorem mst0 {σ : Sg} {x2 x3 : Int32} {n : Nat} {x4 : Int64} {x6 : Int32} {τ : Int64} (h : ¬ 6 ≤ x6) (h2 : pX11_has x3 x6 = 0) : pX11_mark_L31 σ x2 x3 (n + 1) x4 x6 τ = pX11_mark_L31 σ x2 x3 n (x4 * 10) (x6 + 1) (τ + 0) := by
  rw [pX11_mark_L31, if_neg h, if_pos h2]; rfl
theorem mst1 {σ : Sg} {x2 x3 : Int32} {n : Nat} {x4 : Int64} {x6 : Int32} {τ : Int64} (h : ¬ 6 ≤ x6) (h2 : ¬ pX11_has x3 x6 = 0) : pX11_mark_L31 σ x2 x3 (n + 1) x4 x6 τ = pX11_mark_L31 σ x2 x3 n (x4 * 10) (x6 + 1) (τ + x4) := by
  rw [pX11_mark_L31, if_neg h, if_neg h2]; rfl
theorem mstE {σ : Sg} {x2 x3 : Int32} {n : Nat} {x4 : Int64} {x6 : Int32} {τ : Int64} (h : 6 ≤ x6) : pX11_mark_L31 σ x2 x3 (n + 1) x4 x6 τ = some τ := by
  rw [pX11_mark_L31, if_pos h]
theorem mk0 {v : Vw} {σ : Sg} {a : Nat} (e1 : pX9_strengthOf 20 σ (nI a) = some (nI (strV v a))) (d : Nat) (τ : Int64) {x3 : Int32} (h : 1 ≤ x3) : pX4_markAs (d + 1) σ τ 0 (nI a) x3 = some (nI (strV v a), τ + 1) := by
  rw [pX4_markAs, if_pos h, Option.bind_some, if_pos rfl, e1]
  rfl
theorem mkS {σ : Sg} {a : Nat} (d : Nat) (τ : Int64) {k x3 : Int32} (h : 1 ≤ x3) (hk : ¬ k = 0) {s : Int32} {τ' : Int64} (hr : pX4_markAs d σ (τ + ((pX10_at f_LEAVES 6 k).toInt64)) (pX10_at f_ABOVE 6 k) (nI a) (x3 - 1) = some (s, τ')) : pX4_markAs (d + 1) σ τ k (nI a) x3 = (if k = 1 then some (s + (pX10_at (σ 6) 8 (nI a)), τ') else (if k = 2 then some (s - (pX5_get 20 σ 16 (nI a)), τ') else (if k = 3 then some (s * 2, τ') else (if k = 4 then some (s + nI a, τ') else (if k = 5 then some (s + (pX5_get 20 σ 38 (pX10_at (σ 4) 8 (nI a))), τ') else some (s, τ')))))) := by
  rw [pX4_markAs, if_pos h, Option.bind_some, if_neg hk, hr]
  rfl
theorem mkfin {x y : Option (Int32 × Int64)} {s : Int32} {τ' : Int64} {o2 : Int32 × Int64} (cl : x = some (s, τ')) (h2 : y = some o2) (h3 : (s, τ') = o2) : ∃ (o o2 : Int32 × Int64), (x.bind fun u1 => some (u1.1, u1.2)) = some o ∧ y = some o2 ∧ o = o2 := ⟨(s, τ'), o2, by rw [cl]; rfl, h2, h3⟩
theorem eq_mark : EQ_mark := by
  intro τ v σ μ a1 a2 hI hRc hRm
  have hN := hI.1
  have hc := hRc.1
  have hm := hRm.1
  have h6 := hN.1
  have h8 := hN.2.1
  unfold pX10_mark pX11_mark
  rw [c_noAnchor hc]
  rcases o0 a1 (H := 5) 5 rfl (by decide) with ⟨h1, k, rfl, hk⟩ | ⟨h1, -⟩
  · rw [if_pos h1, if_neg (show ¬ pX11_in (nI k) 0 5 = 0 by rw [in_yes h1]; decide), m_isAnchor hm]
    rcases out_lt a2 (n := v 0 1) (by omega) with ⟨h2, a, rfl, ha⟩ | ⟨h2, -⟩
    · rw [h2, if_pos rfl, Option.bind_some, if_neg (by decide)]
      have ho := (hN.2.2.2.1 a ha).1
      have e1 := c_str hc hN ha
      have e2 : pX10_at (σ 6) 8 (nI a) = nI (v 5 a) := by rw [at_nI (by omega) (by decide), hc.2.2.2.2.2.2.2.1 a ha]
      have e3 : pX5_get 20 σ 16 (nI a) = nI (v 7 (16 + a)) := c_get hc (k := 16) (K := 16) rfl (by omega)
      have e4 : pX10_at (σ 4) 8 (nI a) = nI (v 3 a) := by rw [at_nI (by omega) (by decide), hc.2.2.2.2.2.1 a ha]
      have e5 : pX5_get 20 σ 38 (nI (v 3 a)) = nI (v 7 (38 + v 3 a)) := c_get hc (k := 38) (K := 38) rfl (by omega)
      have d1 := m_str hm hN ha
      have d2 := m_wth hm ha h8
      have d3 := m_age hm (show a < 8 by omega)
      have d4 := m_own hm ha h8
      have d5 := m_wlt hm (show v 3 a < 6 by omega)
      rcases (show k = 0 ∨ k = 1 ∨ k = 2 ∨ k = 3 ∨ k = 4 ∨ k = 5 by omega) with rfl | rfl | rfl | rfl | rfl | rfl
      · have lp : pX11_mark_L31 μ (nI a) 1 2000 1 0 τ = some _ := (mst1 (n := 1999) (by decide) (by decide)).trans <| (mst0 (n := 1998) (by decide) (by decide)).trans <| (mst0 (n := 1997) (by decide) (by decide)).trans <| (mst0 (n := 1996) (by decide) (by decide)).trans <| (mst0 (n := 1995) (by decide) (by decide)).trans <| (mst0 (n := 1994) (by decide) (by decide)).trans <| mstE (n := 1993) (by decide)
        have g1 : pX11_has 1 1 = 0 := by decide
        have g2 : pX11_has 1 2 = 0 := by decide
        have g3 : pX11_has 1 3 = 0 := by decide
        have g4 : pX11_has 1 4 = 0 := by decide
        have g5 : pX11_has 1 5 = 0 := by decide
        have cl := mk0 e1 9 τ (x3 := 3) (by decide)
        refine mkfin cl (o2 := ((((nI (strV v a) + 0) - 0) + 0 + 0 : Int32), (τ + 1 + 0 + 0 + 0 + 0 + 0 : Int64))) ?_ ?_
        · simp only [show pX11_bodiesOf (nI 0) = 1 by decide, Option.bind_some, lp, d1, d2, d3, d4, d5, g1, g2, g3, g4, g5, ↓reduceIte]
        · refine Prod.ext ?_ ?_
          · simp only [int_z, int_p, int_2]
          · simp only [Int64.add_assoc]
            exact congrArg (fun z => τ + z) (by decide)
      · have lp : pX11_mark_L31 μ (nI a) 3 2000 1 0 τ = some _ := (mst1 (n := 1999) (by decide) (by decide)).trans <| (mst1 (n := 1998) (by decide) (by decide)).trans <| (mst0 (n := 1997) (by decide) (by decide)).trans <| (mst0 (n := 1996) (by decide) (by decide)).trans <| (mst0 (n := 1995) (by decide) (by decide)).trans <| (mst0 (n := 1994) (by decide) (by decide)).trans <| mstE (n := 1993) (by decide)
        have g1 : ¬ pX11_has 3 1 = 0 := by decide
        have g2 : pX11_has 3 2 = 0 := by decide
        have g3 : pX11_has 3 3 = 0 := by decide
        have g4 : pX11_has 3 4 = 0 := by decide
        have g5 : pX11_has 3 5 = 0 := by decide
        have r0 := mk0 e1 8 (τ + ((pX10_at f_LEAVES 6 1).toInt64)) (x3 := (3 - 1)) (by decide)
        have r1 := mkS (σ := σ) (a := a) 9 τ (k := 1) (x3 := 3) (by decide) (by decide) r0
        simp only [show ¬ (5 : Int32) = 1 by decide, show ¬ (5 : Int32) = 2 by decide, show ¬ (5 : Int32) = 3 by decide, show ¬ (5 : Int32) = 4 by decide, show ¬ (4 : Int32) = 1 by decide, show ¬ (4 : Int32) = 2 by decide, show ¬ (4 : Int32) = 3 by decide, show ¬ (3 : Int32) = 1 by decide, show ¬ (3 : Int32) = 2 by decide, show ¬ (2 : Int32) = 1 by decide, e2, e3, e4, e5, ↓reduceIte] at r1
        have cl := r1
        refine mkfin cl (o2 := ((((nI (strV v a) + nI (v 5 a)) - 0) + 0 + 0 : Int32), (τ + 1 + 1 * 10 + 0 + 0 + 0 + 0 : Int64))) ?_ ?_
        · simp only [show pX11_bodiesOf (nI 1) = 3 by decide, Option.bind_some, lp, d1, d2, d3, d4, d5, g1, g2, g3, g4, g5, ↓reduceIte]
        · refine Prod.ext ?_ ?_
          · simp only [int_z, int_p, int_2]
          · simp only [Int64.add_assoc]
            exact congrArg (fun z => τ + z) (by decide)
      · have lp : pX11_mark_L31 μ (nI a) 5 2000 1 0 τ = some _ := (mst1 (n := 1999) (by decide) (by decide)).trans <| (mst0 (n := 1998) (by decide) (by decide)).trans <| (mst1 (n := 1997) (by decide) (by decide)).trans <| (mst0 (n := 1996) (by decide) (by decide)).trans <| (mst0 (n := 1995) (by decide) (by decide)).trans <| (mst0 (n := 1994) (by decide) (by decide)).trans <| mstE (n := 1993) (by decide)
        have g1 : pX11_has 5 1 = 0 := by decide
        have g2 : ¬ pX11_has 5 2 = 0 := by decide
        have g3 : pX11_has 5 3 = 0 := by decide
        have g4 : pX11_has 5 4 = 0 := by decide
        have g5 : pX11_has 5 5 = 0 := by decide
        have r0 := mk0 e1 8 (τ + ((pX10_at f_LEAVES 6 2).toInt64)) (x3 := (3 - 1)) (by decide)
        have r1 := mkS (σ := σ) (a := a) 9 τ (k := 2) (x3 := 3) (by decide) (by decide) r0
        simp only [show ¬ (5 : Int32) = 1 by decide, show ¬ (5 : Int32) = 2 by decide, show ¬ (5 : Int32) = 3 by decide, show ¬ (5 : Int32) = 4 by decide, show ¬ (4 : Int32) = 1 by decide, show ¬ (4 : Int32) = 2 by decide, show ¬ (4 : Int32) = 3 by decide, show ¬ (3 : Int32) = 1 by decide, show ¬ (3 : Int32) = 2 by decide, show ¬ (2 : Int32) = 1 by decide, e2, e3, e4, e5, ↓reduceIte] at r1
        have cl := r1
        refine mkfin cl (o2 := ((((nI (strV v a) + 0) - nI (v 7 (16 + a))) + 0 + 0 : Int32), (τ + 1 + 0 + 1 * 10 * 10 + 0 + 0 + 0 : Int64))) ?_ ?_
        · simp only [show pX11_bodiesOf (nI 2) = 5 by decide, Option.bind_some, lp, d1, d2, d3, d4, d5, g1, g2, g3, g4, g5, ↓reduceIte]
        · refine Prod.ext ?_ ?_
          · simp only [int_z, int_p, int_2]
          · simp only [Int64.add_assoc]
            exact congrArg (fun z => τ + z) (by decide)
      · have lp : pX11_mark_L31 μ (nI a) 11 2000 1 0 τ = some _ := (mst1 (n := 1999) (by decide) (by decide)).trans <| (mst1 (n := 1998) (by decide) (by decide)).trans <| (mst0 (n := 1997) (by decide) (by decide)).trans <| (mst1 (n := 1996) (by decide) (by decide)).trans <| (mst0 (n := 1995) (by decide) (by decide)).trans <| (mst0 (n := 1994) (by decide) (by decide)).trans <| mstE (n := 1993) (by decide)
        have g1 : ¬ pX11_has 11 1 = 0 := by decide
        have g2 : pX11_has 11 2 = 0 := by decide
        have g3 : ¬ pX11_has 11 3 = 0 := by decide
        have g4 : pX11_has 11 4 = 0 := by decide
        have g5 : pX11_has 11 5 = 0 := by decide
        have r0 := mk0 e1 7 ((τ + ((pX10_at f_LEAVES 6 3).toInt64)) + ((pX10_at f_LEAVES 6 1).toInt64)) (x3 := (3 - 1 - 1)) (by decide)
        have r1 := mkS (σ := σ) (a := a) 8 (τ + ((pX10_at f_LEAVES 6 3).toInt64)) (k := 1) (x3 := (3 - 1)) (by decide) (by decide) r0
        simp only [show ¬ (5 : Int32) = 1 by decide, show ¬ (5 : Int32) = 2 by decide, show ¬ (5 : Int32) = 3 by decide, show ¬ (5 : Int32) = 4 by decide, show ¬ (4 : Int32) = 1 by decide, show ¬ (4 : Int32) = 2 by decide, show ¬ (4 : Int32) = 3 by decide, show ¬ (3 : Int32) = 1 by decide, show ¬ (3 : Int32) = 2 by decide, show ¬ (2 : Int32) = 1 by decide, e2, e3, e4, e5, ↓reduceIte] at r1
        have r2 := mkS (σ := σ) (a := a) 9 τ (k := 3) (x3 := 3) (by decide) (by decide) r1
        simp only [show ¬ (5 : Int32) = 1 by decide, show ¬ (5 : Int32) = 2 by decide, show ¬ (5 : Int32) = 3 by decide, show ¬ (5 : Int32) = 4 by decide, show ¬ (4 : Int32) = 1 by decide, show ¬ (4 : Int32) = 2 by decide, show ¬ (4 : Int32) = 3 by decide, show ¬ (3 : Int32) = 1 by decide, show ¬ (3 : Int32) = 2 by decide, show ¬ (2 : Int32) = 1 by decide, e2, e3, e4, e5, ↓reduceIte] at r2
        have cl := r2
        refine mkfin cl (o2 := ((2 * ((nI (strV v a) + nI (v 5 a)) - 0) + 0 + 0 : Int32), (τ + 1 + 1 * 10 + 0 + 1 * 10 * 10 * 10 + 0 + 0 : Int64))) ?_ ?_
        · simp only [show pX11_bodiesOf (nI 3) = 11 by decide, Option.bind_some, lp, d1, d2, d3, d4, d5, g1, g2, g3, g4, g5, ↓reduceIte]
        · refine Prod.ext ?_ ?_
          · simp only [int_z, int_p, int_2]
          · simp only [Int64.add_assoc]
            exact congrArg (fun z => τ + z) (by decide)
      · have lp : pX11_mark_L31 μ (nI a) 21 2000 1 0 τ = some _ := (mst1 (n := 1999) (by decide) (by decide)).trans <| (mst0 (n := 1998) (by decide) (by decide)).trans <| (mst1 (n := 1997) (by decide) (by decide)).trans <| (mst0 (n := 1996) (by decide) (by decide)).trans <| (mst1 (n := 1995) (by decide) (by decide)).trans <| (mst0 (n := 1994) (by decide) (by decide)).trans <| mstE (n := 1993) (by decide)
        have g1 : pX11_has 21 1 = 0 := by decide
        have g2 : ¬ pX11_has 21 2 = 0 := by decide
        have g3 : pX11_has 21 3 = 0 := by decide
        have g4 : ¬ pX11_has 21 4 = 0 := by decide
        have g5 : pX11_has 21 5 = 0 := by decide
        have r0 := mk0 e1 7 ((τ + ((pX10_at f_LEAVES 6 4).toInt64)) + ((pX10_at f_LEAVES 6 2).toInt64)) (x3 := (3 - 1 - 1)) (by decide)
        have r1 := mkS (σ := σ) (a := a) 8 (τ + ((pX10_at f_LEAVES 6 4).toInt64)) (k := 2) (x3 := (3 - 1)) (by decide) (by decide) r0
        simp only [show ¬ (5 : Int32) = 1 by decide, show ¬ (5 : Int32) = 2 by decide, show ¬ (5 : Int32) = 3 by decide, show ¬ (5 : Int32) = 4 by decide, show ¬ (4 : Int32) = 1 by decide, show ¬ (4 : Int32) = 2 by decide, show ¬ (4 : Int32) = 3 by decide, show ¬ (3 : Int32) = 1 by decide, show ¬ (3 : Int32) = 2 by decide, show ¬ (2 : Int32) = 1 by decide, e2, e3, e4, e5, ↓reduceIte] at r1
        have r2 := mkS (σ := σ) (a := a) 9 τ (k := 4) (x3 := 3) (by decide) (by decide) r1
        simp only [show ¬ (5 : Int32) = 1 by decide, show ¬ (5 : Int32) = 2 by decide, show ¬ (5 : Int32) = 3 by decide, show ¬ (5 : Int32) = 4 by decide, show ¬ (4 : Int32) = 1 by decide, show ¬ (4 : Int32) = 2 by decide, show ¬ (4 : Int32) = 3 by decide, show ¬ (3 : Int32) = 1 by decide, show ¬ (3 : Int32) = 2 by decide, show ¬ (2 : Int32) = 1 by decide, e2, e3, e4, e5, ↓reduceIte] at r2
        have cl := r2
        refine mkfin cl (o2 := ((((nI (strV v a) + 0) - nI (v 7 (16 + a))) + nI a + 0 : Int32), (τ + 1 + 0 + 1 * 10 * 10 + 0 + 1 * 10 * 10 * 10 * 10 + 0 : Int64))) ?_ ?_
        · simp only [show pX11_bodiesOf (nI 4) = 21 by decide, Option.bind_some, lp, d1, d2, d3, d4, d5, g1, g2, g3, g4, g5, ↓reduceIte]
        · refine Prod.ext ?_ ?_
          · simp only [int_z, int_p, int_2]
          · simp only [Int64.add_assoc]
            exact congrArg (fun z => τ + z) (by decide)
      · have lp : pX11_mark_L31 μ (nI a) 33 2000 1 0 τ = some _ := (mst1 (n := 1999) (by decide) (by decide)).trans <| (mst0 (n := 1998) (by decide) (by decide)).trans <| (mst0 (n := 1997) (by decide) (by decide)).trans <| (mst0 (n := 1996) (by decide) (by decide)).trans <| (mst0 (n := 1995) (by decide) (by decide)).trans <| (mst1 (n := 1994) (by decide) (by decide)).trans <| mstE (n := 1993) (by decide)
        have g1 : pX11_has 33 1 = 0 := by decide
        have g2 : pX11_has 33 2 = 0 := by decide
        have g3 : pX11_has 33 3 = 0 := by decide
        have g4 : pX11_has 33 4 = 0 := by decide
        have g5 : ¬ pX11_has 33 5 = 0 := by decide
        have r0 := mk0 e1 8 (τ + ((pX10_at f_LEAVES 6 5).toInt64)) (x3 := (3 - 1)) (by decide)
        have r1 := mkS (σ := σ) (a := a) 9 τ (k := 5) (x3 := 3) (by decide) (by decide) r0
        simp only [show ¬ (5 : Int32) = 1 by decide, show ¬ (5 : Int32) = 2 by decide, show ¬ (5 : Int32) = 3 by decide, show ¬ (5 : Int32) = 4 by decide, show ¬ (4 : Int32) = 1 by decide, show ¬ (4 : Int32) = 2 by decide, show ¬ (4 : Int32) = 3 by decide, show ¬ (3 : Int32) = 1 by decide, show ¬ (3 : Int32) = 2 by decide, show ¬ (2 : Int32) = 1 by decide, e2, e3, e4, e5, ↓reduceIte] at r1
        have cl := r1
        refine mkfin cl (o2 := ((((nI (strV v a) + 0) - 0) + 0 + nI (v 7 (38 + v 3 a)) : Int32), (τ + 1 + 0 + 0 + 0 + 0 + 1 * 10 * 10 * 10 * 10 * 10 : Int64))) ?_ ?_
        · simp only [show pX11_bodiesOf (nI 5) = 33 by decide, Option.bind_some, lp, d1, d2, d3, d4, d5, g1, g2, g3, g4, g5, ↓reduceIte]
        · refine Prod.ext ?_ ?_
          · simp only [int_z, int_p, int_2]
          · simp only [Int64.add_assoc]
            exact congrArg (fun z => τ + z) (by decide)
    · refine ⟨(-1000000, τ), (-1000000, τ), ?_, ?_, rfl⟩
      · rw [h2, if_neg (by decide)]
      · rw [h2, Option.bind_some, if_pos (by decide)]
  · refine ⟨(-1000000, τ), (-1000000, τ), ?_, ?_, rfl⟩
    · rw [h1, if_neg (by decide)]
    · rw [in_no h1, if_pos rfl]
end EQ
