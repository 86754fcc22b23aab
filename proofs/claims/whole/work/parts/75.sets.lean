/-! vital, fits, ask, mark -/
theorem bitsN_and (p q : Nat → Bool) (n : Nat) : nI (bitsN p n) &&& nI (bitsN q n) = nI (bitsN (fun a => p a && q a) n) := by
  rw [fa_and]
  congr 1
  apply Nat.eq_of_testBit_eq
  intro i
  rw [Nat.testBit_and, bitsN_bit, bitsN_bit, bitsN_bit]
  cases decide (i < n) <;> cases p i <;> cases q i <;> rfl
theorem bitsN_not (p q : Nat → Bool) (n : Nat) : nI (bitsN p n) &&& (nI (bitsN q n) ^^^ (-1)) = nI (bitsN (fun a => p a && !q a) n) := by
  apply Int32.toBitVec_inj.1
  show BitVec.ofNat 32 (bitsN p n) &&& (BitVec.ofNat 32 (bitsN q n) ^^^ BitVec.allOnes 32) = BitVec.ofNat 32 (bitsN (fun a => p a && !q a) n)
  apply BitVec.eq_of_getLsbD_eq
  intro i hi
  rw [BitVec.getLsbD_and, BitVec.getLsbD_xor, BitVec.getLsbD_ofNat, BitVec.getLsbD_ofNat, BitVec.getLsbD_ofNat, BitVec.getLsbD_allOnes, bitsN_bit, bitsN_bit, bitsN_bit]
  simp only [hi, decide_true, Bool.true_and]
  cases decide (i < n) <;> cases p i <;> cases q i <;> rfl
theorem sumN_more {f : Nat → Nat} {n : Nat} : ∀ {m : Nat}, n ≤ m → (∀ k, n ≤ k → f k = 0) → sumN f m = sumN f n
  | 0, h, _ => by rw [show n = 0 by omega]
  | m + 1, h, h2 => by
    by_cases e : n = m + 1
    · rw [e]
    · rw [sumN, sumN_more (m := m) (by omega) h2, h2 m (by omega)]
      rfl
theorem pop_bits (p : Nat → Bool) {n : Nat} (h : n ≤ 8) : popN (bitsN p n) = sumN (fun a => if p a then 1 else 0) n := by
  unfold popN
  rw [sumN_more h (fun k hk => by rw [bitsN_bit, show decide (k < n) = false from decide_eq_false (by omega)]; rfl)]
  exact sumN_cong (fun k hk => by rw [bitsN_bit, show decide (k < n) = true from decide_eq_true hk, Bool.true_and])
theorem bc_all : ∀ n, n < 256 → pJ6_bitCount (nI n) = nI (popN n) := by decide +kernel
theorem c_bits {n : Nat} (h : n < 256) : pJ6_bitCount (nI n) = nI (popN n) := bc_all n h
theorem might_le {v : Vw} (hI : InvN v) (t : Nat) : mightV v t ≤ v 0 1 * 96 := sumN_le (fun a ha => by
  show (if inTown v t a then strV v a else 0) ≤ 96
  split
  · exact strV_le hI ha
  · omega)
theorem str_might {v : Vw} {t a : Nat} (ha : a < v 0 1) (h : inTown v t a = true) : strV v a ≤ mightV v t := by
  have := part_le (fun a => if inTown v t a then strV v a else 0) ha
  simp only [h, if_true] at this
  exact this
section EQ
variable {σ μ : Sg} {v : Vw}
theorem eq_vital : EQ_vital := by
  intro v σ μ a1 a2 hI hRc hRm
  have hN := hI.1
  have hc := hRc.1
  have hm := hRm.1
  have h6 := hN.1
  have h8 := hN.2.1
  unfold pX10_vital pX11_vital pX10_isNoForce pX11_isStorm
  rw [c_noRaft hc, m_isRaft hm]
  rcases out_lt a1 (n := v 0 0) (by omega) with ⟨h1, r, rfl, hr⟩ | ⟨h1, -⟩
  · rcases o1 a2 (H := 99) 99 rfl (by decide) with ⟨h2, F, rfl, hF1, hF⟩ | ⟨h2, -⟩
    · have ht := town_lt hN (show r < 6 by omega)
      have hM := might_le hN (townV v r)
      have hM2 : v 0 1 * 96 ≤ 8 * 96 := Nat.mul_le_mul_right _ h8
      refine both (o := nI (bitsN (vitB v (townV v r) F) (v 0 1))) ?_ ?_
      · rw [h1, if_pos rfl, if_pos h2]
        unfold pX2_vitalFor
        simp only [c_town hc hN (show r < 6 by omega), Option.bind_some, c_might hc hN ht]
        have key := loop_up (fun n (s : Int32 × Int32) => pX2_vitalFor_L19 σ (nI F) (nI (townV v r)) (nI (mightV v (townV v r))) n s.1 s.2) (fun i => (nI (bitsN (vitB v (townV v r) F) i), nI i)) (v 0 1) (some (nI (bitsN (vitB v (townV v r) F) (v 0 1))))
          (by
            intro n i hi
            show pX2_vitalFor_L19 σ (nI F) (nI (townV v r)) (nI (mightV v (townV v r))) (n + 1) (nI _) (nI i) = pX2_vitalFor_L19 σ (nI F) (nI (townV v r)) (nI (mightV v (townV v r))) n (nI _) (nI (i + 1))
            have hs := strV_le hN hi
            rw [pX2_vitalFor_L19, hc.2.1, if_neg (nI_ge hi (by omega)), c_adds hc hN ht hi, nI_1]
            cases hl : inTown v (townV v r) i
            · rw [if_pos (by decide), bitsN_no _ i (by unfold vitB; rw [hl]; rfl)]
            · rw [if_neg (by decide)]
              have hle := str_might hi hl
              by_cases q : mightV v (townV v r) < F
              · rw [if_pos (nI_lt q (by omega)), bitsN_no _ i (by unfold vitB; rw [hl, show decide (F ≤ mightV v (townV v r)) = false from decide_eq_false (by omega)]; rfl)]
              · rw [if_neg (nI_nlt (by omega) (by omega)), c_str hc hN hi]
                simp only [Option.bind_some]
                rw [pk_sub hle]
                by_cases q2 : F ≤ mightV v (townV v r) - strV v i
                · rw [if_pos (nI_le q2 (by omega)), bitsN_no _ i (by unfold vitB; rw [show decide (mightV v (townV v r) - strV v i < F) = false from decide_eq_false (by omega), Bool.and_false])]
                · rw [if_neg (nI_ge (by omega) (by omega)), bit_nI (by omega), bitsN_or _ i (by unfold vitB; rw [hl, show decide (F ≤ mightV v (townV v r)) = true from decide_eq_true (by omega), show decide (mightV v (townV v r) - strV v i < F) = true from decide_eq_true (by omega)]; rfl)])
          (by
            intro n
            show pX2_vitalFor_L19 σ (nI F) (nI (townV v r)) (nI (mightV v (townV v r))) (n + 1) (nI _) (nI (v 0 1)) = _
            rw [pX2_vitalFor_L19, hc.2.1, if_pos (nI_le (Nat.le_refl _) (by omega))]) (v 0 1) 0 2000 (by omega) (by omega)
        have key : pX2_vitalFor_L19 σ (nI F) (nI (townV v r)) (nI (mightV v (townV v r))) 2000 0 0 = some _ := key
        rw [key]
        rfl
      · rw [h1, Option.bind_some, if_neg (by decide), if_neg (show ¬ pX11_in (nI F) 1 99 = 0 by rw [in_yes h2]; decide)]
        simp only [m_town hm hN (show r < 6 by omega), Option.bind_some, m_might hm hN (show r < 6 by omega)]
        have key := loop_up (fun n (s : Int32 × Int32) => pX11_vital_L36 μ (nI F) (nI (townV v r)) (nI (mightV v (townV v r))) n s.1 s.2) (fun i => (nI (bitsN (vitB v (townV v r) F) i), nI i)) (v 0 1) (some (nI (bitsN (vitB v (townV v r) F) (v 0 1))))
          (by
            intro n i hi
            show pX11_vital_L36 μ (nI F) (nI (townV v r)) (nI (mightV v (townV v r))) (n + 1) (nI _) (nI i) = pX11_vital_L36 μ (nI F) (nI (townV v r)) (nI (mightV v (townV v r))) n (nI _) (nI (i + 1))
            have hs := strV_le hN hi
            have ho := (hN.2.2.2.1 i hi).1
            rw [pX11_vital_L36]
            simp only [m_na hm, Option.bind_some, m_lies hm hN (show i < 8 by omega), m_own hm hi h8, m_str hm hN hi]
            rw [if_neg (nI_ge hi (by omega)), nI_1, m_has (show townV v r < 2 ^ 31 by omega) (show v 3 i < 31 by omega)]
            cases hl : liesV v i
            · rw [if_pos (show (if false = true then (1 : Int32) else 0) = 0 by decide)]
              simp only [Option.bind_some]
              rw [if_pos trivial, or_z, bitsN_no _ i (by unfold vitB inTown; rw [hl]; rfl)]
            · rw [if_neg (show ¬ (if true = true then (1 : Int32) else 0) = 0 by decide)]
              cases hb : (townV v r).testBit (v 3 i)
              · rw [if_pos (show (if false = true then (1 : Int32) else 0) = 0 by decide)]
                simp only [Option.bind_some]
                rw [if_pos trivial, or_z, bitsN_no _ i (by unfold vitB inTown; rw [hl, hb]; rfl)]
              · rw [if_neg (show ¬ (if true = true then (1 : Int32) else 0) = 0 by decide)]
                have hl2 : inTown v (townV v r) i = true := by unfold inTown; rw [hl, hb]; rfl
                have hle := str_might hi hl2
                rw [pk_sub hle]
                by_cases q : mightV v (townV v r) < F
                · rw [if_pos (nI_lt q (by omega))]
                  simp only [Option.bind_some]
                  rw [if_pos trivial, or_z, bitsN_no _ i (by unfold vitB; rw [hl2, show decide (F ≤ mightV v (townV v r)) = false from decide_eq_false (by omega)]; rfl)]
                · rw [if_neg (nI_nlt (by omega) (by omega))]
                  by_cases q2 : F ≤ mightV v (townV v r) - strV v i
                  · rw [if_pos (nI_le q2 (by omega))]
                    simp only [Option.bind_some]
                    rw [if_pos trivial, or_z, bitsN_no _ i (by unfold vitB; rw [show decide (mightV v (townV v r) - strV v i < F) = false from decide_eq_false (by omega), Bool.and_false])]
                  · rw [if_neg (nI_ge (by omega) (by omega))]
                    simp only [Option.bind_some]
                    rw [if_neg (show ¬ (1 : Int32) = 0 by decide), m_shl (by omega), bitsN_or _ i (by unfold vitB; rw [hl2, show decide (F ≤ mightV v (townV v r)) = true from decide_eq_true (by omega), show decide (mightV v (townV v r) - strV v i < F) = true from decide_eq_true (by omega)]; rfl)])
          (by
            intro n
            show pX11_vital_L36 μ (nI F) (nI (townV v r)) (nI (mightV v (townV v r))) (n + 1) (nI _) (nI (v 0 1)) = _
            rw [pX11_vital_L36]
            simp only [m_na hm, Option.bind_some]
            rw [if_pos (nI_le (Nat.le_refl _) (by omega))]) (v 0 1) 0 2000 (by omega) (by omega)
        have key : pX11_vital_L36 μ (nI F) (nI (townV v r)) (nI (mightV v (townV v r))) 2000 0 0 = some _ := key
        rw [key]
        rfl
    · refine both (o := -1) ?_ ?_
      · rw [h1, if_pos rfl, if_neg (show ¬ pX10_isOutside a2 1 99 = 0 by rw [h2]; decide)]
      · rw [h1, Option.bind_some, if_neg (by decide), if_pos (in_no h2)]
  · rw [h1]
    exact both (o := -1) rfl rfl
/-- fits with what was heard first -/
def okB (v : Vw) (a : Nat) : Nat → Bool
  | 0 => true
  | k + 1 => okB v a k && (decide (v 14 k ≤ strV v a) == (v 15 k == 1))
def fitB (v : Vw) (k a : Nat) : Bool := liesV v a && okB v a k
def fitV (v : Vw) : Nat := bitsN (fitB v (v 0 3)) (v 0 1)
theorem c_weigh (hR : RcN σ v) (hI : InvN v) : ∃ g : Nat → Int32, pX1_weighStrengths σ = some (sA σ 46 g) ∧ ∀ a, a < v 0 1 → g a = nI (strV v a) := by
  have h8 := hI.2.1
  have loop : ∀ (d i n : Nat) (g : Nat → Int32), i + d = v 0 1 → d < n → (∀ a, a < i → g a = nI (strV v a)) → ∃ g' : Nat → Int32, pX1_weighStrengths_L2 n (nI i) (sA σ 46 g) = some (sA σ 46 g') ∧ ∀ a, a < v 0 1 → g' a = nI (strV v a) := by
    intro d
    induction d with
    | zero =>
      intro i n g hi hn hg
      obtain ⟨n, rfl⟩ : ∃ q, n = q + 1 := ⟨n - 1, by omega⟩
      refine ⟨g, ?_, fun a ha => hg a (by omega)⟩
      rw [pX1_weighStrengths_L2, if_pos (show (sA σ 46 g) 1 8 ≤ nI i by
        show σ 1 8 ≤ nI i
        rw [hR.2.1]; exact nI_le (by omega) (by omega))]
    | succ d ih =>
      intro i n g hi hn hg
      obtain ⟨n, rfl⟩ : ∃ q, n = q + 1 := ⟨n - 1, by omega⟩
      have hR2 : RcN (sA σ 46 g) v := hR
      obtain ⟨g', h1, h2⟩ := ih (i + 1) n (upd g i (nI (strV v i))) (by omega) (by omega) (by
        intro a ha
        by_cases e : a = i
        · rw [e, pk_us]
        · rw [pk_un e, hg a (by omega)])
      refine ⟨g', ?_, h2⟩
      rw [pX1_weighStrengths_L2, if_neg (show ¬ (sA σ 46 g) 1 8 ≤ nI i by
        show ¬ σ 1 8 ≤ nI i
        rw [hR.2.1]; exact nI_ge (by omega) (by omega)), c_str hR2 hI (by omega)]
      simp only [Option.bind_some]
      rw [put_nI (by omega) (by decide), sA_eq, sA_sA, nI_1]
      exact h1
  obtain ⟨g, h1, h2⟩ := loop (v 0 1) 0 2000 (σ 46) (by omega) (by omega) (fun a ha => absurd ha (Nat.not_lt_zero a))
  refine ⟨g, ?_, h2⟩
  unfold pX1_weighStrengths
  rw [sA_self, nI_0] at h1
  rw [h1]
  rfl
theorem c_hold46 (hR : RcN σ v) (hI : InvN v) (h46 : ∀ a, a < v 0 1 → σ 46 a = nI (strV v a)) {F : Nat} (hF : F ≤ 99) : pX1_thatHold σ (nI F) = some (nI (bitsN (fun a => decide (F ≤ strV v a)) (v 0 1))) := by
  have h8 := hI.2.1
  unfold pX1_thatHold
  have key := loop_up (fun n (s : Int32 × Int32) => pX1_thatHold_L4 σ (nI F) n s.1 s.2) (fun i => (nI (bitsN (fun a => decide (F ≤ strV v a)) i), nI i)) (v 0 1) (some (nI (bitsN (fun a => decide (F ≤ strV v a)) (v 0 1))))
    (by
      intro n i hi
      show pX1_thatHold_L4 σ (nI F) (n + 1) (nI _) (nI i) = pX1_thatHold_L4 σ (nI F) n (nI _) (nI (i + 1))
      have hs := strV_le hI hi
      rw [pX1_thatHold_L4, hR.2.1, if_neg (nI_ge hi (by omega)), at_nI (by omega) (by decide), h46 i hi, nI_1]
      by_cases q : strV v i < F
      · rw [if_pos (nI_lt q (by omega)), bitsN_no _ i (decide_eq_false (by omega))]
      · rw [if_neg (nI_nlt (by omega) (by omega)), bit_nI (by omega)]
        simp only [Option.bind_some]
        rw [bitsN_or _ i (decide_eq_true (by omega))])
    (by
      intro n
      show pX1_thatHold_L4 σ (nI F) (n + 1) (nI _) (nI (v 0 1)) = _
      rw [pX1_thatHold_L4, hR.2.1, if_pos (nI_le (Nat.le_refl _) (by omega))]) (v 0 1) 0 2000 (by omega) (by omega)
  have key : pX1_thatHold_L4 σ (nI F) 2000 0 0 = some _ := key
  rw [key]
  rfl
theorem c_fitting (hR : Rc σ v) (hI : Inv v) : ∃ g : Nat → Int32, pX1_fitting σ = some (nI (fitV v), sA σ 46 g) ∧ ∀ a, a < v 0 1 → g a = nI (strV v a) := by
  have hN := hI.1
  have h8 := hN.2.1
  have h6 := hI.2.2.2.2.2.2.2.2.1
  have hh := hI.2.2.2.2.2.2.2.2.2.1
  obtain ⟨g, h1, h2⟩ := c_weigh hR.1 hN
  refine ⟨g, ?_, h2⟩
  have hR2 : RcN (sA σ 46 g) v := hR.1
  have hH2 : RcH (sA σ 46 g) v := hR.2.2.2.2
  unfold pX1_fitting
  rw [h1]
  simp only [Option.bind_some]
  rw [show (0 : Int32) = nI 0 from rfl, c_those hR2 hN (by omega)]
  simp only [Option.bind_some]
  have key := loop_up (fun n (s : Int32 × Int32) => pX1_fitting_L19 (sA σ 46 g) n s.1 s.2) (fun i => (nI (bitsN (fitB v i) (v 0 1)), nI i)) (v 0 3) (some (nI (fitV v)))
    (by
      intro n i hi
      show pX1_fitting_L19 (sA σ 46 g) (n + 1) (nI _) (nI i) = pX1_fitting_L19 (sA σ 46 g) n (nI _) (nI (i + 1))
      have q := hh i hi
      rw [pX1_fitting_L19, hH2.1, if_neg (nI_ge hi (by omega)), at_nI (by omega) (by decide), (hH2.2 i hi).1, c_hold46 hR2 hN h2 (by omega), at_nI (by omega) (by decide), (hH2.2 i hi).2, nI_1]
      simp only [Option.bind_some]
      by_cases e : v 15 i = 1
      · rw [if_pos (by rw [e]; rfl), bitsN_and]
        congr 2
        exact bitsN_cong (fun a _ => by
          show (liesV v a && okB v a i && _) = (liesV v a && (okB v a i && _))
          rw [e]
          cases liesV v a <;> cases okB v a i <;> cases decide (v 14 i ≤ strV v a) <;> rfl)
      · rw [if_neg (show ¬ nI (v 15 i) = 1 from fun z => e ((nI_eq (b := 1) (by omega) (by decide)).mp z)), bitsN_not]
        congr 2
        exact bitsN_cong (fun a _ => by
          show (liesV v a && okB v a i && _) = (liesV v a && (okB v a i && _))
          rw [show v 15 i = 0 by omega]
          cases liesV v a <;> cases okB v a i <;> cases decide (v 14 i ≤ strV v a) <;> rfl))
    (by
      intro n
      show pX1_fitting_L19 (sA σ 46 g) (n + 1) (nI _) (nI (v 0 3)) = _
      rw [pX1_fitting_L19, hH2.1, if_pos (nI_le (Nat.le_refl _) (by omega))]
      rfl) (v 0 3) 0 2000 (by omega) (by omega)
  have e0 : bitsN (fitB v 0) (v 0 1) = thoseV v 0 := bitsN_cong (fun a _ => by
    show (liesV v a && true) = _
    rw [Bool.and_true]; rfl)
  have key : pX1_fitting_L19 (sA σ 46 g) 2000 (nI (bitsN (fitB v 0) (v 0 1))) 0 = some _ := key
  rw [e0] at key
  rw [nI_0, key]
  rfl
theorem fitV_lt (hI : InvN v) : fitV v < 256 := by
  have h := bitsN_lt (fitB v (v 0 3)) (v 0 1)
  have : 2 ^ v 0 1 ≤ 2 ^ 8 := Nat.pow_le_pow_right (by decide) hI.2.1
  unfold fitV
  omega
theorem m_fits (hR : Rm μ v) (hI : Inv v) : pX11_fits μ = some (nI (fitV v)) := by
  have hN := hI.1
  have hm := hR.1
  have h8 := hN.2.1
  have h6 := hI.2.2.2.2.2.2.2.2.1
  have hh := hI.2.2.2.2.2.2.2.2.2.1
  have hH := hR.2.2.2.2
  have inner : ∀ (x1 : Int32) (a : Nat), a < v 0 1 → pX11_fits_L23 μ x1 (nI a) 2000 (if liesV v a then 1 else 0) 0 = some (if fitB v (v 0 3) a then 1 else 0) := by
    intro x1 a ha
    have hs := strV_le hN ha
    exact loop_up (fun n (s : Int32 × Int32) => pX11_fits_L23 μ x1 (nI a) n s.1 s.2) (fun i => (if fitB v i a then 1 else 0, nI i)) (v 0 3) (some (if fitB v (v 0 3) a then 1 else 0))
      (by
        intro n i hi
        show pX11_fits_L23 μ x1 (nI a) (n + 1) (if fitB v i a then 1 else 0) (nI i) = pX11_fits_L23 μ x1 (nI a) n (if fitB v (i + 1) a then 1 else 0) (nI (i + 1))
        have q := hh i hi
        have e3 : fitB v (i + 1) a = (fitB v i a && (decide (v 14 i ≤ strV v a) == (v 15 i == 1))) := by
          show (liesV v a && (okB v a i && _)) = (liesV v a && okB v a i && _)
          rw [Bool.and_assoc]
        rw [pX11_fits_L23, hH.1, if_neg (nI_ge hi (by omega)), nI_1, e3]
        cases hf : fitB v i a
        · rw [if_pos (by decide)]; rfl
        · rw [if_neg (by decide), m_str hm hN ha]
          simp only [Option.bind_some]
          rw [rd_nI (by omega) (by decide), rd_nI (by omega) (by decide), (hH.2 i hi).1, (hH.2 i hi).2]
          simp only [Option.bind_some]
          by_cases e : v 15 i = 1
          · rw [if_pos (show nI (v 15 i) = 1 by rw [e]; rfl), e]
            by_cases w : strV v a < v 14 i
            · rw [if_pos (nI_lt w (by omega))]
              simp only [Option.bind_some]
              rw [if_neg (by decide), show decide (v 14 i ≤ strV v a) = false from decide_eq_false (by omega)]
              rfl
            · rw [if_neg (nI_nlt (by omega) (by omega))]
              simp only [Option.bind_some]
              rw [if_pos trivial, show decide (v 14 i ≤ strV v a) = true from decide_eq_true (by omega)]
              rfl
          · rw [if_neg (show ¬ nI (v 15 i) = 1 from fun z => e ((nI_eq (b := 1) (by omega) (by decide)).mp z)), show v 15 i = 0 by omega]
            by_cases w : strV v a < v 14 i
            · rw [if_pos (nI_lt w (by omega))]
              simp only [Option.bind_some]
              rw [if_pos trivial, show decide (v 14 i ≤ strV v a) = false from decide_eq_false (by omega)]
              rfl
            · rw [if_neg (nI_nlt (by omega) (by omega))]
              simp only [Option.bind_some]
              rw [if_neg (by decide), show decide (v 14 i ≤ strV v a) = true from decide_eq_true (by omega)]
              rfl)
      (by
        intro n
        show pX11_fits_L23 μ x1 (nI a) (n + 1) _ (nI (v 0 3)) = _
        rw [pX11_fits_L23, hH.1, if_pos (nI_le (Nat.le_refl _) (by omega))]) (v 0 3) 0 2000 (by omega) (by omega) |>.symm ▸ (by
          show pX11_fits_L23 μ x1 (nI a) 2000 (if liesV v a then 1 else 0) 0 = _
          rw [show liesV v a = fitB v 0 a from (Bool.and_true _).symm]
          rfl)
  unfold pX11_fits
  have key := loop_up (fun n (s : Int32 × Int32) => pX11_fits_L4 μ n s.1 s.2) (fun i => (nI (bitsN (fitB v (v 0 3)) i), nI i)) (v 0 1) (some (nI (fitV v)))
    (by
      intro n i hi
      show pX11_fits_L4 μ (n + 1) (nI _) (nI i) = pX11_fits_L4 μ n (nI _) (nI (i + 1))
      rw [pX11_fits_L4]
      simp only [m_na hm, Option.bind_some, m_lies hm hN (show i < 8 by omega)]
      rw [if_neg (nI_ge hi (by omega)), nI_1, inner _ i hi]
      simp only [Option.bind_some]
      cases hf : fitB v (v 0 3) i
      · rw [if_pos (by decide), or_z, bitsN_no _ i hf]
      · rw [if_neg (by decide), m_shl (by omega), bitsN_or _ i hf])
    (by
      intro n
      show pX11_fits_L4 μ (n + 1) (nI _) (nI (v 0 1)) = _
      rw [pX11_fits_L4]
      simp only [m_na hm, Option.bind_some]
      rw [if_pos (nI_le (Nat.le_refl _) (by omega))]
      rfl) (v 0 1) 0 2000 (by omega) (by omega)
  have key : pX11_fits_L4 μ 2000 0 0 = some (nI (fitV v)) := key
  rw [key]
  rfl
theorem eq_fits : EQ_fits := by
  intro v σ μ hI hRc hRm
  obtain ⟨g, h1, h2⟩ := c_fitting hRc hI
  refine same1 (σ' := sA σ 46 g) hI hRc hRm (o := nI (fitV v)) ?_ (m_fits hRm hI)
  unfold pX10_fits
  rw [h1]
  rfl
end EQ
