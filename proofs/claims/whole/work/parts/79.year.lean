/-! year, hauls -/
def ageV (v : Vw) (a : Nat) : Nat := if v 7 (16 + a) < 99 then v 7 (16 + a) + 1 else 99
def yearR (v : Vw) : Nat → Nat → Nat
  | 0 => v 7
  | i + 1 => if liesV v i then updN (yearR v i) (16 + i) (ageV v i) else yearR v i
def yearS (v : Vw) (i : Nat) : Nat := sumN (fun a => if liesV v a then ageV v a else 0) i
theorem year_off {v : Vw} {j : Nat} : ∀ {i : Nat}, (∀ a, a < i → j ≠ 16 + a) → yearR v i j = v 7 j
  | 0, _ => rfl
  | i + 1, h => by
    rw [yearR]
    split
    · rw [updN_n (h i (by omega))]; exact year_off (fun a ha => h a (by omega))
    · exact year_off (fun a ha => h a (by omega))
theorem year_ok {v : Vw} (hI : InvN v) : ∀ i, i ≤ v 0 1 → rowOK (v 0 0) (yearR v i)
  | 0, _ => hI.2.2.2.2.2
  | i + 1, h => by
    have h8 := hI.2.1
    have ih := year_ok hI i (by omega)
    have q := hI.2.2.2.2.2.1 i (by omega)
    rw [yearR]
    split
    · refine row_set ih (by omega) (by omega) (fun _ _ => ?_) (by omega) (by omega) (by omega) (by omega)
      unfold ageV
      split <;> omega
    · exact ih
section G
variable {σ μ : Sg} {v : Vw}
theorem InvN_row {f : Nat → Nat} (h : InvN v) (hf : rowOK (v 0 0) f) : InvN (vs v 7 f) := ⟨h.1, h.2.1, h.2.2.1, h.2.2.2.1, h.2.2.2.2.1, hf⟩
theorem c_year (hR : RcN σ v) (hI : InvN v) : ∀ (d i n : Nat) (g : Nat → Int32), i + d = v 0 1 → d < n → (∀ j, j < 45 → g j = nI (yearR v i j)) → ∃ g', pX10_year_L15 n (nI (yearS v i)) (nI i) (sA σ 20 g) = some (nI (yearS v (v 0 1)), sA σ 20 g') ∧ ∀ j, j < 45 → g' j = nI (yearR v (v 0 1) j) := by
  have h8 := hI.2.1
  obtain ⟨r1, r2, r3, r4, r5, r6, r7, r8, r9, r10⟩ := id hR
  intro d
  induction d with
  | zero =>
    intro i n g hi hn hg
    obtain ⟨n, rfl⟩ : ∃ q, n = q + 1 := ⟨n - 1, by omega⟩
    have e : i = v 0 1 := by omega
    subst e
    refine ⟨g, ?_, hg⟩
    rw [pX10_year_L15, if_pos (show (sA σ 20 g) 1 8 ≤ nI (v 0 1) by
      show σ 1 8 ≤ _
      rw [r2]; exact nI_le (Nat.le_refl _) (by omega))]
  | succ d ih =>
    intro i n g hi hn hg
    obtain ⟨n, rfl⟩ : ∃ q, n = q + 1 := ⟨n - 1, by omega⟩
    have hR2 : RcN (sA σ 20 g) (vs v 7 (yearR v i)) := ⟨r1, r2, r3, r4, r5, r6, r7, r8, r9, hg⟩
    have hI2 : InvN (vs v 7 (yearR v i)) := InvN_row hI (year_ok hI i (by omega))
    have el : liesV (vs v 7 (yearR v i)) i = liesV v i := by
      show (yearR v i (24 + i) == 0) = (v 7 (24 + i) == 0)
      rw [year_off (fun a ha => by omega)]
    have ea : yearR v i (16 + i) = v 7 (16 + i) := year_off (fun a ha => by omega)
    have q := (hI.2.2.2.2.2.1 i (by omega)).2.2.1
    rw [pX10_year_L15, if_neg (show ¬ (sA σ 20 g) 1 8 ≤ nI i by
      show ¬ σ 1 8 ≤ _
      rw [r2]; exact nI_ge (by omega) (by omega)), c_liesV hR2 hI2 (by omega), el]
    cases hl : liesV v i
    · rw [if_pos (by decide), nI_1]
      have e1 : yearS v (i + 1) = yearS v i := by unfold yearS; rw [sumN, hl]; rfl
      have e2 : yearR v (i + 1) = yearR v i := by rw [yearR, hl]; rfl
      rw [← e1]
      exact ih (i + 1) n g (by omega) (by omega) (by rw [e2]; exact hg)
    · rw [if_neg (by decide)]
      have e1 : yearS v (i + 1) = yearS v i + ageV v i := by unfold yearS; rw [sumN, hl]; rfl
      have e2 : yearR v (i + 1) = updN (yearR v i) (16 + i) (ageV v i) := by rw [yearR, hl]; rfl
      have eg : pX5_get 20 (sA σ 20 g) 16 (nI i) = nI (v 7 (16 + i)) := by
        rw [c_get hR2 (k := 16) (K := 16) rfl (by omega)]
        show nI (yearR v i (16 + i)) = _
        rw [ea]
      rw [eg, nI_1, show (if (99 : Int32) < nI (v 7 (16 + i) + 1) then (99 : Int32) else nI (v 7 (16 + i) + 1)) = nI (ageV v i) by
        unfold ageV
        by_cases w : v 7 (16 + i) < 99
        · rw [if_neg (show ¬ (99 : Int32) < nI (v 7 (16 + i) + 1) from nI_nlt (a := 99) (by omega) (by decide)), if_pos w]
        · rw [if_pos (show (99 : Int32) < nI (v 7 (16 + i) + 1) from nI_lt (a := 99) (by omega) (by omega)), if_neg w]; rfl, Option.bind_some]
      have es : pX5_set 20 (sA σ 20 g) 16 (nI i) (nI (ageV v i)) = some (sA σ 20 (upd g (16 + i) (nI (ageV v i)))) := by
        unfold pX5_set
        rw [sA_eq, sA_sA, show (16 : Int32) = nI 16 from rfl, nI_add, put_nI (by omega) (by decide)]
        rfl
      rw [es, Option.bind_some, Option.bind_some, nI_add, ← e1, nI_1]
      exact ih (i + 1) n _ (by omega) (by omega) (by
        rw [e2]
        exact fun j hj => upd_nI (hg j hj))
theorem m_year (hR : RmN μ v) (hI : InvN v) : ∀ (d i n : Nat) (g : Nat → Int32), i + d = v 0 1 → d < n → (∀ j, j < 45 → g (mq j) = nI (yearR v i j)) → ∃ g', pX11_year_L8 n (nI (yearS v i)) (nI i) (sA μ 13 g) = some (nI (yearS v (v 0 1)), sA μ 13 g') ∧ ∀ j, j < 45 → g' (mq j) = nI (yearR v (v 0 1) j) := by
  have h8 := hI.2.1
  obtain ⟨r1, r2, r3, r4, r5, r6, r7, r8, r9⟩ := id hR
  intro d
  induction d with
  | zero =>
    intro i n g hi hn hg
    obtain ⟨n, rfl⟩ : ∃ q, n = q + 1 := ⟨n - 1, by omega⟩
    have e : i = v 0 1 := by omega
    subst e
    have hR2 : RmN (sA μ 13 g) (vs v 7 (yearR v (v 0 1))) := ⟨r1, r2, r3, r4, r5, r6, r7, r8, hg⟩
    refine ⟨g, ?_, hg⟩
    rw [pX11_year_L8, (show rdA (sA μ 13 g) 7 2 0 = some (nI (v 0 1)) by have e := m_na hR2; exact e), Option.bind_some, if_pos (nI_le (Nat.le_refl _) (by omega))]
  | succ d ih =>
    intro i n g hi hn hg
    obtain ⟨n, rfl⟩ : ∃ q, n = q + 1 := ⟨n - 1, by omega⟩
    have hR2 : RmN (sA μ 13 g) (vs v 7 (yearR v i)) := ⟨r1, r2, r3, r4, r5, r6, r7, r8, hg⟩
    have hI2 : InvN (vs v 7 (yearR v i)) := InvN_row hI (year_ok hI i (by omega))
    have el : liesV (vs v 7 (yearR v i)) i = liesV v i := by
      show (yearR v i (24 + i) == 0) = (v 7 (24 + i) == 0)
      rw [year_off (fun a ha => by omega)]
    have ea : yearR v i (16 + i) = v 7 (16 + i) := year_off (fun a ha => by omega)
    have q := (hI.2.2.2.2.2.1 i (by omega)).2.2.1
    have eg : rdA (sA μ 13 g) 13 45 (16 + nI i) = some (nI (v 7 (16 + i))) := by
      rw [m_age hR2 (by omega)]
      show some (nI (yearR v i (16 + i))) = _
      rw [ea]
    rw [pX11_year_L8, (show rdA (sA μ 13 g) 7 2 0 = some (nI (v 0 1)) by have e := m_na hR2; exact e), Option.bind_some, if_neg (show ¬ nI (v 0 1) ≤ nI i from nI_ge (by omega) (by omega)), eg, Option.bind_some, m_lies hR2 hI2 (by omega), el, Option.bind_some]
    have step : ∀ x : Nat, wrA (sA μ 13 g) 13 45 (16 + nI i) (nI x) = some (sA μ 13 (upd g (mq (16 + i)) (nI x))) := by
      intro x
      rw [show (16 : Int32) = nI 16 from rfl, nI_add, wr_nI (by omega) (by decide), s1_sA, sA_eq, sA_sA, mq_lo (show 16 + i < 32 by omega)]
    cases hl : liesV v i
    · have e1 : yearS v (i + 1) = yearS v i := by unfold yearS; rw [sumN, hl]; rfl
      have e2 : yearR v (i + 1) = yearR v i := by rw [yearR, hl]; rfl
      have hg2 : ∀ j, j < 45 → upd g (mq (16 + i)) (nI (v 7 (16 + i))) (mq j) = nI (yearR v i j) := by
        intro j hj
        rw [mq_upd (f := yearR v i) (by omega) hg j hj]
        by_cases w : j = 16 + i
        · rw [w, updN_s, ea]
        · rw [updN_n w]
      have hR3 : RmN (sA μ 13 (upd g (mq (16 + i)) (nI (v 7 (16 + i))))) (vs v 7 (yearR v i)) := ⟨r1, r2, r3, r4, r5, r6, r7, r8, hg2⟩
      rw [if_pos (by decide), Option.bind_some, add_z, step, Option.bind_some, m_lies hR3 hI2 (by omega), el, hl, Option.bind_some, if_pos (by decide), add_z, Option.bind_some, nI_1, ← e1]
      exact ih (i + 1) n _ (by omega) (by omega) (by rw [e2]; exact hg2)
    · have e1 : yearS v (i + 1) = yearS v i + ageV v i := by unfold yearS; rw [sumN, hl]; rfl
      have e2 : yearR v (i + 1) = updN (yearR v i) (16 + i) (ageV v i) := by rw [yearR, hl]; rfl
      have hg2 : ∀ j, j < 45 → upd g (mq (16 + i)) (nI (ageV v i)) (mq j) = nI (updN (yearR v i) (16 + i) (ageV v i) j) := mq_upd (by omega) hg
      have hR3 : RmN (sA μ 13 (upd g (mq (16 + i)) (nI (ageV v i)))) (vs v 7 (updN (yearR v i) (16 + i) (ageV v i))) := ⟨r1, r2, r3, r4, r5, r6, r7, r8, hg2⟩
      have hI3 : InvN (vs v 7 (updN (yearR v i) (16 + i) (ageV v i))) := by
        rw [← e2]; exact InvN_row hI (year_ok hI (i + 1) (by omega))
      have el3 : liesV (vs v 7 (updN (yearR v i) (16 + i) (ageV v i))) i = true := by
        rw [← hl, ← el]
        show (updN (yearR v i) (16 + i) (ageV v i) (24 + i) == 0) = (yearR v i (24 + i) == 0)
        rw [updN_n (by omega)]
      have er3 : rdA (sA μ 13 (upd g (mq (16 + i)) (nI (ageV v i)))) 13 45 (16 + nI i) = some (nI (ageV v i)) := by
        rw [m_age hR3 (by omega)]
        show some (nI (updN (yearR v i) (16 + i) (ageV v i) (16 + i))) = _
        rw [updN_s]
      have ej : (if (99 : Int32) ≤ nI (v 7 (16 + i)) then some (0 : Int32) else some 1) = some (nI (ageV v i - v 7 (16 + i))) := by
        unfold ageV
        by_cases w : v 7 (16 + i) < 99
        · rw [if_neg (show ¬ (99 : Int32) ≤ nI (v 7 (16 + i)) from nI_ge (b := 99) w (by decide)), if_pos w, show v 7 (16 + i) + 1 - v 7 (16 + i) = 1 by omega]; rfl
        · rw [if_pos (show (99 : Int32) ≤ nI (v 7 (16 + i)) from nI_le (a := 99) (by omega) (by omega)), if_neg w, show 99 - v 7 (16 + i) = 0 by omega]; rfl
      rw [if_neg (by decide), Option.bind_some, ej, Option.bind_some, nI_add, show v 7 (16 + i) + (ageV v i - v 7 (16 + i)) = ageV v i by unfold ageV; split <;> omega]
      rw [step, Option.bind_some, m_lies hR3 hI3 (by omega), el3, Option.bind_some, if_neg (by decide), er3, Option.bind_some, Option.bind_some, nI_add, nI_1, ← e1]
      exact ih (i + 1) n _ (by omega) (by omega) (by rw [e2]; exact hg2)
theorem eq_year : EQ_year := by
  intro v σ μ hI hRc hRm
  obtain ⟨σ1, s1, s2⟩ := c_mem hRc hI
  obtain ⟨μ1, t1, t2⟩ := m_mem hRm hI
  have hI1 := mem_inv hI
  have hN1 := hI1.1
  obtain ⟨g, s3, s4⟩ := c_year s2.1 hN1 (memV v 0 1) 0 2000 (σ1 20) (by omega) (by have := hN1.2.1; omega) s2.1.2.2.2.2.2.2.2.2.2
  obtain ⟨g', t3, t4⟩ := m_year t2.1 hN1 (memV v 0 1) 0 2000 (μ1 13) (by omega) (by have := hN1.2.1; omega) t2.1.2.2.2.2.2.2.2.2
  rw [sA_self, nI_0, show nI (yearS (memV v) 0) = 0 from rfl] at s3 t3
  refine diff (o := nI (yearS (memV v) (memV v 0 1))) (σ' := sA σ1 20 g) (μ' := sA μ1 13 g') ?_ ?_ (Inv_row hI1 (year_ok hN1 _ (Nat.le_refl _))) (Rc_row s2 s4) (Rm_row t2 t4)
  · unfold pX10_year
    exact (bnd s1).trans ((bnd s3).trans rfl)
  · unfold pX11_year
    exact (bnd t1).trans ((bnd t3).trans rfl)
/-- may haul -/
def hauK (v : Vw) (r a b : Nat) : Bool := !(liesV v b && v 7 b == v 7 a) || decide (whoV v b = some r) || decide (whoV v b = none)
def hauA (v : Vw) (r a : Nat) : Nat → Nat → Bool
  | 0, _ => true
  | d + 1, i => hauK v r a i && hauA v r a d (i + 1)
def hauV (v : Vw) (r a : Nat) : Bool := liesV v a && decide (whoV v a = some r) && hauA v r a (v 0 1) 0
theorem whoI_9 {o : Option Nat} (ho : ∀ q, o = some q → q < 2 ^ 31) : whoI o = -9 ↔ o = none := by
  cases o with
  | none => exact ⟨fun _ => rfl, fun _ => rfl⟩
  | some q => exact ⟨fun e => absurd e (m9_ne (ho q rfl)), fun e => by cases e⟩
theorem who_31 {v : Vw} (hI : InvN v) {a : Nat} (ha : a < v 0 1) : ∀ q, whoV v a = some q → q < 2 ^ 31 := fun q hq => by
  have := who_lt hI ha hq
  have := hI.1
  omega
theorem c_hau (hR : RcN σ v) (hI : InvN v) {r a : Nat} (hr : r < 6) : ∀ (d i n : Nat), i + d = v 0 1 → d < n → pX2_mayHaul_L46 σ (nI r) (nI (lyingInV v (v 7 a))) n (nI i) = some (if hauA v r a d i then 1 else 0) := by
  have h8 := hI.2.1
  have hb := bitsN_lt (fun o => liesV v o && v 7 o == v 7 a) (v 0 1)
  have hb2 : 2 ^ v 0 1 ≤ 2 ^ 8 := Nat.pow_le_pow_right (by decide) h8
  intro d
  induction d with
  | zero =>
    intro i n hi hn
    obtain ⟨n, rfl⟩ : ∃ q, n = q + 1 := ⟨n - 1, by omega⟩
    rw [pX2_mayHaul_L46, hR.2.1, if_pos (nI_le (by omega) (by omega))]
    rfl
  | succ d ih =>
    intro i n hi hn
    obtain ⟨n, rfl⟩ : ∃ q, n = q + 1 := ⟨n - 1, by omega⟩
    have hi' : i < v 0 1 := by omega
    have w1 := whoI_eq (o := whoV v i) (r := r) (by omega) (who_31 hI hi')
    have w2 := whoI_9 (who_31 hI hi')
    have hh : pX10_has (nI (lyingInV v (v 7 a))) (nI i) = if (liesV v i && v 7 i == v 7 a) then 1 else 0 := by
      rw [has_nI (show lyingInV v (v 7 a) < 2 ^ 31 by unfold lyingInV; omega) (by omega)]
      unfold lyingInV
      rw [bitsN_bit, show decide (i < v 0 1) = true from decide_eq_true hi', Bool.true_and]
    rw [pX2_mayHaul_L46, hR.2.1, if_neg (nI_ge hi' (by omega)), c_who hR hI hi', Option.bind_some, hh, nI_1, hauA]
    unfold hauK
    cases hl : (liesV v i && v 7 i == v 7 a)
    · rw [if_pos (by decide), ih (i + 1) n (by omega) (by omega)]
      rfl
    · rw [if_neg (by decide)]
      by_cases e1 : whoV v i = some r
      · rw [if_pos (w1.mpr e1), ih (i + 1) n (by omega) (by omega), decide_eq_true e1]
        rfl
      · rw [if_neg (fun z => e1 (w1.mp z)), decide_eq_false e1]
        by_cases e2 : whoV v i = none
        · rw [if_pos (w2.mpr e2), ih (i + 1) n (by omega) (by omega), decide_eq_true e2]
          rfl
        · rw [if_neg (fun z => e2 (w2.mp z)), decide_eq_false e2]
          rfl
theorem m_hau (hR : RmN μ v) (hI : InvN v) {r a : Nat} (hr : r < 6) (ha : a < v 0 1) : ∀ (d i n : Nat) (b : Bool), i + d = v 0 1 → d < n → pX11_hauls_L44 μ (nI r) (nI a) n (if b then 1 else 0) (nI i) = some (if b && hauA v r a d i then 1 else 0) := by
  have h8 := hI.2.1
  intro d
  induction d with
  | zero =>
    intro i n b hi hn
    obtain ⟨n, rfl⟩ : ∃ q, n = q + 1 := ⟨n - 1, by omega⟩
    rw [pX11_hauls_L44, m_na hR, Option.bind_some, if_pos (nI_le (by omega) (by omega)), hauA, Bool.and_true]
  | succ d ih =>
    intro i n b hi hn
    obtain ⟨n, rfl⟩ : ∃ q, n = q + 1 := ⟨n - 1, by omega⟩
    have hi' : i < v 0 1 := by omega
    have w1 := whoI_eq (o := whoV v i) (r := r) (by omega) (who_31 hI hi')
    have w2 := whoI_9 (who_31 hI hi')
    have q1 := (hI.2.2.2.2.2.1 i (by omega)).1
    have q2 := (hI.2.2.2.2.2.1 a (by omega)).1
    have hj : (if (if liesV v i then (1 : Int32) else 0) = 0 then some (0 : Int32) else (rdA μ 13 45 (0 + nI i)).bind fun v12 => (rdA μ 13 45 (0 + nI a)).bind fun v14 => (if v12 = v14 then some 1 else some 0)) = some (if (liesV v i && v 7 i == v 7 a) then 1 else 0) := by
      rw [m_cel hR (by omega), m_cel hR (by omega), Option.bind_some, Option.bind_some]
      cases liesV v i
      · rw [if_pos (by decide)]; rfl
      · rw [if_neg (by decide)]
        by_cases e : v 7 i = v 7 a
        · rw [if_pos (by rw [e]), e]; simp
        · rw [if_neg (fun z => e ((nI_eq (by omega) (by omega)).mp z))]
          simp [e]
    rw [pX11_hauls_L44, m_na hR, Option.bind_some, if_neg (nI_ge hi' (by omega)), m_lies hR hI (by omega), Option.bind_some, hj, Option.bind_some, nI_1, hauA]
    have i0 := ih (i + 1) n false (by omega) (by omega)
    have i1 := ih (i + 1) n true (by omega) (by omega)
    rw [if_neg (by decide)] at i0
    rw [if_pos rfl] at i1
    cases b
    · rw [if_pos (by decide), i0]
      rfl
    · rw [if_neg (by decide)]
      unfold hauK
      cases hl : (liesV v i && v 7 i == v 7 a)
      · rw [if_pos (by decide), i1]
        rfl
      · rw [if_neg (by decide), m_who hR hI hi', Option.bind_some]
        by_cases e1 : whoV v i = some r
        · rw [if_pos (w1.mpr e1), i1, decide_eq_true e1]
          rfl
        · rw [if_neg (fun z => e1 (w1.mp z)), decide_eq_false e1, Option.bind_some]
          by_cases e2 : whoV v i = none
          · rw [if_pos (w2.mpr e2), i1, decide_eq_true e2]
            rfl
          · rw [if_neg (fun z => e2 (w2.mp z)), i0, decide_eq_false e2]
            rfl
end G
