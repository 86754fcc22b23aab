/-! town: the start, the copies, the answer -/
theorem to_s {σ : Sg} {c i : Nat} {x : Int32} : s1 σ c i x c i = x := by rw [s1_sA, sA_eq, pk_us]
theorem to_n {σ : Sg} {c i k j : Nat} {x : Int32} (h : k ≠ c ∨ j ≠ i) : s1 σ c i x k j = σ k j := by
  rw [s1_sA]
  by_cases e : k = c
  · rw [e, sA_eq, pk_un]
    rcases h with h | h
    · exact absurd e h
    · exact h
  · rw [sA_ne e]
theorem to_cp {f g : Nat → Int32} {n x : Nat} (hx : x < n) (hn : n < 2 ^ 31) : pX10_copy f n 0 g n 0 (nI n) x = f x := by
  have e : pX10_copy f n (nI 0) g n (nI 0) (nI n) = va_cpy f g 0 0 n := copy_nI (by omega) (by omega) hn hn
  rw [nI_0] at e
  rw [e, pk_cpy_in (by omega) (by omega), Nat.zero_add, Nat.sub_zero]
theorem neg_q : ∀ q, q < 201 → ¬ (0 : Int32) ≤ (-10) - nI q := by decide +kernel
section G
variable {σ μ : Sg} {v d : Vw}
def cSt (σ : Sg) : Sg := s1 (s1 (s1 (s1 (s1 (sA (sA (sA (sA σ 11 (pX10_fill (σ 11) 10 3)) 12 (pX10_fill (σ 12) 10 1)) 16 (pX10_fill (σ 16) 6 0)) 18 (pX10_fill (σ 18) 45 0)) 10 7 0) 10 8 0) 10 9 0) 33 2 0) 33 6 (-1)
theorem c_empties : pX9_empties σ = some (s1 (s1 (s1 (sA (sA (sA (sA σ 11 (pX10_fill (σ 11) 10 3)) 12 (pX10_fill (σ 12) 10 1)) 16 (pX10_fill (σ 16) 6 0)) 18 (pX10_fill (σ 18) 45 0)) 10 7 0) 10 8 0) 10 9 0) := by
  unfold pX9_empties pX5_empties
  simp only [Option.bind_some]
  rfl
theorem c_start : pX7_readInto σ = pX7_readInto_L18 2000 0 0 (cSt σ) := by
  unfold pX7_readInto
  exact (bnd c_empties).trans ((bnd rfl).trans (bnd rfl))
theorem start_AC : AC σ (cSt σ) := by
  unfold cSt
  exact AC_t (AC_A (c := 11) (by decide)) (AC_t (AC_A (c := 12) (by decide)) (AC_t (AC_A (c := 16) (by decide)) (AC_t (AC_A (c := 18) (by decide)) (AC_t (AC_A (c := 10) (by decide)) (AC_t (AC_A (c := 10) (by decide)) (AC_t (AC_A (c := 10) (by decide)) (AC_t (AC_33 (f := upd (σ 33) 2 0) rfl) (AC_33 (f := upd (upd (σ 33) 2 0) 6 (-1)) rfl))))))))
theorem start_C : DC (cSt σ) vS0 := by
  refine ⟨rfl, rfl, rfl, fun x hx => ?_, fun x hx => ?_, fun a h => absurd h (Nat.not_lt_zero a), fun a h => absurd h (Nat.not_lt_zero a), fun a h => absurd h (Nat.not_lt_zero a), fun r hr => ?_, fun i hi => ?_⟩
  · show pX10_fill (σ 11) 10 3 x = 3
    exact fill_in hx
  · show pX10_fill (σ 12) 10 1 x = 1
    exact fill_in hx
  · show pX10_fill (σ 16) 6 0 r = 0
    exact fill_in hr
  · show pX10_fill (σ 18) 45 0 i = 0
    exact fill_in hi
theorem start_I : DI vS0 := by
  refine ⟨inv0.1, ⟨fun i _ _ => rfl, fun r _ _ => rfl, fun a _ _ => ⟨rfl, rfl⟩⟩, fun r _ _ => rfl, fun a b _ _ => ?_, rfl⟩
  show (0 : Nat).testBit b = (0 : Nat).testBit a
  rw [Nat.zero_testBit, Nat.zero_testBit]
/-! the model's loops -/
theorem m_l31 : ∀ (k i n : Nat) (μ : Sg), i + k = 10 → k < n → ∃ μ', pX11_read_L31 n (nI i) μ = some μ' ∧ (∀ x, i ≤ x → x < 10 → μ' 2 (10 + x) = 3 ∧ μ' 3 (10 + x) = 1) ∧ ∀ c j, ¬ (c = 2 ∧ 10 + i ≤ j) → ¬ (c = 3 ∧ 10 + i ≤ j) → μ' c j = μ c j := by
  intro k
  induction k with
  | zero =>
    intro i n μ hi hn
    obtain ⟨n, rfl⟩ : ∃ m, n = m + 1 := ⟨n - 1, by omega⟩
    refine ⟨μ, ?_, fun x h1 h2 => absurd h2 (by omega), fun _ _ _ _ => rfl⟩
    rw [pX11_read_L31, if_pos (show (10 : Int32) ≤ nI i from nI_le (a := 10) (by omega) (by omega))]
  | succ k ih =>
    intro i n μ hi hn
    obtain ⟨n, rfl⟩ : ∃ m, n = m + 1 := ⟨n - 1, by omega⟩
    obtain ⟨μ', e1, e2, e3⟩ := ih (i + 1) n (s1 (s1 μ 2 (10 + i) 3) 3 (10 + i) 1) (by omega) (by omega)
    refine ⟨μ', ?_, fun x h1 h2 => ?_, fun c j h1 h2 => ?_⟩
    · rw [pX11_read_L31, if_neg (show ¬ (10 : Int32) ≤ nI i from nI_ge (b := 10) (by omega) (by decide)), show (10 : Int32) + nI i = nI (10 + i) from nI_add 10 i, wr_nI (by omega) (by decide), Option.bind_some, wr_nI (by omega) (by decide), Option.bind_some, nI_1]
      exact e1
    · by_cases e : x = i
      · rw [e]
        exact ⟨(e3 2 _ (by omega) (by omega)).trans ((to_n (Or.inl (by decide))).trans to_s), (e3 3 _ (by omega) (by omega)).trans to_s⟩
      · exact e2 x (by omega) h2
    · exact (e3 c j (by omega) (by omega)).trans ((to_n (by omega)).trans (to_n (by omega)))
theorem m_l65 : ∀ (k i n : Nat) (μ : Sg), i + k = 6 → k < n → ∃ μ', pX11_read_L65 n (nI i) μ = some μ' ∧ (∀ x, i ≤ x → x < 6 → μ' 6 (6 + x) = 0) ∧ ∀ c j, ¬ (c = 6 ∧ 6 + i ≤ j) → μ' c j = μ c j := by
  intro k
  induction k with
  | zero =>
    intro i n μ hi hn
    obtain ⟨n, rfl⟩ : ∃ m, n = m + 1 := ⟨n - 1, by omega⟩
    refine ⟨μ, ?_, fun x h1 h2 => absurd h2 (by omega), fun _ _ _ => rfl⟩
    rw [pX11_read_L65, if_pos (show (6 : Int32) ≤ nI i from nI_le (a := 6) (by omega) (by omega))]
  | succ k ih =>
    intro i n μ hi hn
    obtain ⟨n, rfl⟩ : ∃ m, n = m + 1 := ⟨n - 1, by omega⟩
    obtain ⟨μ', e1, e2, e3⟩ := ih (i + 1) n (s1 μ 6 (6 + i) 0) (by omega) (by omega)
    refine ⟨μ', ?_, fun x h1 h2 => ?_, fun c j h1 => ?_⟩
    · rw [pX11_read_L65, if_neg (show ¬ (6 : Int32) ≤ nI i from nI_ge (b := 6) (by omega) (by decide)), show (6 : Int32) + nI i = nI (6 + i) from nI_add 6 i, wr_nI (by omega) (by decide), Option.bind_some, nI_1]
      exact e1
    · by_cases e : x = i
      · rw [e]
        exact (e3 6 _ (by omega)).trans to_s
      · exact e2 x (by omega) h2
    · exact (e3 c j (by omega)).trans (to_n (by omega))
theorem m_l45 : ∀ (k i n : Nat) (μ : Sg), i + k = 45 → k < n → ∃ μ', pX11_town_L45 n (nI i) μ = some μ' ∧ (∀ x, i ≤ x → x < 45 → μ' 13 x = 0) ∧ ∀ c j, ¬ (c = 13 ∧ i ≤ j) → μ' c j = μ c j := by
  intro k
  induction k with
  | zero =>
    intro i n μ hi hn
    obtain ⟨n, rfl⟩ : ∃ m, n = m + 1 := ⟨n - 1, by omega⟩
    refine ⟨μ, ?_, fun x h1 h2 => absurd h2 (by omega), fun _ _ _ => rfl⟩
    rw [pX11_town_L45, if_pos (show (45 : Int32) ≤ nI i from nI_le (a := 45) (by omega) (by omega))]
  | succ k ih =>
    intro i n μ hi hn
    obtain ⟨n, rfl⟩ : ∃ m, n = m + 1 := ⟨n - 1, by omega⟩
    obtain ⟨μ', e1, e2, e3⟩ := ih (i + 1) n (s1 μ 13 i 0) (by omega) (by omega)
    refine ⟨μ', ?_, fun x h1 h2 => ?_, fun c j h1 => ?_⟩
    · rw [pX11_town_L45, if_neg (show ¬ (45 : Int32) ≤ nI i from nI_ge (b := 45) (by omega) (by decide)), wr_nI (by omega) (by decide), Option.bind_some, nI_1]
      exact e1
    · by_cases e : x = i
      · rw [e]
        exact (e3 13 _ (by omega)).trans to_s
      · exact e2 x (by omega) h2
    · exact (e3 c j (by omega)).trans (to_n (by omega))
theorem m_l66 : ∀ (k i n : Nat) (μ : Sg), i + k = 10 → k < n → ∃ μ', pX11_town_L66 n (nI i) μ = some μ' ∧ (∀ x, i ≤ x → x < 10 → μ' 2 x = μ 2 (10 + x) ∧ μ' 3 x = μ 3 (10 + x)) ∧ ∀ c j, ¬ (c = 2 ∧ i ≤ j ∧ j < 10) → ¬ (c = 3 ∧ i ≤ j ∧ j < 10) → μ' c j = μ c j := by
  intro k
  induction k with
  | zero =>
    intro i n μ hi hn
    obtain ⟨n, rfl⟩ : ∃ m, n = m + 1 := ⟨n - 1, by omega⟩
    refine ⟨μ, ?_, fun x h1 h2 => absurd h2 (by omega), fun _ _ _ _ => rfl⟩
    rw [pX11_town_L66, if_pos (show (10 : Int32) ≤ nI i from nI_le (a := 10) (by omega) (by omega))]
  | succ k ih =>
    intro i n μ hi hn
    obtain ⟨n, rfl⟩ : ∃ m, n = m + 1 := ⟨n - 1, by omega⟩
    obtain ⟨μ', e1, e2, e3⟩ := ih (i + 1) n (s1 (s1 μ 2 i (μ 2 (10 + i))) 3 i (μ 3 (10 + i))) (by omega) (by omega)
    refine ⟨μ', ?_, fun x h1 h2 => ?_, fun c j h1 h2 => ?_⟩
    · have r1 : rdA μ 2 20 (nI (10 + i)) = some (μ 2 (10 + i)) := rd_nI (by omega) (by decide)
      have r2 : rdA (s1 μ 2 i (μ 2 (10 + i))) 3 20 (nI (10 + i)) = some (μ 3 (10 + i)) := rd_nI (by omega) (by decide)
      rw [pX11_town_L66, if_neg (show ¬ (10 : Int32) ≤ nI i from nI_ge (b := 10) (by omega) (by decide)), show (10 : Int32) + nI i = nI (10 + i) from nI_add 10 i, r1, Option.bind_some, wr_nI (by omega) (by decide), Option.bind_some, r2, Option.bind_some, wr_nI (by omega) (by decide), Option.bind_some, nI_1]
      exact e1
    · by_cases e : x = i
      · rw [e]
        exact ⟨(e3 2 _ (by omega) (by omega)).trans ((to_n (Or.inl (by decide))).trans to_s), (e3 3 _ (by omega) (by omega)).trans to_s⟩
      · obtain ⟨a1, a2⟩ := e2 x (by omega) h2
        exact ⟨a1.trans ((to_n (Or.inl (by decide))).trans (to_n (Or.inr (by omega)))), a2.trans ((to_n (Or.inr (by omega))).trans (to_n (Or.inl (by decide))))⟩
    · exact (e3 c j (by omega) (by omega)).trans ((to_n (by omega)).trans (to_n (by omega)))
theorem m_l110 {R : Nat} (hR : R ≤ 6) : ∀ (k i n : Nat) (μ : Sg), μ 4 0 = nI R → i + k = 6 → k < n → ∃ μ', pX11_town_L110 n (nI i) μ = some μ' ∧ (∀ x, i ≤ x → x < 6 → μ' 6 x = μ 6 (6 + x) ∧ μ' 13 (33 + x) = if x < R then μ 5 (6 + x) else 0) ∧ ∀ c j, ¬ (c = 6 ∧ i ≤ j ∧ j < 6) → ¬ (c = 13 ∧ 33 + i ≤ j ∧ j < 39) → μ' c j = μ c j := by
  intro k
  induction k with
  | zero =>
    intro i n μ h4 hi hn
    obtain ⟨n, rfl⟩ : ∃ m, n = m + 1 := ⟨n - 1, by omega⟩
    refine ⟨μ, ?_, fun x h1 h2 => absurd h2 (by omega), fun _ _ _ _ => rfl⟩
    rw [pX11_town_L110, if_pos (show (6 : Int32) ≤ nI i from nI_le (a := 6) (by omega) (by omega))]
  | succ k ih =>
    intro i n μ h4 hi hn
    obtain ⟨n, rfl⟩ : ∃ m, n = m + 1 := ⟨n - 1, by omega⟩
    obtain ⟨μ', e1, e2, e3⟩ := ih (i + 1) n (s1 (s1 μ 6 i (μ 6 (6 + i))) 13 (33 + i) (if i < R then μ 5 (6 + i) else 0)) h4 (by omega) (by omega)
    refine ⟨μ', ?_, fun x h1 h2 => ?_, fun c j h1 h2 => ?_⟩
    · have r1 : rdA μ 6 12 (nI (6 + i)) = some (μ 6 (6 + i)) := rd_nI (by omega) (by decide)
      have r2 : rdA (s1 μ 6 i (μ 6 (6 + i))) 4 2 0 = some (nI R) := (rd_nI (a := 0) (by decide) (by decide)).trans (congrArg some h4)
      have r3 : rdA (s1 μ 6 i (μ 6 (6 + i))) 5 12 (nI (6 + i)) = some (μ 5 (6 + i)) := rd_nI (by omega) (by decide)
      rw [pX11_town_L110, if_neg (show ¬ (6 : Int32) ≤ nI i from nI_ge (b := 6) (by omega) (by decide)), show (6 : Int32) + nI i = nI (6 + i) from nI_add 6 i, show (33 : Int32) + nI i = nI (33 + i) from nI_add 33 i, r1, Option.bind_some, wr_nI (by omega) (by decide), Option.bind_some, r2, Option.bind_some]
      by_cases q : i < R
      · rw [if_pos q] at e1
        rw [if_neg (nI_ge q (by omega)), r3, Option.bind_some, wr_nI (by omega) (by decide), Option.bind_some, nI_1]
        exact e1
      · rw [if_neg q] at e1
        rw [if_pos (nI_le (by omega) (by omega)), wr_nI (by omega) (by decide), Option.bind_some, nI_1]
        exact e1
    · by_cases e : x = i
      · rw [e]
        exact ⟨(e3 6 _ (by omega) (by omega)).trans ((to_n (Or.inl (by decide))).trans to_s), (e3 13 _ (by omega) (by omega)).trans to_s⟩
      · obtain ⟨a1, a2⟩ := e2 x (by omega) h2
        refine ⟨a1.trans ((to_n (Or.inl (by decide))).trans (to_n (Or.inr (by omega)))), a2.trans ?_⟩
        rw [to_n (Or.inl (by decide)), to_n (Or.inl (by decide))]
    · exact (e3 c j (by omega) (by omega)).trans ((to_n (by omega)).trans (to_n (by omega)))
theorem m_l171 {A : Nat} (hA : A ≤ 8) : ∀ (k i n : Nat) (μ : Sg), μ 7 0 = nI A → i + k = A → k < n → ∃ μ', pX11_town_L171 n (nI i) μ = some μ' ∧ (∀ x, i ≤ x → x < A → μ' 8 x = μ 8 (8 + x) ∧ μ' 10 x = μ 10 (8 + x) ∧ μ' 12 x = μ 12 (8 + x) ∧ μ' 13 x = μ 9 (8 + x) ∧ μ' 13 (8 + x) = μ 11 (8 + x)) ∧ ∀ c j, ¬ (c = 8 ∧ i ≤ j ∧ j < 8) → ¬ (c = 10 ∧ i ≤ j ∧ j < 8) → ¬ (c = 12 ∧ i ≤ j ∧ j < 8) → ¬ (c = 13 ∧ i ≤ j ∧ j < A) → ¬ (c = 13 ∧ 8 + i ≤ j ∧ j < 8 + A) → μ' c j = μ c j := by
  intro k
  induction k with
  | zero =>
    intro i n μ h7 hi hn
    obtain ⟨n, rfl⟩ : ∃ m, n = m + 1 := ⟨n - 1, by omega⟩
    refine ⟨μ, ?_, fun x h1 h2 => absurd h2 (by omega), fun _ _ _ _ _ _ _ => rfl⟩
    have r0 : rdA μ 7 2 0 = some (nI A) := (rd_nI (a := 0) (by decide) (by decide)).trans (congrArg some h7)
    rw [pX11_town_L171, r0, Option.bind_some, if_pos (nI_le (by omega) (by omega))]
  | succ k ih =>
    intro i n μ h7 hi hn
    obtain ⟨n, rfl⟩ : ∃ m, n = m + 1 := ⟨n - 1, by omega⟩
    obtain ⟨μ', e1, e2, e3⟩ := ih (i + 1) n (s1 (s1 (s1 (s1 (s1 μ 8 i (μ 8 (8 + i))) 10 i (μ 10 (8 + i))) 12 i (μ 12 (8 + i))) 13 i (μ 9 (8 + i))) 13 (8 + i) (μ 11 (8 + i))) h7 (by omega) (by omega)
    refine ⟨μ', ?_, fun x h1 h2 => ?_, fun c j h1 h2 h3 h4 h5 => ?_⟩
    · have r0 : rdA μ 7 2 0 = some (nI A) := (rd_nI (a := 0) (by decide) (by decide)).trans (congrArg some h7)
      have r1 : rdA μ 8 16 (nI (8 + i)) = some (μ 8 (8 + i)) := rd_nI (by omega) (by decide)
      have r2 : rdA (s1 μ 8 i (μ 8 (8 + i))) 10 16 (nI (8 + i)) = some (μ 10 (8 + i)) := rd_nI (by omega) (by decide)
      have r3 : rdA (s1 (s1 μ 8 i (μ 8 (8 + i))) 10 i (μ 10 (8 + i))) 12 16 (nI (8 + i)) = some (μ 12 (8 + i)) := rd_nI (by omega) (by decide)
      have r4 : rdA (s1 (s1 (s1 μ 8 i (μ 8 (8 + i))) 10 i (μ 10 (8 + i))) 12 i (μ 12 (8 + i))) 9 16 (nI (8 + i)) = some (μ 9 (8 + i)) := rd_nI (by omega) (by decide)
      have r5 : rdA (s1 (s1 (s1 (s1 μ 8 i (μ 8 (8 + i))) 10 i (μ 10 (8 + i))) 12 i (μ 12 (8 + i))) 13 i (μ 9 (8 + i))) 11 16 (nI (8 + i)) = some (μ 11 (8 + i)) := rd_nI (by omega) (by decide)
      have i0 : (0 : Int32) + nI i = nI i := by
        rw [show (0 : Int32) + nI i = nI (0 + i) from nI_add 0 i, Nat.zero_add]
      rw [pX11_town_L171, r0, Option.bind_some, if_neg (nI_ge (by omega) (by omega)), show (8 : Int32) + nI i = nI (8 + i) from nI_add 8 i, i0, r1, Option.bind_some, wr_nI (by omega) (by decide), Option.bind_some, r2, Option.bind_some, wr_nI (by omega) (by decide), Option.bind_some, r3, Option.bind_some, wr_nI (by omega) (by decide), Option.bind_some, r4, Option.bind_some, wr_nI (by omega) (by decide), Option.bind_some, r5, Option.bind_some, wr_nI (by omega) (by decide), Option.bind_some, nI_1]
      exact e1
    · by_cases e : x = i
      · rw [e]
        have u : ∀ c j, (c = 8 ∧ j = i ∨ c = 10 ∧ j = i ∨ c = 12 ∧ j = i ∨ c = 13 ∧ j = i ∨ c = 13 ∧ j = 8 + i) → μ' c j = (s1 (s1 (s1 (s1 (s1 μ 8 i (μ 8 (8 + i))) 10 i (μ 10 (8 + i))) 12 i (μ 12 (8 + i))) 13 i (μ 9 (8 + i))) 13 (8 + i) (μ 11 (8 + i))) c j := fun c j h => e3 c j (by omega) (by omega) (by omega) (by omega) (by omega)
        exact ⟨(u 8 i (by omega)).trans ((to_n (by omega)).trans ((to_n (by omega)).trans ((to_n (by omega)).trans ((to_n (by omega)).trans to_s)))), (u 10 i (by omega)).trans ((to_n (by omega)).trans ((to_n (by omega)).trans ((to_n (by omega)).trans to_s))), (u 12 i (by omega)).trans ((to_n (by omega)).trans ((to_n (by omega)).trans to_s)), (u 13 i (by omega)).trans ((to_n (by omega)).trans to_s), (u 13 (8 + i) (by omega)).trans to_s⟩
      · obtain ⟨a1, a2, a3, a4, a5⟩ := e2 x (by omega) h2
        exact ⟨a1.trans ((to_n (by omega)).trans ((to_n (by omega)).trans ((to_n (by omega)).trans ((to_n (by omega)).trans (to_n (by omega)))))), a2.trans ((to_n (by omega)).trans ((to_n (by omega)).trans ((to_n (by omega)).trans ((to_n (by omega)).trans (to_n (by omega)))))), a3.trans ((to_n (by omega)).trans ((to_n (by omega)).trans ((to_n (by omega)).trans ((to_n (by omega)).trans (to_n (by omega)))))), a4.trans ((to_n (by omega)).trans ((to_n (by omega)).trans ((to_n (by omega)).trans ((to_n (by omega)).trans (to_n (by omega)))))), a5.trans ((to_n (by omega)).trans ((to_n (by omega)).trans ((to_n (by omega)).trans ((to_n (by omega)).trans (to_n (by omega))))))⟩
    · exact (e3 c j (by omega) (by omega) (by omega) (by omega) (by omega)).trans ((to_n (by omega)).trans ((to_n (by omega)).trans ((to_n (by omega)).trans ((to_n (by omega)).trans (to_n (by omega))))))
end G
