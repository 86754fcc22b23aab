/-! town: both answer alike -/
section G
variable {σ μ : Sg} {v d : Vw}
def mSt (μ : Sg) : Sg := s1 (s1 (s1 (s1 (s1 μ 0 13 0) 0 17 0) 0 18 0) 4 1 0) 7 1 0
theorem m_read0 : pX11_read μ = (pX11_read_L31 2000 0 (mSt μ)).bind fun w15 => (pX11_read_L65 2000 0 w15).bind fun w19 => (pX11_step w19).bind fun u21 => (pX11_read_L91 2000 u21).bind fun w41 => some w41 := by
  have w1 : wrA (s1 (s1 (s1 μ 0 13 0) 0 17 0) 0 18 0) 4 2 1 0 = some (s1 (s1 (s1 (s1 μ 0 13 0) 0 17 0) 0 18 0) 4 1 0) := by
    rw [show (1 : Int32) = nI 1 from rfl, wr_nI (by decide) (by decide)]
  have w2 : wrA (s1 (s1 (s1 (s1 μ 0 13 0) 0 17 0) 0 18 0) 4 1 0) 7 2 1 0 = some (mSt μ) := by
    rw [show (1 : Int32) = nI 1 from rfl, wr_nI (by decide) (by decide)]
    rfl
  unfold pX11_read
  exact (bnd rfl).trans ((bnd rfl).trans ((bnd rfl).trans ((bnd w1).trans (bnd w2))))
theorem m_start (hv : txtOK v) (hT : TX v σ μ) : ∃ μ5, pX11_read μ = pX11_read_L91 2000 μ5 ∧ TX v σ μ5 ∧ MT v 0 (μ5 0) ∧ μ5 0 17 = 0 ∧ μ5 0 18 = 0 ∧ DM μ5 vS0 ∧ AM μ μ5 := by
  obtain ⟨B, b1, b2, b3⟩ := m_l31 10 0 2000 (mSt μ) (by decide) (by decide)
  obtain ⟨C, c1, c2, c3⟩ := m_l65 6 0 2000 B (by decide) (by decide)
  have b3 : ∀ c j, ¬ (c = 2 ∧ 10 ≤ j) → ¬ (c = 3 ∧ 10 ≤ j) → B c j = mSt μ c j := b3
  have c3 : ∀ c j, ¬ (c = 6 ∧ 6 ≤ j) → C c j = B c j := c3
  have k : ∀ c j, ¬ (c = 6 ∧ 6 ≤ j) → ¬ (c = 2 ∧ 10 ≤ j) → ¬ (c = 3 ∧ 10 ≤ j) → C c j = mSt μ c j := fun c j h1 h2 h3 => (c3 c j h1).trans (b3 c j h2 h3)
  have tB : ∀ j, C 1 j = μ 1 j := fun j => k 1 j (by omega) (by omega) (by omega)
  have hTC : TX v σ C := ⟨hT.1, (k 0 1 (by omega) (by omega) (by omega)).trans hT.2.1, fun i hi => (tB i).trans (hT.2.2 i hi)⟩
  obtain ⟨g, g1, g2, g3⟩ := go_on hv hTC (p := 0) (Nat.zero_le _) ((k 0 13 (by omega) (by omega) (by omega)).trans rfl)
  have hmS : AM μ (mSt μ) := by
    unfold mSt
    exact AM_t (AM_1 (c := 0) (j := 13) (by unfold dM; omega)) (AM_t (AM_1 (c := 0) (j := 17) (by unfold dM; omega)) (AM_t (AM_1 (c := 0) (j := 18) (by unfold dM; omega)) (AM_t (AM_1 (c := 4) (j := 1) (by unfold dM; omega)) (AM_1 (c := 7) (j := 1) (by unfold dM; omega)))))
  have hAC : AM μ C := AM_t hmS (fun c j h => k c j (by unfold dM at h; omega) (by unfold dM at h; omega) (by unfold dM at h; omega))
  refine ⟨sA C 0 g, ?_, ⟨hT.1, (g3 1 (by decide)).trans hTC.2.1, hTC.2.2⟩, g2, ?_, ?_, ⟨?_, ?_, fun x hx => ?_, fun x hx => ?_, fun a h => absurd h (Nat.not_lt_zero a), fun a h => absurd h (Nat.not_lt_zero a), fun a h => absurd h (Nat.not_lt_zero a), fun a h => absurd h (Nat.not_lt_zero a), fun a h => absurd h (Nat.not_lt_zero a), fun r hr => ?_, fun r h => absurd h (Nat.not_lt_zero r)⟩, AM_t hAC (AM_0 (fun i hi => g3 i (by omega)))⟩
  · rw [m_read0]
    rw [nI_0] at b1 c1
    refine (bnd b1).trans ((bnd c1).trans ((bnd g1).trans ?_))
    cases pX11_read_L91 2000 (sA C 0 g) <;> rfl
  · show g 17 = 0
    exact (g3 17 (by decide)).trans ((k 0 17 (by omega) (by omega) (by omega)).trans rfl)
  · show g 18 = 0
    exact (g3 18 (by decide)).trans ((k 0 18 (by omega) (by omega) (by omega)).trans rfl)
  · show C 4 1 = 0
    exact (k 4 1 (by omega) (by omega) (by omega)).trans rfl
  · show C 7 1 = 0
    exact (k 7 1 (by omega) (by omega) (by omega)).trans rfl
  · show C 2 (10 + x) = 3
    exact (c3 2 _ (by omega)).trans (b2 x (Nat.zero_le _) hx).1
  · show C 3 (10 + x) = 1
    exact (c3 3 _ (by omega)).trans (b2 x (Nat.zero_le _) hx).2
  · show C 6 (6 + r) = 0
    exact c2 r (Nat.zero_le _) hr
/-- the town that is told -/
def tV (d : Vw) : Vw := vs d 0 (fun i => if i = 0 then d 0 0 else if i = 1 then d 0 1 else if i = 5 then d 0 5 else 0)
theorem tV_inv (hI : DI d) : Inv (tV d) := by
  obtain ⟨⟨k1, k2, k3, k4, k5, k6⟩, hz, hr1, hr2, hr3⟩ := hI
  exact ⟨⟨k1, k2, k3, k4, k5, k6⟩, ⟨Nat.zero_le _, fun k hk => absurd hk (Nat.not_lt_zero k)⟩, Nat.zero_le _, Nat.zero_le _, fun h => absurd (show (0 : Nat) = 1 from h) (by decide), fun h => absurd (show (0 : Nat) = 1 from h) (by decide), Nat.zero_le _, fun i hi => absurd hi (Nat.not_lt_zero i), Nat.zero_le _, fun i hi => absurd hi (Nat.not_lt_zero i), hr3⟩
def cBe (σ : Sg) : Sg := s1 (s1 (s1 (sA (sA (sA (sA (sA (sA (sA σ 2 (pX10_copy (σ 11) 10 0 (σ 2) 10 0 10)) 3 (pX10_copy (σ 12) 10 0 (σ 3) 10 0 10)) 4 (pX10_copy (σ 13) 8 0 (σ 4) 8 0 8)) 5 (pX10_copy (σ 14) 8 0 (σ 5) 8 0 8)) 6 (pX10_copy (σ 15) 8 0 (σ 6) 8 0 8)) 7 (pX10_copy (σ 16) 6 0 (σ 7) 6 0 6)) 9 (pX10_copy (σ 18) 45 0 (σ 9) 45 0 45)) 1 7 (σ 10 7)) 1 8 (σ 10 8)) 1 9 (σ 10 9)
theorem c_becomes : pX9_becomes σ = some (cBe σ) := by
  unfold pX9_becomes pX5_becomes
  simp only [Option.bind_some]
  rfl
def cE (σ : Sg) : Sg := s1 (s1 (s1 (s1 (s1 (sA (cBe σ) 20 (pX10_copy (pX10_copy (σ 18) 45 0 (σ 9) 45 0 45) 45 0 (σ 20) 45 0 45)) 21 1 0) 43 5 0) 23 2 0) 28 2 0) 33 1 0
theorem c_row20 : pX5_becomes 20 9 (cBe σ) = some (sA (cBe σ) 20 (pX10_copy (pX10_copy (σ 18) 45 0 (σ 9) 45 0 45) 45 0 (σ 20) 45 0 45)) := by
  unfold pX5_becomes
  exact bnd rfl
theorem c_copy (hC : DC σ d) (h8 : d 0 1 ≤ 8) : Rc (cE σ) (tV d) := by
  obtain ⟨d1, d2, d3, d4, d5, d6, d7, d8, d9, d10⟩ := hC
  refine ⟨⟨d1, d2, d3, fun x hx => ?_, fun x hx => ?_, fun a ha => ?_, fun a ha => ?_, fun a ha => ?_, fun r hr => ?_, fun i hi => ?_⟩, ⟨rfl, fun i hi => absurd hi (by show ¬ i < 45 * 0; omega)⟩, ⟨rfl, rfl, fun h => absurd (show (0 : Nat) = 1 from h) (by decide), fun h => absurd (show (0 : Nat) = 1 from h) (by decide)⟩, ⟨rfl, fun i hi => absurd hi (Nat.not_lt_zero i)⟩, ⟨rfl, fun i hi => absurd hi (Nat.not_lt_zero i)⟩⟩
  · show pX10_copy (σ 11) 10 0 (σ 2) 10 0 (nI 10) x = nI (d 1 x)
    exact (to_cp hx (by decide)).trans (d4 x hx)
  · show pX10_copy (σ 12) 10 0 (σ 3) 10 0 (nI 10) x = nI (d 2 x)
    exact (to_cp hx (by decide)).trans (d5 x hx)
  · have ha : a < d 0 1 := ha
    show pX10_copy (σ 13) 8 0 (σ 4) 8 0 (nI 8) a = nI (d 3 a)
    exact (to_cp (by omega) (by decide)).trans (d6 a ha)
  · have ha : a < d 0 1 := ha
    show pX10_copy (σ 14) 8 0 (σ 5) 8 0 (nI 8) a = nI (d 4 a)
    exact (to_cp (by omega) (by decide)).trans (d7 a ha)
  · have ha : a < d 0 1 := ha
    show pX10_copy (σ 15) 8 0 (σ 6) 8 0 (nI 8) a = nI (d 5 a)
    exact (to_cp (by omega) (by decide)).trans (d8 a ha)
  · show pX10_copy (σ 16) 6 0 (σ 7) 6 0 (nI 6) r = nI (d 6 r)
    exact (to_cp hr (by decide)).trans (d9 r hr)
  · show pX10_copy (pX10_copy (σ 18) 45 0 (σ 9) 45 0 (nI 45)) 45 0 (σ 20) 45 0 (nI 45) i = nI (d 7 i)
    exact (to_cp hi (by decide)).trans ((to_cp hi (by decide)).trans (d10 i hi))
def mE (μ : Sg) : Sg := s1 (s1 (s1 (s1 (s1 μ 14 0 0) 17 0 0) 17 1 0) 0 28 0) 0 1 0
theorem m_copy (hM : DM μ d) (hI : DI d) : ∃ E, Rm (mE E) (tV d) ∧ E 0 18 = μ 0 18 ∧ ∀ P : Sg → Option (Int32 × Sg), ((rdA μ 4 2 1).bind fun v3 => (wrA μ 4 2 0 v3).bind fun σ5 => (rdA σ5 7 2 1).bind fun v7 => (wrA σ5 7 2 0 v7).bind fun σ9 => (pX11_town_L45 2000 0 σ9).bind fun w13 => (pX11_town_L66 2000 0 w13).bind fun w23 => (pX11_town_L110 2000 0 w23).bind fun w37 => (pX11_town_L171 2000 0 w37).bind P) = P E := by
  obtain ⟨d1, d2, d3, d4, d5, d6, d7, d8, d9, d10, d11⟩ := hM
  obtain ⟨⟨k1, k2, k3, k4, k5, k6⟩, ⟨z1, z2, z3⟩, hr⟩ := hI
  have w1 : wrA μ 4 2 0 (nI (d 0 0)) = some (s1 μ 4 0 (nI (d 0 0))) := by
    rw [show (0 : Int32) = nI 0 from rfl, wr_nI (by decide) (by decide)]
  have w2 : wrA (s1 μ 4 0 (nI (d 0 0))) 7 2 0 (nI (d 0 1)) = some (s1 (s1 μ 4 0 (nI (d 0 0))) 7 0 (nI (d 0 1))) := by
    rw [show (0 : Int32) = nI 0 from rfl, wr_nI (by decide) (by decide)]
  have r1 : rdA μ 4 2 1 = some (nI (d 0 0)) := by
    rw [show (1 : Int32) = nI 1 from rfl, rd_nI (by decide) (by decide), d1]
  have r2 : rdA (s1 μ 4 0 (nI (d 0 0))) 7 2 1 = some (nI (d 0 1)) := by
    rw [show (1 : Int32) = nI 1 from rfl, rd_nI (by decide) (by decide)]
    exact congrArg some d2
  obtain ⟨A, hA⟩ : ∃ A, A = s1 (s1 μ 4 0 (nI (d 0 0))) 7 0 (nI (d 0 1)) := ⟨_, rfl⟩
  rw [← hA] at w2
  have a40 : A 4 0 = nI (d 0 0) := by rw [hA]; rfl
  have a70 : A 7 0 = nI (d 0 1) := by rw [hA]; rfl
  have aF : ∀ c j, c ≠ 4 → c ≠ 7 → A c j = μ c j := fun c j h1 h2 => by
    rw [hA]
    exact (to_n (Or.inl h2)).trans (to_n (Or.inl h1))
  obtain ⟨B, e1, b2, b3⟩ := m_l45 45 0 2000 A (by decide) (by decide)
  have b3 : ∀ c j, c ≠ 13 → B c j = A c j := fun c j h => b3 c j (fun q => h q.1)
  obtain ⟨C, e2, c2, c3⟩ := m_l66 10 0 2000 B (by decide) (by decide)
  have c3 : ∀ c j, ¬ (c = 2 ∧ j < 10) → ¬ (c = 3 ∧ j < 10) → C c j = B c j := fun c j h1 h2 => c3 c j (by omega) (by omega)
  have c40 : C 4 0 = nI (d 0 0) := (c3 4 0 (by omega) (by omega)).trans ((b3 4 0 (by decide)).trans a40)
  obtain ⟨D, e3, f2, f3⟩ := m_l110 k1 6 0 2000 C c40 (by decide) (by decide)
  have f3 : ∀ c j, ¬ (c = 6 ∧ j < 6) → ¬ (c = 13 ∧ 33 ≤ j ∧ j < 39) → D c j = C c j := fun c j h1 h2 => f3 c j (by omega) (by omega)
  have d70 : D 7 0 = nI (d 0 1) := (f3 7 0 (by omega) (by omega)).trans ((c3 7 0 (by omega) (by omega)).trans ((b3 7 0 (by decide)).trans a70))
  obtain ⟨E, e4, g2, g3⟩ := m_l171 k2 (d 0 1) 0 2000 D d70 (by omega) (by omega)
  have g3 : ∀ c j, c ≠ 8 → c ≠ 10 → c ≠ 12 → ¬ (c = 13 ∧ j < d 0 1) → ¬ (c = 13 ∧ 8 ≤ j ∧ j < 8 + d 0 1) → E c j = D c j := fun c j h1 h2 h3 h4 h5 => g3 c j (by omega) (by omega) (by omega) (by omega) (by omega)
  have dF : ∀ c j, c ≠ 13 → ¬ (c = 6 ∧ j < 6) → ¬ (c = 2 ∧ j < 10) → ¬ (c = 3 ∧ j < 10) → D c j = A c j := fun c j h1 h2 h3 h4 => (f3 c j h2 (by omega)).trans ((c3 c j h3 h4).trans (b3 c j h1))
  have cF : ∀ c j, c ≠ 13 → ¬ (c = 2 ∧ j < 10) → ¬ (c = 3 ∧ j < 10) → C c j = A c j := fun c j h1 h3 h4 => (c3 c j h3 h4).trans (b3 c j h1)
  have z13 : ∀ j, j < 45 → ¬ (33 ≤ j ∧ j < 39) → D 13 j = 0 := fun j h1 h2 => (f3 13 j (by omega) (by omega)).trans ((c3 13 j (by omega) (by omega)).trans (b2 j (Nat.zero_le _) h1))
  have row : ∀ i, i < 45 → E 13 (mq i) = nI (d 7 i) := by
    intro i hi
    unfold mq
    by_cases h32 : i < 32
    · rw [if_pos h32]
      by_cases hA1 : i < d 0 1
      · exact (g2 i (Nat.zero_le _) hA1).2.2.2.1.trans ((dF 9 _ (by decide) (by omega) (by omega) (by omega)).trans ((aF 9 _ (by decide) (by decide)).trans (d8 i hA1)))
      · by_cases hA2 : 8 ≤ i ∧ i < 8 + d 0 1
        · have q := (g2 (i - 8) (Nat.zero_le _) (by omega)).2.2.2.2.trans ((dF 11 _ (by decide) (by omega) (by omega) (by omega)).trans ((aF 11 _ (by decide) (by decide)).trans (d9 (i - 8) (by omega))))
          rw [show 8 + (i - 8) = i by omega] at q
          exact q
        · refine (g3 13 i (by decide) (by decide) (by decide) (by omega) (by omega)).trans ((z13 i hi (by omega)).trans ?_)
          have hz : d 7 i = 0 := by
            by_cases h16 : 16 ≤ i
            · exact z1 i hi (Or.inl ⟨h16, h32⟩)
            · by_cases h8 : i < 8
              · exact (z3 i (by omega) h8).1
              · have q := (z3 (i - 8) (by omega) (by omega)).2
                rw [show 8 + (i - 8) = i by omega] at q
                exact q
          rw [hz]
          rfl
    · rw [if_neg h32]
      by_cases h44 : i < 44
      · rw [if_pos h44]
        by_cases h38 : i < 38
        · have q := (f2 (i - 32) (Nat.zero_le _) (by omega)).2
          rw [show 33 + (i - 32) = i + 1 by omega] at q
          refine (g3 13 _ (by decide) (by decide) (by decide) (by omega) (by omega)).trans (q.trans ?_)
          by_cases hR : i - 32 < d 0 0
          · rw [if_pos hR, cF 5 _ (by decide) (by omega) (by omega), aF 5 _ (by decide) (by decide), d11 _ hR, show 32 + (i - 32) = i by omega]
          · have q2 := z2 (i - 32) (by omega) (by omega)
            rw [show 32 + (i - 32) = i by omega] at q2
            rw [if_neg hR, q2]
            rfl
        · refine (g3 13 _ (by decide) (by decide) (by decide) (by omega) (by omega)).trans ((z13 _ (by omega) (by omega)).trans ?_)
          rw [z1 i hi (Or.inr (by omega))]
          rfl
      · rw [if_neg h44]
        refine (g3 13 _ (by decide) (by decide) (by decide) (by omega) (by omega)).trans ((z13 _ (by omega) (by omega)).trans ?_)
        rw [z1 i hi (Or.inr (by omega))]
        rfl
  refine ⟨E, ⟨⟨?_, ?_, fun x hx => ?_, fun x hx => ?_, fun a ha => ?_, fun a ha => ?_, fun a ha => ?_, fun r hr => ?_, fun i hi => row i hi⟩, ⟨rfl, fun k hk => absurd hk (Nat.not_lt_zero k)⟩, ⟨rfl, rfl, fun h => absurd (show (0 : Nat) = 1 from h) (by decide), fun h => absurd (show (0 : Nat) = 1 from h) (by decide)⟩, ⟨rfl, fun i hi => absurd hi (Nat.not_lt_zero i)⟩, ⟨rfl, fun i hi => absurd hi (Nat.not_lt_zero i)⟩⟩, ?_, ?_⟩
  · show E 4 0 = nI (d 0 0)
    exact (g3 4 0 (by decide) (by decide) (by decide) (by omega) (by omega)).trans ((dF 4 0 (by decide) (by omega) (by omega) (by omega)).trans a40)
  · show E 7 0 = nI (d 0 1)
    exact (g3 7 0 (by decide) (by decide) (by decide) (by omega) (by omega)).trans d70
  · show E 2 x = nI (d 1 x)
    exact (g3 2 x (by decide) (by decide) (by decide) (by omega) (by omega)).trans ((f3 2 x (by omega) (by omega)).trans ((c2 x (Nat.zero_le _) hx).1.trans ((b3 2 _ (by decide)).trans ((aF 2 _ (by decide) (by decide)).trans (d3 x hx)))))
  · show E 3 x = nI (d 2 x)
    exact (g3 3 x (by decide) (by decide) (by decide) (by omega) (by omega)).trans ((f3 3 x (by omega) (by omega)).trans ((c2 x (Nat.zero_le _) hx).2.trans ((b3 3 _ (by decide)).trans ((aF 3 _ (by decide) (by decide)).trans (d4 x hx)))))
  · have ha : a < d 0 1 := ha
    show E 8 a = nI (d 3 a)
    exact (g2 a (Nat.zero_le _) ha).1.trans ((dF 8 _ (by decide) (by omega) (by omega) (by omega)).trans ((aF 8 _ (by decide) (by decide)).trans (d5 a ha)))
  · have ha : a < d 0 1 := ha
    show E 10 a = nI (d 4 a)
    exact (g2 a (Nat.zero_le _) ha).2.1.trans ((dF 10 _ (by decide) (by omega) (by omega) (by omega)).trans ((aF 10 _ (by decide) (by decide)).trans (d6 a ha)))
  · have ha : a < d 0 1 := ha
    show E 12 a = nI (d 5 a)
    exact (g2 a (Nat.zero_le _) ha).2.2.1.trans ((dF 12 _ (by decide) (by omega) (by omega) (by omega)).trans ((aF 12 _ (by decide) (by decide)).trans (d7 a ha)))
  · show E 6 r = nI (d 6 r)
    exact (g3 6 r (by decide) (by decide) (by decide) (by omega) (by omega)).trans ((f2 r (Nat.zero_le _) hr).1.trans ((cF 6 _ (by decide) (by omega) (by omega)).trans ((aF 6 _ (by decide) (by decide)).trans (d10 r hr))))
  · exact (g3 0 18 (by decide) (by decide) (by decide) (by omega) (by omega)).trans ((dF 0 18 (by decide) (by omega) (by omega) (by omega)).trans (aF 0 18 (by decide) (by decide)))
  · intro P
    rw [nI_0] at e1 e2 e3 e4
    exact (bnd r1).trans ((bnd w1).trans ((bnd r2).trans ((bnd w2).trans ((bnd e1).trans ((bnd e2).trans ((bnd e3).trans (bnd e4)))))))
theorem eq_town : EQ_town := by
  intro v σ μ hI hRc hRm
  obtain ⟨c1, c2, c3, c4, c5⟩ := id hRc
  obtain ⟨m1, m2, m3, m4, m5⟩ := id hRm
  obtain ⟨j1, j2, j3, j4, j5, j6, j7, j8, j9, j10, j11⟩ := id hI
  have hv : txtOK v := ⟨j7, j8⟩
  have hT : TX v (cSt σ) μ := ⟨⟨c4.1, c4.2⟩, m4⟩
  obtain ⟨μ5, em, hT5, hMT, h17, h18, hDM, hAM⟩ := m_start hv hT
  have hTS : TS v (cSt σ) μ5 0 true := ⟨hT5, Nat.zero_le _, rfl, rfl, h17, hMT⟩
  have hL := read_loop hv 200 0 0 2000 2000 (cSt σ) μ5 vS0 (by omega) (by decide) (by decide) (Nat.le_refl 0) hTS start_C hDM start_I h18
  rw [nI_0, ← em, ← c_start] at hL
  obtain ⟨σ', μ', e1, hac, ham, hres⟩ := LR_t start_AC hAM hL
  rcases hres with ⟨k, d, e2, hk, k17, k18, hC, hM, hD⟩ | ⟨q, e2, hq, q17, q14⟩
  · obtain ⟨E, x1, x2, x3⟩ := m_copy hM hD
    refine diff (v' := tV d) (σ' := cE σ') (μ' := mE E) (o := nI k) ?_ ?_ (tV_inv hD) (c_copy hC hD.1.2.1) x1
    · unfold pX10_town
      refine (bnd e2).trans ((if_pos (nI_pos' (by omega))).trans ?_)
      exact (bnd c_becomes).trans ((bnd c_row20).trans ((bnd rfl).trans ((bnd rfl).trans ((bnd rfl).trans ((bnd rfl).trans (bnd rfl))))))
    · unfold pX11_town
      refine (bnd e1).trans ((if_pos k17).trans ((x3 _).trans ?_))
      have y1 : wrA E 14 3 0 0 = some (s1 E 14 0 0) := by
        rw [show wrA E 14 3 0 0 = wrA E 14 3 (nI 0) 0 from rfl, wr_nI (by decide) (by decide)]
      have y2 : wrA (s1 E 14 0 0) 17 2 0 (vp_nar .boolean 0) = some (s1 (s1 E 14 0 0) 17 0 0) := by
        rw [show vp_nar .boolean 0 = 0 from rfl, show wrA (s1 E 14 0 0) 17 2 0 0 = wrA (s1 E 14 0 0) 17 2 (nI 0) 0 from rfl, wr_nI (by decide) (by decide)]
      have y3 : wrA (s1 (s1 E 14 0 0) 17 0 0) 17 2 1 (vp_nar .boolean 0) = some (s1 (s1 (s1 E 14 0 0) 17 0 0) 17 1 0) := by
        rw [show vp_nar .boolean 0 = 0 from rfl, show wrA (s1 (s1 E 14 0 0) 17 0 0) 17 2 1 0 = wrA (s1 (s1 E 14 0 0) 17 0 0) 17 2 (nI 1) 0 from rfl, wr_nI (by decide) (by decide)]
      refine (bnd y1).trans ((bnd y2).trans ((bnd y3).trans ((bnd rfl).trans ((bnd rfl).trans ?_))))
      show some (E 0 18, mE E) = some (nI k, mE E)
      rw [x2, k18]
  · refine diff (v' := v) (σ' := σ') (μ' := μ') (o := (-10) - nI q) ?_ ?_ hI (Rc_keep hRc hac) (Rm_keep j1 hRm ham)
    · unfold pX10_town
      exact (bnd e2).trans (if_neg (neg_q q (by omega)))
    · unfold pX11_town
      refine (bnd e1).trans ((if_neg (show ¬ μ' 0 17 = 0 by rw [q17]; decide)).trans ?_)
      rw [q14]
end G
