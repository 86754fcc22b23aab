/-! what was: remembered, brought back, kept in images -/
theorem row_all {v : Vw} {f : Nat → Nat} (h : ∀ i, i < 45 → f i = v 7 i) (hv : rowOK (v 0 0) (v 7)) : rowOK (v 0 0) f := by
  obtain ⟨h1, h2, h3⟩ := hv
  refine ⟨fun a ha => ?_, fun r hr => ?_, ?_⟩
  · rw [h a (by omega), h (8 + a) (by omega), h (16 + a) (by omega), h (24 + a) (by omega)]
    exact h1 a ha
  · rw [h (32 + r) (by omega), h (38 + r) (by omega)]
    exact h2 r hr
  · rw [h 44 (by omega)]
    exact h3
theorem row_eq {n : Nat} {f g : Nat → Nat} (h : ∀ i, i < 45 → f i = g i) (hg : rowOK n g) : rowOK n f := by
  obtain ⟨h1, h2, h3⟩ := hg
  refine ⟨fun a ha => ?_, fun r hr => ?_, ?_⟩
  · rw [h a (by omega), h (8 + a) (by omega), h (16 + a) (by omega), h (24 + a) (by omega)]
    exact h1 a ha
  · rw [h (32 + r) (by omega), h (38 + r) (by omega)]
    exact h2 r hr
  · rw [h 44 (by omega)]
    exact h3
theorem Inv_row {v : Vw} {f : Nat → Nat} (h : Inv v) (hf : rowOK (v 0 0) f) : Inv (vs v 7 f) := by
  obtain ⟨j1, j2⟩ := h
  exact ⟨⟨j1.1, j1.2.1, j1.2.2.1, j1.2.2.2.1, j1.2.2.2.2.1, hf⟩, j2⟩
theorem Rc_row {σ : Sg} {v : Vw} {g : Nat → Int32} {f : Nat → Nat} (h : Rc σ v) (hg : ∀ i, i < 45 → g i = nI (f i)) : Rc (sA σ 20 g) (vs v 7 f) := by
  obtain ⟨c1, c2, c3, c4, c5⟩ := h
  obtain ⟨r1, r2, r3, r4, r5, r6, r7, r8, r9, r10⟩ := c1
  exact ⟨⟨r1, r2, r3, r4, r5, r6, r7, r8, r9, hg⟩, c2, c3, c4, c5⟩
theorem Rm_row {μ : Sg} {v : Vw} {g : Nat → Int32} {f : Nat → Nat} (h : Rm μ v) (hg : ∀ i, i < 45 → g (mq i) = nI (f i)) : Rm (sA μ 13 g) (vs v 7 f) := by
  obtain ⟨c1, c2, c3, c4, c5⟩ := h
  obtain ⟨r1, r2, r3, r4, r5, r6, r7, r8, r10⟩ := c1
  exact ⟨⟨r1, r2, r3, r4, r5, r6, r7, r8, hg⟩, c2, c3, c4, c5⟩
theorem mq_upd {g : Nat → Int32} {f : Nat → Nat} {k x : Nat} (hk : k < 45) (h : ∀ i, i < 45 → g (mq i) = nI (f i)) : ∀ i, i < 45 → upd g (mq k) (nI x) (mq i) = nI (updN f k x i) := by
  intro i hi
  by_cases e : i = k
  · subst e; rw [pk_us, updN_s]
  · rw [pk_un (fun z => e (mq_inj hi hk z)), updN_n e, h i hi]
theorem cpy_0 {σ : Sg} {c a b : Nat} {f : Nat → Int32} : sA σ c (va_cpy f (σ c) a b 0) = σ := by
  have : va_cpy f (σ c) a b 0 = σ c := by
    funext j
    exact pk_cpy_out (by omega)
  rw [this, sA_self]
theorem cpy_s {σ : Sg} {c a b i : Nat} {f g : Nat → Int32} : s1 (sA σ c (va_cpy f g a b i)) c (b + i) (f (a + i)) = sA σ c (va_cpy f g a b (i + 1)) := by
  rw [s1_sA, sA_eq, sA_sA]
  congr 1
  funext j
  by_cases e : j = b + i
  · subst e
    rw [pk_us, pk_cpy_in (by omega) (by omega)]
    congr 1
    omega
  · rw [pk_un e]
    by_cases q : b ≤ j ∧ j < b + i
    · rw [pk_cpy_in q.1 q.2, pk_cpy_in q.1 (by omega)]
    · rw [pk_cpy_out (by omega), pk_cpy_out (by omega)]
/-- what was, one more -/
def memF (v : Vw) : Nat → Nat := if v 0 4 < 10 then (fun j => if j < 45 * v 0 4 then v 8 j else v 7 (j - 45 * v 0 4)) else (fun j => if j < 405 then v 8 (45 + j) else v 7 (j - 405))
def memV (v : Vw) : Vw := vs (vs v 8 (memF v)) 0 (updN (v 0) 4 (if v 0 4 < 10 then v 0 4 + 1 else 10))
section G
variable {σ μ : Sg} {v : Vw}
theorem mem_inv (hI : Inv v) : Inv (memV v) := by
  obtain ⟨j1, ⟨k1, k2⟩, j3, j4, j5, j6, j7⟩ := id hI
  refine ⟨j1, ?_, j3, j4, j5, j6, j7⟩
  show rowsOK (v 0 0) (if v 0 4 < 10 then v 0 4 + 1 else 10) (memF v)
  unfold memF
  by_cases q : v 0 4 < 10
  · rw [if_pos q, if_pos q]
    refine ⟨by omega, fun k hk => ?_⟩
    by_cases e : k = v 0 4
    · refine row_all (v := v) (fun i hi => ?_) j1.2.2.2.2.2
      show (if 45 * k + i < 45 * v 0 4 then _ else _) = _
      rw [if_neg (by omega)]
      congr 1
      omega
    · refine row_eq (fun i hi => ?_) (k2 k (by omega))
      show (if 45 * k + i < 45 * v 0 4 then _ else _) = _
      rw [if_pos (by omega)]
  · rw [if_neg q, if_neg q]
    refine ⟨by omega, fun k hk => ?_⟩
    by_cases e : k = 9
    · refine row_all (v := v) (fun i hi => ?_) j1.2.2.2.2.2
      show (if 45 * k + i < 405 then _ else _) = _
      rw [if_neg (by omega)]
      exact congrArg (v 7) (by omega)
    · refine row_eq (fun i hi => ?_) (k2 (k + 1) (by omega))
      show (if 45 * k + i < 405 then _ else _) = _
      rw [if_pos (by omega)]
      exact congrArg (v 8) (by omega)
theorem c_mem (hR : Rc σ v) (hI : Inv v) : ∃ σ', pX6_remembers 20 σ = some σ' ∧ Rc σ' (memV v) := by
  obtain ⟨c1, ⟨p1, p2⟩, c3, c4, c5⟩ := id hR
  have k1 := hI.2.1.1
  have hr := c1.2.2.2.2.2.2.2.2.2
  unfold pX6_remembers
  by_cases q : v 0 4 < 10
  · refine ⟨s1 (sA σ 22 (va_cpy (σ 20) (σ 22) 0 (45 * v 0 4) 45)) 21 1 (nI (v 0 4 + 1)), ?_, ⟨c1, ?_, c3, c4, c5⟩⟩
    · rw [p1, if_pos (show nI (v 0 4) < (10 : Int32) from nI_lt (b := 10) q (by decide)), Option.bind_some]
      rw [p1, show nI (v 0 4) * 45 = nI (v 0 4 * 45) from pk_mul _ 45, show (0 : Int32) = nI 0 from rfl, show (45 : Int32) = nI 45 from rfl, copy_nI (by omega) (by omega) (by decide) (by decide), Option.bind_some, Option.bind_some, Nat.mul_comm]
      show some (s1 (sA σ 22 (va_cpy (σ 20) (σ 22) 0 (45 * v 0 4) 45)) 21 1 (σ 21 1 + 1)) = _
      rw [p1, nI_1]
    · refine ⟨?_, ?_⟩
      · show nI (v 0 4 + 1) = nI (if v 0 4 < 10 then v 0 4 + 1 else 10)
        rw [if_pos q]
      · intro i hi
        have hi : i < 45 * (if v 0 4 < 10 then v 0 4 + 1 else 10) := hi
        rw [if_pos q] at hi
        show va_cpy (σ 20) (σ 22) 0 (45 * v 0 4) 45 i = nI (memF v i)
        unfold memF
        rw [if_pos q]
        by_cases e : i < 45 * v 0 4
        · rw [pk_cpy_out (by omega), p2 i e, if_pos e]
        · rw [pk_cpy_in (by omega) (by omega), hr _ (by omega), if_neg e, Nat.zero_add]
  · have e10 : v 0 4 = 10 := by omega
    refine ⟨s1 (sA (s1 σ 21 1 9) 22 (va_cpy (σ 20) (va_cpy (σ 22) (σ 22) 45 0 405) 0 405 45)) 21 1 (nI 10), ?_, ⟨c1, ?_, c3, c4, c5⟩⟩
    · rw [p1, if_neg (show ¬ nI (v 0 4) < (10 : Int32) from nI_nlt (b := 10) (by omega) (by omega)), Option.bind_some]
      show Option.bind (Option.bind (some (sA (s1 σ 21 1 9) 22 (pX10_copy (σ 22) 450 (nI 45) (σ 22) 450 (nI 0) (nI 405)))) _) _ = _
      rw [copy_nI (by omega) (by omega) (by decide) (by decide), Option.bind_some, Option.bind_some]
      show Option.bind (some (sA (sA (s1 σ 21 1 9) 22 (va_cpy (σ 22) (σ 22) 45 0 405)) 22 (pX10_copy (σ 20) 45 (nI 0) (va_cpy (σ 22) (σ 22) 45 0 405) 450 (nI 405) (nI 45)))) _ = _
      rw [copy_nI (by omega) (by omega) (by decide) (by decide), sA_sA, Option.bind_some]
      rfl
    · refine ⟨?_, ?_⟩
      · show nI 10 = nI (if v 0 4 < 10 then v 0 4 + 1 else 10)
        rw [if_neg q]
      · intro i hi
        have hi : i < 45 * (if v 0 4 < 10 then v 0 4 + 1 else 10) := hi
        rw [if_neg q] at hi
        show va_cpy (σ 20) (va_cpy (σ 22) (σ 22) 45 0 405) 0 405 45 i = nI (memF v i)
        unfold memF
        rw [if_neg q]
        by_cases e : i < 405
        · rw [pk_cpy_out (by omega), pk_cpy_in (by omega) (by omega), p2 _ (by omega), if_pos e, Nat.sub_zero]
        · rw [pk_cpy_in (by omega) (by omega), hr _ (by omega), if_neg e, Nat.zero_add]
theorem m_kn (hR : Rm μ v) : rdA μ 14 3 0 = some (nI (v 0 4)) := by
  rw [show (0 : Int32) = nI 0 from rfl, rd_nI (by decide) (by decide), hR.2.1.1]
/-- the last step of it: the row that is now, behind what is known -/
theorem m_put {n : Nat} (h14 : μ 14 0 = nI n) (hn : n < 10) : pX11_know_L53 2000 0 μ = some (sA μ 15 (va_cpy (μ 13) (μ 15) 0 (45 * n) 45)) := by
  have key := loop_up (fun k (s : Int32 × Sg) => pX11_know_L53 k s.1 s.2) (fun i => (nI i, sA μ 15 (va_cpy (μ 13) (μ 15) 0 (45 * n) i))) 45 (some (sA μ 15 (va_cpy (μ 13) (μ 15) 0 (45 * n) 45)))
    (by
      intro k i hi
      show pX11_know_L53 (k + 1) (nI i) (sA μ 15 _) = pX11_know_L53 k (nI (i + 1)) (sA μ 15 _)
      have e1 : rdA (sA μ 15 (va_cpy (μ 13) (μ 15) 0 (45 * n) i)) 14 3 0 = some (nI n) := by
        rw [show (0 : Int32) = nI 0 from rfl, rd_nI (by decide) (by decide)]
        exact congrArg some h14
      have e2 : rdA (sA μ 15 (va_cpy (μ 13) (μ 15) 0 (45 * n) i)) 13 45 (nI i) = some (μ 13 i) := rd_nI (by omega) (by decide)
      rw [pX11_know_L53, if_neg (show ¬ (45 : Int32) ≤ nI i from nI_ge (b := 45) hi (by decide)), e1]
      rw [Option.bind_some, e2, Option.bind_some, show (45 : Int32) * nI n = nI (45 * n) from pk_mul 45 n, nI_add, wr_nI (by omega) (by decide), Option.bind_some, nI_1]
      have := cpy_s (σ := μ) (c := 15) (a := 0) (b := 45 * n) (i := i) (f := μ 13) (g := μ 15)
      rw [Nat.zero_add] at this
      rw [this])
    (by
      intro k
      show pX11_know_L53 (k + 1) (nI 45) (sA μ 15 _) = _
      rw [pX11_know_L53, if_pos (show (45 : Int32) ≤ nI 45 from nI_le (Nat.le_refl 45) (by decide))]) 45 0 2000 (by omega) (by omega)
  have key : pX11_know_L53 2000 (nI 0) (sA μ 15 (va_cpy (μ 13) (μ 15) 0 (45 * n) 0)) = _ := key
  rw [cpy_0, nI_0] at key
  exact key
theorem m_shift : pX11_know_L13 2000 0 μ = some (sA μ 15 (va_cpy (μ 15) (μ 15) 45 0 405)) := by
  have key := loop_up (fun k (s : Int32 × Sg) => pX11_know_L13 k s.1 s.2) (fun i => (nI i, sA μ 15 (va_cpy (μ 15) (μ 15) 45 0 i))) 405 (some (sA μ 15 (va_cpy (μ 15) (μ 15) 45 0 405)))
    (by
      intro k i hi
      show pX11_know_L13 (k + 1) (nI i) (sA μ 15 _) = pX11_know_L13 k (nI (i + 1)) (sA μ 15 _)
      rw [pX11_know_L13, if_neg (show ¬ (405 : Int32) ≤ nI i from nI_ge (b := 405) hi (by decide)), show (45 : Int32) + nI i = nI (45 + i) from nI_add 45 i, rd_nI (by omega) (by decide), Option.bind_some, sA_eq, pk_cpy_out (by omega), wr_nI (by omega) (by decide), Option.bind_some, nI_1]
      have := cpy_s (σ := μ) (c := 15) (a := 45) (b := 0) (i := i) (f := μ 15) (g := μ 15)
      rw [Nat.zero_add] at this
      rw [this])
    (by
      intro k
      show pX11_know_L13 (k + 1) (nI 405) (sA μ 15 _) = _
      rw [pX11_know_L13, if_pos (show (405 : Int32) ≤ nI 405 from nI_le (Nat.le_refl 405) (by decide))]) 405 0 2000 (by omega) (by omega)
  have key : pX11_know_L13 2000 (nI 0) (sA μ 15 (va_cpy (μ 15) (μ 15) 45 0 0)) = _ := key
  rw [cpy_0, nI_0] at key
  exact key
theorem m_mem (hR : Rm μ v) (hI : Inv v) : ∃ μ', pX11_know μ = some μ' ∧ Rm μ' (memV v) := by
  obtain ⟨c1, ⟨p1, p2⟩, ⟨i1, i2, i3, i4⟩, c4, c5⟩ := id hR
  have k1 := hI.2.1.1
  have hr := c1.2.2.2.2.2.2.2.2
  by_cases q : v 0 4 < 10
  · refine ⟨s1 (sA μ 15 (va_cpy (μ 13) (μ 15) 0 (45 * v 0 4) 45)) 14 0 (nI (v 0 4 + 1)), ?_, ⟨c1, ?_, ⟨i1, i2, fun z => ?_, fun z => ?_⟩, c4, c5⟩⟩
    · unfold pX11_know
      refine (bnd (m_kn hR)).trans ?_
      rw [if_neg (show ¬ nI (v 0 4) = 10 from fun e => by have := (nI_eq (b := 10) (by omega) (by decide)).mp e; omega)]
      refine (bnd (m_put p1 q)).trans ?_
      have e1 : rdA (sA μ 15 (va_cpy (μ 13) (μ 15) 0 (45 * v 0 4) 45)) 14 3 0 = some (nI (v 0 4)) := by
        rw [show (0 : Int32) = nI 0 from rfl, rd_nI (by decide) (by decide)]
        exact congrArg some p1
      refine (bnd e1).trans ?_
      rw [nI_1, show (0 : Int32) = nI 0 from rfl, wr_nI (by decide) (by decide)]
      rfl
    · refine ⟨?_, ?_⟩
      · show nI (v 0 4 + 1) = nI (if v 0 4 < 10 then v 0 4 + 1 else 10)
        rw [if_pos q]
      · intro k hk i hi
        have hk : k < (if v 0 4 < 10 then v 0 4 + 1 else 10) := hk
        have hq := mq_lt hi
        rw [if_pos q] at hk
        show va_cpy (μ 13) (μ 15) 0 (45 * v 0 4) 45 (0 + 45 * k + mq i) = nI (memF v (45 * k + i))
        unfold memF
        rw [if_pos q]
        by_cases e : k = v 0 4
        · subst e
          rw [pk_cpy_in (by omega) (by omega), if_neg (by omega), show 45 * v 0 4 + i - 45 * v 0 4 = i by omega, ← hr i hi]
          congr 1
          omega
        · rw [pk_cpy_out (by omega), if_pos (by omega), p2 k (by omega) i hi]
    · obtain ⟨z1, z2, z3⟩ := i3 z
      refine ⟨z1, z2, ?_⟩
      intro k hk i hi
      show va_cpy (μ 13) (μ 15) 0 (45 * v 0 4) 45 _ = _
      rw [pk_cpy_out (by omega)]
      exact z3 k hk i hi
    · obtain ⟨z1, z2, z3⟩ := i4 z
      refine ⟨z1, z2, ?_⟩
      intro k hk i hi
      show va_cpy (μ 13) (μ 15) 0 (45 * v 0 4) 45 _ = _
      rw [pk_cpy_out (by omega)]
      exact z3 k hk i hi
  · have e10 : v 0 4 = 10 := by omega
    refine ⟨s1 (sA (s1 (sA μ 15 (va_cpy (μ 15) (μ 15) 45 0 405)) 14 0 (nI 9)) 15 (va_cpy (μ 13) (va_cpy (μ 15) (μ 15) 45 0 405) 0 405 45)) 14 0 (nI 10), ?_, ⟨c1, ?_, ⟨i1, i2, fun z => ?_, fun z => ?_⟩, c4, c5⟩⟩
    · unfold pX11_know
      refine (bnd (m_kn hR)).trans ?_
      rw [if_pos (show nI (v 0 4) = 10 by rw [e10]; rfl)]
      refine (bnd m_shift).trans ?_
      have e1 : rdA (sA μ 15 (va_cpy (μ 15) (μ 15) 45 0 405)) 14 3 0 = some (nI 10) := by
        rw [show (0 : Int32) = nI 0 from rfl, rd_nI (by decide) (by decide), ← e10]
        exact congrArg some p1
      refine (bnd e1).trans ?_
      have e2 : wrA (sA μ 15 (va_cpy (μ 15) (μ 15) 45 0 405)) 14 3 0 (nI 10 - 1) = some (s1 (sA μ 15 (va_cpy (μ 15) (μ 15) 45 0 405)) 14 0 (nI 9)) := by
        rw [show (0 : Int32) = nI 0 from rfl, wr_nI (by decide) (by decide), nI_pred 9]
      refine (bnd e2).trans ?_
      refine (bnd (m_put (n := 9) rfl (by decide))).trans ?_
      rfl
    · refine ⟨?_, ?_⟩
      · show nI 10 = nI (if v 0 4 < 10 then v 0 4 + 1 else 10)
        rw [if_neg q]
      · intro k hk i hi
        have hk : k < (if v 0 4 < 10 then v 0 4 + 1 else 10) := hk
        have hq := mq_lt hi
        rw [if_neg q] at hk
        show va_cpy (μ 13) (va_cpy (μ 15) (μ 15) 45 0 405) 0 405 45 (0 + 45 * k + mq i) = nI (memF v (45 * k + i))
        unfold memF
        rw [if_neg q]
        by_cases e : k = 9
        · subst e
          rw [pk_cpy_in (by omega) (by omega), if_neg (by omega), show 45 * 9 + i - 405 = i by omega, ← hr i hi]
          exact congrArg (μ 13) (by omega)
        · rw [pk_cpy_out (by omega), pk_cpy_in (by omega) (by omega), if_pos (by omega)]
          have := p2 (k + 1) (by omega) i hi
          rw [show 45 + (45 * k + i) = 45 * (k + 1) + i by omega, ← this]
          exact congrArg (μ 15) (by omega)
    · obtain ⟨z1, z2, z3⟩ := i3 z
      refine ⟨z1, z2, ?_⟩
      intro k hk i hi
      show va_cpy (μ 13) (va_cpy (μ 15) (μ 15) 45 0 405) 0 405 45 _ = _
      rw [pk_cpy_out (by omega), pk_cpy_out (by omega)]
      exact z3 k hk i hi
    · obtain ⟨z1, z2, z3⟩ := i4 z
      refine ⟨z1, z2, ?_⟩
      intro k hk i hi
      show va_cpy (μ 13) (va_cpy (μ 15) (μ 15) 45 0 405) 0 405 45 _ = _
      rw [pk_cpy_out (by omega), pk_cpy_out (by omega)]
      exact z3 k hk i hi
end G
