/-! the items of the text: the loop over them -/
section G
variable {σ μ : Sg} {v d : Vw}
theorem number_bad (h : ¬ σ 33 6 = -1) (lo hi but : Int32) : pX7_number σ lo hi but = some (0, σ) := by
  unfold pX7_number
  rw [if_neg h]
theorem stops_bad (h : ¬ σ 33 6 = -1) : pX7_stops σ = some (0, σ) := by
  unfold pX7_stops
  rw [if_neg h]
theorem anchor_full (h : ¬ σ 10 8 < 8) (hq : ¬ σ 33 4 = -1) : pX7_readAnchor σ = some (s1 σ 33 6 (σ 33 4)) := by
  have hb : ¬ (s1 σ 33 6 (σ 33 4)) 33 6 = -1 := hq
  unfold pX7_readAnchor
  rw [if_neg h, Option.bind_some, Option.bind_some]
  exact (bnd (number_bad hb _ _ _)).trans ((bnd (number_bad hb _ _ _)).trans ((bnd (number_bad hb _ _ _)).trans ((bnd (number_bad hb _ _ _)).trans ((bnd (number_bad hb _ _ _)).trans ((bnd (stops_bad hb)).trans (if_pos rfl))))))
theorem raft_full (h : ¬ σ 10 7 < 6) (hq : ¬ σ 33 4 = -1) : pX7_readRaft σ = some (s1 σ 33 6 (σ 33 4)) := by
  have hb : ¬ (s1 σ 33 6 (σ 33 4)) 33 6 = -1 := hq
  unfold pX7_readRaft
  rw [if_neg h, Option.bind_some, Option.bind_some]
  exact (bnd (number_bad hb _ _ _)).trans ((bnd (stops_bad hb)).trans (if_pos rfl))
def itemC (u : Sg) (c : Int32) : Option Sg := (if c = 97 then (pX7_readAnchor u).bind fun u12 => some u12 else (if c = 99 then (pX7_readCell u).bind fun u14 => some u14 else (if c = 114 then (pX7_readRaft u).bind fun u16 => some u16 else (if c = 116 then (pX7_readRope u).bind fun u18 => some u18 else (some (s1 u 33 6 (u 33 4))).bind fun σ20 => some σ20))))
theorem item_97 {w : Sg} (h : pX7_readAnchor σ = some w) : itemC σ 97 = some w := by
  unfold itemC
  rw [if_pos rfl]
  exact bnd h
theorem item_99 {w : Sg} (h : pX7_readCell σ = some w) : itemC σ 99 = some w := by
  unfold itemC
  rw [if_neg (show ¬ (99 : Int32) = 97 by decide), if_pos rfl]
  exact bnd h
theorem item_114 {w : Sg} (h : pX7_readRaft σ = some w) : itemC σ 114 = some w := by
  unfold itemC
  rw [if_neg (show ¬ (114 : Int32) = 97 by decide), if_neg (show ¬ (114 : Int32) = 99 by decide), if_pos rfl]
  exact bnd h
theorem item_116 {w : Sg} (h : pX7_readRope σ = some w) : itemC σ 116 = some w := by
  unfold itemC
  rw [if_neg (show ¬ (116 : Int32) = 97 by decide), if_neg (show ¬ (116 : Int32) = 99 by decide), if_neg (show ¬ (116 : Int32) = 114 by decide), if_pos rfl]
  exact bnd h
theorem item_no {c : Int32} (h1 : ¬ c = 97) (h2 : ¬ c = 99) (h3 : ¬ c = 114) (h4 : ¬ c = 116) : itemC σ c = some (s1 σ 33 6 (σ 33 4)) := by
  unfold itemC
  rw [if_neg h1, if_neg h2, if_neg h3, if_neg h4, Option.bind_some]
theorem c_loop {n : Nat} {x2 x3 c : Int32} {u w : Sg} (hk : ¬ 200 ≤ x3) (h1 : pX7_nextToken σ = some u) (h2 : ¬ u 33 3 = 0) (h3 : ((if u 33 3 = 1 then some (u 33 5) else some 0) : Option Int32) = some c) (h4 : itemC u c = some w) : pX7_readInto_L18 (n + 1) x2 x3 σ = if w 33 6 = -1 then pX7_readInto_L18 n (x2 + 1) (x3 + 1) w else some ((-10) - w 33 6, w) := by
  rw [pX7_readInto_L18, if_neg hk]
  exact (bnd h1).trans ((if_neg h2).trans ((bnd h3).trans (bnd h4)))
theorem m_stop17 {n : Nat} (h17 : μ 0 17 = 1) : pX11_read_L91 (n + 1) μ = some μ := by
  rw [pX11_read_L91]
  by_cases h : μ 0 15 = 4
  · rw [if_pos h]
  · rw [if_neg h, h17, if_neg (by decide)]
theorem m_loop_yes {n : Nat} {u w z : Sg} (h15 : μ 0 15 = 1) (h17 : μ 0 17 = 0) (hmay : pX11_may μ (μ 0 16) = some 1) (hdue : pX11_due μ 1 = some u) (hu : u 0 17 = 0) (hit : pX11_item u (μ 0 16) = some w) (hds : dueS w = some z) : pX11_read_L91 (n + 1) μ = pX11_read_L91 n (s1 z 0 18 (z 0 18 + 1)) := by
  have h4 : ¬ μ 0 15 = 4 := by rw [h15]; decide
  rw [pX11_read_L91, if_neg h4, if_pos h17]
  refine (bnd (if_pos h15)).trans ((bnd ((if_pos h15).trans ((bnd hmay).trans (if_neg (by decide))))).trans ((bnd hdue).trans ((if_pos hu).trans ((bnd hit).trans ?_))))
  unfold dueS at hds
  by_cases h3 : w 0 15 = 3
  · rw [if_pos h3] at hds
    rw [if_pos h3]
    exact (bnd hds).trans (bnd rfl)
  · rw [if_neg h3] at hds
    rw [if_neg h3]
    exact (bnd hds).trans (bnd rfl)
theorem m_loop_no {n : Nat} (h4 : ¬ μ 0 15 = 4) (h17 : μ 0 17 = 0) (hj : ¬ μ 0 15 = 1 ∨ μ 0 15 = 1 ∧ pX11_may μ (μ 0 16) = some 0) : pX11_read_L91 (n + 2) μ = some (s1 μ 0 17 1) := by
  have hu : ¬ (s1 μ 0 17 1) 0 17 = 0 := show ¬ (1 : Int32) = 0 by decide
  have hs : pX11_read_L91 (n + 1) (s1 μ 0 17 1) = some (s1 μ 0 17 1) := m_stop17 rfl
  rw [pX11_read_L91, if_neg h4, if_pos h17]
  rcases hj with h | ⟨h, hm⟩
  · exact (bnd (if_neg h)).trans ((bnd (if_neg h)).trans ((bnd (due_no h17)).trans ((if_neg hu).trans hs)))
  · exact (bnd (if_pos h)).trans ((bnd ((if_pos h).trans ((bnd hm).trans (if_pos rfl)))).trans ((bnd (due_no h17)).trans ((if_neg hu).trans hs)))
theorem may_97 (hM : DM μ d) (h : d 0 1 ≤ 8) : pX11_may μ 97 = some (if 8 ≤ d 0 1 then 0 else 1) := by
  unfold pX11_may
  have e : rdA μ 7 2 1 = some (nI (d 0 1)) := by
    rw [show (1 : Int32) = nI 1 from rfl, rd_nI (by decide) (by decide), hM.2.1]
  rw [if_pos rfl]
  refine (bnd e).trans ?_
  by_cases q : 8 ≤ d 0 1
  · rw [if_pos q, if_pos (show (8 : Int32) ≤ nI (d 0 1) from nI_le (a := 8) q (by omega))]
  · rw [if_neg q, if_neg (show ¬ (8 : Int32) ≤ nI (d 0 1) from nI_ge (b := 8) (by omega) (by decide))]
theorem may_114 (hM : DM μ d) (h : d 0 0 ≤ 6) : pX11_may μ 114 = some (if 6 ≤ d 0 0 then 0 else 1) := by
  unfold pX11_may
  have e : rdA μ 4 2 1 = some (nI (d 0 0)) := by
    rw [show (1 : Int32) = nI 1 from rfl, rd_nI (by decide) (by decide), hM.1]
  rw [if_neg (show ¬ (114 : Int32) = 97 by decide), if_pos rfl]
  refine (bnd e).trans ?_
  by_cases q : 6 ≤ d 0 0
  · rw [if_pos q, if_pos (show (6 : Int32) ≤ nI (d 0 0) from nI_le (a := 6) q (by omega))]
  · rw [if_neg q, if_neg (show ¬ (6 : Int32) ≤ nI (d 0 0) from nI_ge (b := 6) (by omega) (by decide))]
theorem may_99 : pX11_may μ 99 = some 1 := by
  unfold pX11_may
  rw [if_neg (show ¬ (99 : Int32) = 97 by decide), if_neg (show ¬ (99 : Int32) = 114 by decide), if_pos rfl]
theorem may_116 : pX11_may μ 116 = some 1 := by
  unfold pX11_may
  rw [if_neg (show ¬ (116 : Int32) = 97 by decide), if_neg (show ¬ (116 : Int32) = 114 by decide), if_neg (show ¬ (116 : Int32) = 99 by decide), if_pos rfl]
theorem may_no {c : Int32} (h1 : ¬ c = 97) (h2 : ¬ c = 99) (h3 : ¬ c = 114) (h4 : ¬ c = 116) : pX11_may μ c = some 0 := by
  unfold pX11_may
  rw [if_neg h1, if_neg h3, if_neg h2, if_neg h4]
theorem DC_33 {f : Nat → Int32} (h : DC σ d) : DC (sA σ 33 f) d := by
  obtain ⟨d1, d2, d3, d4, d5, d6, d7, d8, d9, d10⟩ := h
  exact ⟨d1, d2, d3, d4, d5, d6, d7, d8, d9, d10⟩
theorem DM_0 {g : Nat → Int32} (h : DM μ d) : DM (sA μ 0 g) d := by
  obtain ⟨d1, d2, d3, d4, d5, d6, d7, d8, d9, d10, d11⟩ := h
  exact ⟨d1, d2, d3, d4, d5, d6, d7, d8, d9, d10, d11⟩
theorem TS_18 {p : Nat} {ok : Bool} {x : Int32} (h : TS v σ μ p ok) : TS v σ (s1 μ 0 18 x) p ok := by
  cases ok
  · obtain ⟨⟨t1, t2, t3⟩, h1, h2, h3, h4⟩ := h
    exact ⟨⟨t1, t2, t3⟩, h1, h2, h3, h4⟩
  · obtain ⟨⟨t1, t2, t3⟩, h1, h2, h3, h4, m1, m2, m3, m4⟩ := h
    exact ⟨⟨t1, t2, t3⟩, h1, h2, h3, h4, m1, m2, m3, m4⟩
theorem let_lt (hv : txtOK v) {p : Nat} (h : tkK v p = 1) : tkV v p < 256 := by
  unfold tkK at h
  unfold tkV
  generalize tkS v p = s at h
  unfold kindS at h
  unfold valS
  by_cases hs : s < v 0 2
  · have hb := hv.2 s hs
    rw [if_pos hs] at h
    by_cases hL : byteIn v 97 122 s = true
    · rw [if_pos hL]
      split <;> omega
    · rw [if_neg hL] at h
      split at h
      · split at h <;> omega
      · split at h <;> omega
  · rw [if_neg hs] at h
    omega
/-- how both end -/
def LR (v : Vw) (σ μ : Sg) (C : Option (Int32 × Sg)) (M : Option Sg) : Prop := ∃ (σ' μ' : Sg), M = some μ' ∧ AC σ σ' ∧ AM μ μ' ∧ ((∃ (k : Nat) (d : Vw), C = some (nI k, σ') ∧ k ≤ 200 ∧ μ' 0 17 = 0 ∧ μ' 0 18 = nI k ∧ DC σ' d ∧ DM μ' d ∧ DI d) ∨ (∃ q : Nat, C = some ((-10) - nI q, σ') ∧ q ≤ 200 ∧ μ' 0 17 = 1 ∧ μ' 0 14 = nI q))
theorem LR_t {σ' μ' : Sg} {C : Option (Int32 × Sg)} {M : Option Sg} (h1 : AC σ σ') (h2 : AM μ μ') (h : LR v σ' μ' C M) : LR v σ μ C M := by
  obtain ⟨a, b, e1, e2, e3, e4⟩ := h
  exact ⟨a, b, e1, AC_t h1 e2, AM_t h2 e3, e4⟩
theorem loop_end (hv : txtOK v) {p k n n2 : Nat} (h : TS v σ μ p true) (hC : DC σ d) (hM : DM μ d) (hI : DI d) (h18 : μ 0 18 = nI k) (hkp : k ≤ p) (hK : tkK v p = 0) : LR v σ μ (pX7_readInto_L18 (n + 1) (nI k) (nI k) σ) (pX11_read_L91 (n2 + 1) μ) := by
  obtain ⟨hT, hpL, h2, h6, h17, hMT⟩ := h
  have h200 := hv.1
  have h15 : μ 0 15 = 4 := by rw [hMT.2.2.1, hK]; rfl
  have em : pX11_read_L91 (n2 + 1) μ = some μ := by rw [pX11_read_L91, if_pos h15]
  by_cases hk : 200 ≤ k
  · refine ⟨σ, μ, em, AC_r, AM_r, Or.inl ⟨k, d, ?_, by omega, h17, h18, hC, hM, hI⟩⟩
    rw [pX7_readInto_L18, if_pos (show (200 : Int32) ≤ nI k from nI_le (a := 200) hk (by omega))]
  · obtain ⟨f, e1, f1, f6, f2, f4, f3, f5⟩ := c_next (σ := σ) hv (f := σ 33) hT.1 h2 hpL
    rw [sA_self] at e1
    refine ⟨sA σ 33 f, μ, em, AC_33 f1, AM_r, Or.inl ⟨k, d, ?_, by omega, h17, h18, DC_33 hC, hM, hI⟩⟩
    have h30 : (sA σ 33 f) 33 3 = 0 := f3.trans (by rw [hK]; rfl)
    rw [pX7_readInto_L18, if_neg (show ¬ (200 : Int32) ≤ nI k from nI_ge (b := 200) (by omega) (by decide))]
    exact (bnd e1).trans (if_pos h30)
theorem read_loop (hv : txtOK v) : ∀ (m p k n n2 : Nat) (σ μ : Sg) (d : Vw), v 0 2 ≤ p + m → m < n → m + 1 < n2 → k ≤ p → TS v σ μ p true → DC σ d → DM μ d → DI d → μ 0 18 = nI k → LR v σ μ (pX7_readInto_L18 n (nI k) (nI k) σ) (pX11_read_L91 n2 μ) := by
  intro m
  induction m with
  | zero =>
    intro p k n n2 σ μ d hm hn hn2 hk h hC hM hI h18
    obtain ⟨n, rfl⟩ : ∃ j, n = j + 1 := ⟨n - 1, by omega⟩
    obtain ⟨n2, rfl⟩ : ∃ j, n2 = j + 1 := ⟨n2 - 1, by omega⟩
    refine loop_end hv h hC hM hI h18 hk ?_
    by_cases hK : tkK v p = 0
    · exact hK
    · have h1 := tkE_gt hK
      have h2 := tkE_le h.2.1
      omega
  | succ m ih =>
    intro p k n n2 σ μ d hm hn hn2 hk h hC hM hI h18
    obtain ⟨n, rfl⟩ : ∃ j, n = j + 1 := ⟨n - 1, by omega⟩
    obtain ⟨n2, rfl⟩ : ∃ j, n2 = j + 2 := ⟨n2 - 2, by omega⟩
    by_cases hK0 : tkK v p = 0
    · exact loop_end hv h hC hM hI h18 hk hK0
    · obtain ⟨hT, hpL, h2, h6, h17, hMT⟩ := id h
      have hpe := tkE_gt hK0
      have hel := tkE_le hpL
      have hkind := kind_le v p
      have hsl := tkS_le hpL
      have h200 := hv.1
      have hR6 := hI.1.1
      have hA8 := hI.1.2.1
      obtain ⟨f, e1, f1, f6, f2, f4, f3, f5⟩ := c_next (σ := σ) hv (f := σ 33) hT.1 h2 hpL
      rw [sA_self] at e1
      have hk200 : ¬ (200 : Int32) ≤ nI k := nI_ge (b := 200) (by omega) (by decide)
      have h33 : ¬ (sA σ 33 f) 33 3 = 0 := fun z => hK0 ((nI_eq (b := 0) (by omega) (by decide)).mp (f3.symm.trans z))
      have h154 : ¬ μ 0 15 = 4 := by
        rw [hMT.2.2.1]
        intro z
        have z : nI (srt (tkK v p)) = nI 4 := z
        unfold srt at z
        rw [if_neg hK0] at z
        by_cases q4 : tkK v p = 4
        · rw [if_pos q4] at z
          exact absurd z (by decide)
        · rw [if_neg q4] at z
          exact q4 ((nI_eq (by omega) (by decide)).mp z)
      have h34 : ¬ (sA σ 33 f) 33 4 = -1 := fun z => m1_ne (n := tkS v p) (by omega) (f4.symm.trans z)
      have bad : ∀ c : Int32, ((if (sA σ 33 f) 33 3 = 1 then some ((sA σ 33 f) 33 5) else some 0) : Option Int32) = some c → itemC (sA σ 33 f) c = some (s1 (sA σ 33 f) 33 6 ((sA σ 33 f) 33 4)) → pX11_read_L91 (n2 + 2) μ = some (s1 μ 0 17 1) → LR v σ μ (pX7_readInto_L18 (n + 1) (nI k) (nI k) σ) (pX11_read_L91 (n2 + 2) μ) := by
        intro c hc hi hm2
        have e36 : (s1 (sA σ 33 f) 33 6 ((sA σ 33 f) 33 4)) 33 6 = nI (tkS v p) := f4
        refine ⟨s1 (sA σ 33 f) 33 6 ((sA σ 33 f) 33 4), s1 μ 0 17 1, hm2, ?_, AM_1 (by unfold dM; omega), Or.inr ⟨tkS v p, ?_, by omega, rfl, hMT.2.1⟩⟩
        · rw [s33]
          exact AC_33 f1
        · rw [c_loop hk200 e1 h33 hc hi, e36, if_neg (m1_ne (by omega))]
      have good : ∀ (c : Int32) (C : Option Sg), tkK v p = 1 → μ 0 16 = c → pX11_may μ c = some 1 → (∀ w, C = some w → itemC (sA σ 33 f) c = some w) → (∀ g, TS v (sA σ 33 f) (sA μ 0 g) (tkE v p) true → DC (sA σ 33 f) d → DM (sA μ 0 g) d → Res v (sA σ 33 f) (sA μ 0 g) (tkE v p) C (pX11_item (sA μ 0 g) c)) → LR v σ μ (pX7_readInto_L18 (n + 1) (nI k) (nI k) σ) (pX11_read_L91 (n2 + 2) μ) := by
        intro c C hK hc hmay hCi hres
        obtain ⟨g, gs1, gs2, gs3⟩ := go_on hv hT hel hMT.1
        have g17 : (sA μ 0 g) 0 17 = 0 := (gs3 17 (by decide)).trans h17
        have g18 : (sA μ 0 g) 0 18 = nI k := (gs3 18 (by decide)).trans h18
        have t2 : TS v (sA σ 33 f) (sA μ 0 g) (tkE v p) true := ⟨⟨⟨f1.trans hT.1.1, hT.1.2⟩, ⟨(gs3 1 (by decide)).trans hT.2.1, hT.2.2⟩⟩, hel, f2, f6.trans h6, g17, gs2⟩
        obtain ⟨σ', μ1, μ2, p', ok', d', r1, r2, r3, r4, r5, r6, r7, r8⟩ := hres g t2 (DC_33 hC) (DM_0 hM)
        have h151 : μ 0 15 = 1 := by
          rw [hMT.2.2.1, hK]; rfl
        have hc5 : ((if (sA σ 33 f) 33 3 = 1 then some ((sA σ 33 f) 33 5) else some 0) : Option Int32) = some c := by
          refine (if_pos (show (sA σ 33 f) 33 3 = 1 from f3.trans (by rw [hK]; rfl))).trans (congrArg some ?_)
          rw [← hc, hMT.2.2.2 (Or.inl hK)]
          exact f5 (Or.inl hK)
        have em : pX11_read_L91 (n2 + 2) μ = pX11_read_L91 (n2 + 1) (s1 μ2 0 18 (μ2 0 18 + 1)) := m_loop_yes h151 h17 (by rw [hc]; exact hmay) ((due_yes h17).trans gs1) g17 (by rw [hc]; exact r2) r3
        have e18 : μ2 0 18 + 1 = nI (k + 1) := by rw [r7, g18, nI_1]
        have hac : AC σ σ' := AC_t (AC_33 f1) r5
        have ham : AM μ (s1 μ2 0 18 (nI (k + 1))) := AM_t (AM_0 (fun i hi => gs3 i (by omega))) (AM_t r6 (AM_1 (by unfold dM; omega)))
        rw [em, e18, c_loop hk200 e1 h33 hc5 (hCi σ' r1)]
        cases ok'
        · obtain ⟨tX, tp, t6, t17, t14⟩ := r4
          rw [m_stop17 (show (s1 μ2 0 18 (nI (k + 1))) 0 17 = 1 from t17), t6, if_neg (m1_ne (by omega))]
          exact ⟨σ', s1 μ2 0 18 (nI (k + 1)), rfl, hac, ham, Or.inr ⟨p', rfl, by omega, t17, t14⟩⟩
        · obtain ⟨hp', hC', hM', hI'⟩ := r8 rfl
          rw [if_pos r4.2.2.2.1, nI_1]
          refine LR_t hac ham (ih p' (k + 1) n (n2 + 1) σ' (s1 μ2 0 18 (nI (k + 1))) d' (by omega) (by omega) (by omega) (by omega) (TS_18 r4) hC' ?_ hI' rfl)
          rw [s1_sA]
          exact DM_0 hM'
      have no1 : ∀ c : Int32, tkK v p = 1 → μ 0 16 = c → pX11_may μ c = some 0 → itemC (sA σ 33 f) c = some (s1 (sA σ 33 f) 33 6 ((sA σ 33 f) 33 4)) → LR v σ μ (pX7_readInto_L18 (n + 1) (nI k) (nI k) σ) (pX11_read_L91 (n2 + 2) μ) := by
        intro c hK hc hmay hi
        refine bad c ?_ hi (m_loop_no h154 h17 (Or.inr ⟨?_, by rw [hc]; exact hmay⟩))
        · refine (if_pos (show (sA σ 33 f) 33 3 = 1 from f3.trans (by rw [hK]; rfl))).trans (congrArg some ?_)
          rw [← hc, hMT.2.2.2 (Or.inl hK)]
          exact f5 (Or.inl hK)
        · rw [hMT.2.2.1, hK]; rfl
      by_cases hK : tkK v p = 1
      · have hl := let_lt hv hK
        have h16 : μ 0 16 = nI (tkV v p) := hMT.2.2.2 (Or.inl hK)
        have hC1 : DC (sA σ 33 f) d := DC_33 hC
        by_cases c1 : tkV v p = 97
        · have h16 : μ 0 16 = 97 := by rw [h16, c1]; rfl
          by_cases q8 : d 0 1 < 8
          · exact good 97 _ hK h16 (by rw [may_97 hM hA8, if_neg (by omega)]) (fun w hw => item_97 hw) (fun g t c m => anchor_sim hv t c m hI q8)
          · refine no1 97 hK h16 (by rw [may_97 hM hA8, if_pos (by omega)]) (item_97 (anchor_full ?_ h34))
            rw [hC1.2.1]
            exact nI_nlt (b := 8) (by omega) (by omega)
        · by_cases c2 : tkV v p = 99
          · have h16 : μ 0 16 = 99 := by rw [h16, c2]; rfl
            exact good 99 _ hK h16 may_99 (fun w hw => item_99 hw) (fun g t c m => cell_sim hv t c m hI)
          · by_cases c3 : tkV v p = 114
            · have h16 : μ 0 16 = 114 := by rw [h16, c3]; rfl
              by_cases q6 : d 0 0 < 6
              · exact good 114 _ hK h16 (by rw [may_114 hM hR6, if_neg (by omega)]) (fun w hw => item_114 hw) (fun g t c m => raft_sim hv t c m hI q6)
              · refine no1 114 hK h16 (by rw [may_114 hM hR6, if_pos (by omega)]) (item_114 (raft_full ?_ h34))
                rw [hC1.1]
                exact nI_nlt (b := 6) (by omega) (by omega)
            · by_cases c4 : tkV v p = 116
              · have h16 : μ 0 16 = 116 := by rw [h16, c4]; rfl
                exact good 116 _ hK h16 may_116 (fun w hw => item_116 hw) (fun g t c m => rope_sim hv t c m hI)
              · have n1 : ¬ nI (tkV v p) = 97 := fun z => c1 ((nI_eq (b := 97) (by omega) (by decide)).mp z)
                have n2' : ¬ nI (tkV v p) = 99 := fun z => c2 ((nI_eq (b := 99) (by omega) (by decide)).mp z)
                have n3 : ¬ nI (tkV v p) = 114 := fun z => c3 ((nI_eq (b := 114) (by omega) (by decide)).mp z)
                have n4 : ¬ nI (tkV v p) = 116 := fun z => c4 ((nI_eq (b := 116) (by omega) (by decide)).mp z)
                exact no1 (nI (tkV v p)) hK h16 (may_no n1 n2' n3 n4) (item_no n1 n2' n3 n4)
      · refine bad 0 ?_ (item_no (by decide) (by decide) (by decide) (by decide)) (m_loop_no h154 h17 (Or.inl ?_))
        · exact if_neg (fun z => hK ((nI_eq (b := 1) (by omega) (by decide)).mp (f3.symm.trans z)))
        · rw [hMT.2.2.1]
          exact fun z => hK ((srt_I (k := 1) hkind (by decide)).mp z)
end G
