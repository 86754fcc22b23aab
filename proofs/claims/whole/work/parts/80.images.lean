/-! hauls, keep, back -/
section G
variable {σ μ : Sg} {v : Vw}
def wlthV (v : Vw) (r a : Nat) : Nat := if 9999 < v 7 (38 + r) + leftV v a then 9999 else v 7 (38 + r) + leftV v a
def hauW (v : Vw) (r a : Nat) : Vw := vs (vs (memV v) 7 (updN (v 7) (24 + a) 1)) 7 (updN (updN (v 7) (24 + a) 1) (38 + r) (wlthV v r a))
theorem c_may (hR : RcN σ v) (hI : InvN v) {r a : Nat} (hr : r < 6) (ha : a < v 0 1) : pX2_mayHaul σ (nI r) (nI a) = some (if hauV v r a then 1 else 0) := by
  have h8 := hI.2.1
  have q := (hI.2.2.2.2.2.1 a (by omega)).1
  have w1 := whoI_eq (o := whoV v a) (r := r) (by omega) (who_31 hI ha)
  unfold pX2_mayHaul hauV
  rw [c_liesV hR hI (by omega)]
  cases hl : liesV v a
  · rfl
  · rw [if_neg (by decide), c_who hR hI ha, Option.bind_some]
    by_cases e1 : whoV v a = some r
    · rw [if_pos (w1.mpr e1), c_get hR (k := 0) (K := 0) rfl (by omega), Nat.zero_add, c_lyingIn hR hI (by omega), Option.bind_some, decide_eq_true e1]
      exact c_hau hR hI hr (v 0 1) 0 2000 (by omega) (by omega)
    · rw [if_neg (fun z => e1 (w1.mp z)), decide_eq_false e1]
      rfl
theorem hau_inv (hI : Inv v) {r a : Nat} (hr : r < 6) (ha : a < v 0 1) : Inv (hauW v r a) := by
  have hN := hI.1
  have h8 := hN.2.1
  refine Inv_row (Inv_row (mem_inv hI) (row_set hN.2.2.2.2.2 (by omega) (by omega) (by omega) (fun _ _ => by omega) (by omega) (by omega) (by omega))) (row_set (row_set hN.2.2.2.2.2 (by omega) (by omega) (by omega) (fun _ _ => by omega) (by omega) (by omega) (by omega)) (by omega) (by omega) (by omega) (by omega) (by omega) (fun _ _ => ?_) (by omega))
  unfold wlthV
  split <;> omega
theorem m_tail (hR : Rm μ v) (hI : Inv v) {r a : Nat} (hr : r < 6) (ha : a < v 0 1) : ∃ μ', ((pX11_know μ).bind fun u23 => (wrA u23 13 45 (24 + nI a) 1).bind fun σ25 => (rdA σ25 13 45 (39 + nI r)).bind fun v27 => (pX11_leftOf σ25 (nI a)).bind fun v29 => (some (v27 + v29)).bind fun v31 => (if v31 ≤ 9999 then (wrA σ25 13 45 (39 + nI r) v31).bind fun σ33 => (rdA σ33 13 45 (39 + nI r)).bind fun v35 => some (v35, σ33) else (wrA σ25 13 45 (39 + nI r) 9999).bind fun σ37 => (rdA σ37 13 45 (39 + nI r)).bind fun v39 => some (v39, σ37))) = some (nI (wlthV v r a), μ') ∧ Rm μ' (hauW v r a) := by
  have hN := hI.1
  have h8 := hN.2.1
  obtain ⟨μ1, t1, t2⟩ := m_mem hR hI
  obtain ⟨g, t3, t4⟩ := m_set t2 (K := 24) (a := a) (k := 24 + a) (x := 1) (Ki := 24) rfl (by omega) (by rw [mq_lo (by omega)])
  have hI4 : InvN (vs (memV v) 7 (updN (memV v 7) (24 + a) 1)) := InvN_row (mem_inv hI).1 (row_set hN.2.2.2.2.2 (by omega) (by omega) (by omega) (fun _ _ => by omega) (by omega) (by omega) (by omega))
  have q1 := (hN.2.2.2.2.2.2.1 r hr).2.2
  have q2 := (hN.2.2.2.1 a ha).2.2
  have q3 : leftV v a ≤ 99 := by unfold leftV; omega
  obtain ⟨g2, t5, t6⟩ := m_set t4 (K := 39) (a := r) (k := 38 + r) (x := wlthV v r a) (Ki := 39) rfl (by omega) (by rw [mq_mid (by omega) (by omega)]; omega)
  refine ⟨_, ?_, t6⟩
  have e1 : rdA (sA μ1 13 g) 13 45 (39 + nI r) = some (nI (v 7 (38 + r))) := by
    rw [m_wlt t4.1 hr]
    show some (nI (updN (v 7) (24 + a) 1 (38 + r))) = _
    rw [updN_n (by omega)]
  have e2 : pX11_leftOf (sA μ1 13 g) (nI a) = some (nI (leftV v a)) := by
    rw [m_left t4.1 hI4 ha]
    show some (nI (v 5 a - updN (v 7) (24 + a) 1 (16 + a))) = _
    rw [updN_n (by omega)]
    rfl
  have e3 : rdA (sA (sA μ1 13 g) 13 g2) 13 45 (39 + nI r) = some (nI (wlthV v r a)) := by
    rw [m_wlt t6.1 hr]
    show some (nI (updN (updN (v 7) (24 + a) 1) (38 + r) (wlthV v r a) (38 + r))) = _
    rw [updN_s]
  refine (bnd t1).trans ((bnd t3).trans ((bnd e1).trans ((bnd e2).trans ((bnd rfl).trans ?_))))
  rw [nI_add]
  by_cases w : 9999 < v 7 (38 + r) + leftV v a
  · have ew : wlthV v r a = 9999 := by unfold wlthV; rw [if_pos w]
    rw [if_neg (show ¬ nI (v 7 (38 + r) + leftV v a) ≤ 9999 from nI_ge (a := 9999) w (by omega)), show (9999 : Int32) = nI (wlthV v r a) by rw [ew]; rfl]
    exact (bnd t5).trans (bnd e3)
  · have ew : wlthV v r a = v 7 (38 + r) + leftV v a := by unfold wlthV; rw [if_neg w]
    rw [if_pos (show nI (v 7 (38 + r) + leftV v a) ≤ 9999 from nI_le (b := 9999) (by omega) (by decide)), ← ew]
    exact (bnd t5).trans (bnd e3)
theorem eq_hauls : EQ_hauls := by
  intro v σ μ a1 a2 hI hRc hRm
  have hN := hI.1
  have hc := hRc.1
  have hm := hRm.1
  have h6 := hN.1
  have h8 := hN.2.1
  unfold pX10_hauls
  rw [c_noRaft hc, c_noAnchor hc]
  rcases out_lt a1 (n := v 0 0) (by omega) with ⟨h1, r, rfl, hr⟩ | ⟨h1, -⟩
  · have hr6 : r < 6 := by omega
    rcases out_lt a2 (n := v 0 1) (by omega) with ⟨h2, a, rfl, ha⟩ | ⟨h2, -⟩
    · have w1 := whoI_eq (o := whoV v a) (r := r) (by omega) (who_31 hN ha)
      obtain ⟨μ', t1, t2⟩ := m_tail hRm hI hr6 ha
      have hm0 := m_hau hm hN hr6 ha (v 0 1) 0 2000 false (by omega) (by omega)
      have hm1 := m_hau hm hN hr6 ha (v 0 1) 0 2000 true (by omega) (by omega)
      rw [if_neg (by decide), nI_0] at hm0
      rw [if_pos rfl, nI_0] at hm1
      have em : pX11_hauls μ (nI r) (nI a) = if hauV v r a then some (nI (wlthV v r a), μ') else some (-2, μ) := by
        unfold pX11_hauls hauV
        refine (bnd (m_isRaft hm _)).trans ?_
        rw [h1, if_neg (by decide)]
        refine (bnd (m_isAnchor hm _)).trans ?_
        rw [h2, if_neg (by decide)]
        refine (bnd (m_lies hm hN (by omega))).trans ?_
        cases hl : liesV v a
        · rw [if_pos (by decide)]
          refine (bnd hm0).trans ?_
          rw [if_pos (show (if (false && hauA v r a (v 0 1) 0) = true then (1 : Int32) else 0) = 0 from rfl)]; rfl
        · rw [if_neg (by decide)]
          refine (bnd (m_who hm hN ha)).trans ?_
          by_cases e1 : whoV v a = some r
          · rw [if_pos (w1.mpr e1), decide_eq_true e1]
            refine (bnd hm1).trans ?_
            cases hh : hauA v r a (v 0 1) 0
            · rw [if_pos (by decide)]; rfl
            · rw [if_neg (by decide)]
              exact t1
          · rw [if_neg (fun z => e1 (w1.mp z)), decide_eq_false e1]
            refine (bnd hm0).trans ?_
            rw [if_pos (show (if (false && hauA v r a (v 0 1) 0) = true then (1 : Int32) else 0) = 0 from rfl)]; rfl
      rw [em, h1, if_pos rfl, h2, if_pos rfl, c_may hc hN hr6 ha, Option.bind_some]
      cases hh : hauV v r a
      · exact same hI hRc hRm (o := -2) rfl rfl
      · obtain ⟨σ1, s1, s2⟩ := c_mem hRc hI
        obtain ⟨g, s3, s4⟩ := c_set s2 (K := 24) (a := a) (k := 24 + a) (x := 1) (Ki := 24) rfl rfl (by omega)
        obtain ⟨g2, s5, s6⟩ := c_set s4 (K := 38) (a := r) (k := 38 + r) (x := wlthV v r a) (Ki := 38) rfl rfl (by omega)
        refine diff (o := nI (wlthV v r a)) (σ' := _) (μ' := μ') ?_ rfl (hau_inv hI hr6 ha) s6 t2
        have q1 := (hN.2.2.2.2.2.2.1 r hr6).2.2
        have q2 := (hN.2.2.2.1 a ha).2.2
        have q3 : leftV v a ≤ 99 := by unfold leftV; omega
        have e1 : pX5_get 20 σ1 38 (nI r) = nI (v 7 (38 + r)) := by
          have := c_get s2.1 (k := 38) (K := 38) (a := r) rfl (by omega)
          exact this
        have e2 : pX2_valueOf σ1 (nI a) = nI (leftV v a) := by
          have := c_left s2.1 (mem_inv hI).1 ha
          exact this
        rw [if_neg (by decide), s1, Option.bind_some, e1, e2, nI_add, show (if (9999 : Int32) < nI (v 7 (38 + r) + leftV v a) then (9999 : Int32) else nI (v 7 (38 + r) + leftV v a)) = nI (wlthV v r a) by
          unfold wlthV
          by_cases w : 9999 < v 7 (38 + r) + leftV v a
          · rw [if_pos (show (9999 : Int32) < _ from nI_lt (a := 9999) w (by omega)), if_pos w]; rfl
          · rw [if_neg (show ¬ (9999 : Int32) < _ from nI_nlt (a := 9999) (by omega) (by decide)), if_neg w], Option.bind_some]
        exact (bnd s3).trans ((bnd s5).trans rfl)
    · refine same hI hRc hRm (o := -1) ?_ ?_
      · rw [h1, if_pos rfl, h2, if_neg (by decide)]
      · unfold pX11_hauls
        refine (bnd (m_isRaft hm _)).trans ?_
        rw [h1, if_neg (by decide)]
        refine (bnd (m_isAnchor hm _)).trans ?_
        rw [h2]; rfl
  · refine same hI hRc hRm (o := -1) ?_ ?_
    · rw [h1, if_neg (by decide)]
    · unfold pX11_hauls
      refine (bnd (m_isRaft hm _)).trans ?_
      rw [h1]; rfl
theorem copy45 (f g : Nat → Int32) : pX10_copy f 45 0 g 45 0 45 = va_cpy f g 0 0 45 := by
  rw [show (0 : Int32) = nI 0 from rfl, show (45 : Int32) = nI 45 from rfl, copy_nI (by omega) (by omega) (by decide) (by decide)]
theorem copy450 (f g : Nat → Int32) : pX10_copy f 450 0 g 450 0 450 = va_cpy f g 0 0 450 := by
  rw [show (0 : Int32) = nI 0 from rfl, show (450 : Int32) = nI 450 from rfl, copy_nI (by omega) (by omega) (by decide) (by decide)]
theorem k_13 {m : Nat} (hm : m ≤ 1) : pX11_keep_L13 (nI m) 2000 0 μ = some (sA μ 16 (va_cpy (μ 13) (μ 16) 0 (45 * m) 45)) := by
  have key := loop_up (fun k (s : Int32 × Sg) => pX11_keep_L13 (nI m) k s.1 s.2) (fun i => (nI i, sA μ 16 (va_cpy (μ 13) (μ 16) 0 (45 * m) i))) 45 (some (sA μ 16 (va_cpy (μ 13) (μ 16) 0 (45 * m) 45)))
    (by
      intro k i hi
      show pX11_keep_L13 (nI m) (k + 1) (nI i) (sA μ 16 _) = pX11_keep_L13 (nI m) k (nI (i + 1)) (sA μ 16 _)
      have e2 : rdA (sA μ 16 (va_cpy (μ 13) (μ 16) 0 (45 * m) i)) 13 45 (nI i) = some (μ 13 i) := rd_nI (by omega) (by decide)
      rw [pX11_keep_L13, if_neg (show ¬ (45 : Int32) ≤ nI i from nI_ge (b := 45) hi (by decide)), e2, Option.bind_some, show (45 : Int32) * nI m = nI (45 * m) from pk_mul 45 m, nI_add, wr_nI (by omega) (by decide), Option.bind_some, nI_1]
      have := cpy_s (σ := μ) (c := 16) (a := 0) (b := 45 * m) (i := i) (f := μ 13) (g := μ 16)
      rw [Nat.zero_add] at this
      rw [this])
    (by
      intro k
      show pX11_keep_L13 (nI m) (k + 1) (nI 45) (sA μ 16 _) = _
      rw [pX11_keep_L13, if_pos (show (45 : Int32) ≤ nI 45 from nI_le (Nat.le_refl 45) (by decide))]) 45 0 2000 (by omega) (by omega)
  have key : pX11_keep_L13 (nI m) 2000 (nI 0) (sA μ 16 (va_cpy (μ 13) (μ 16) 0 (45 * m) 0)) = _ := key
  rw [cpy_0, nI_0] at key
  exact key
theorem k_44 {m : Nat} (hm : m ≤ 1) : pX11_keep_L44 (nI m) 2000 0 μ = some (sA μ 15 (va_cpy (μ 15) (μ 15) 0 (450 * (1 + m)) 450)) := by
  have key := loop_up (fun k (s : Int32 × Sg) => pX11_keep_L44 (nI m) k s.1 s.2) (fun i => (nI i, sA μ 15 (va_cpy (μ 15) (μ 15) 0 (450 * (1 + m)) i))) 450 (some (sA μ 15 (va_cpy (μ 15) (μ 15) 0 (450 * (1 + m)) 450)))
    (by
      intro k i hi
      show pX11_keep_L44 (nI m) (k + 1) (nI i) (sA μ 15 _) = pX11_keep_L44 (nI m) k (nI (i + 1)) (sA μ 15 _)
      rw [pX11_keep_L44, if_neg (show ¬ (450 : Int32) ≤ nI i from nI_ge (b := 450) hi (by decide)), rd_nI (by omega) (by decide), Option.bind_some, sA_eq, pk_cpy_out (by omega), show (1 : Int32) + nI m = nI (1 + m) from nI_add 1 m, show (450 : Int32) * nI (1 + m) = nI (450 * (1 + m)) from pk_mul 450 (1 + m), nI_add, wr_nI (by omega) (by decide), Option.bind_some, nI_1]
      have := cpy_s (σ := μ) (c := 15) (a := 0) (b := 450 * (1 + m)) (i := i) (f := μ 15) (g := μ 15)
      rw [Nat.zero_add] at this
      rw [this])
    (by
      intro k
      show pX11_keep_L44 (nI m) (k + 1) (nI 450) (sA μ 15 _) = _
      rw [pX11_keep_L44, if_pos (show (450 : Int32) ≤ nI 450 from nI_le (Nat.le_refl 450) (by decide))]) 450 0 2000 (by omega) (by omega)
  have key : pX11_keep_L44 (nI m) 2000 (nI 0) (sA μ 15 (va_cpy (μ 15) (μ 15) 0 (450 * (1 + m)) 0)) = _ := key
  rw [cpy_0, nI_0] at key
  exact key
theorem k_25 {m : Nat} (hm : m ≤ 1) : pX11_back_L25 (nI m) 2000 0 μ = some (sA μ 13 (va_cpy (μ 16) (μ 13) (45 * m) 0 45)) := by
  have key := loop_up (fun k (s : Int32 × Sg) => pX11_back_L25 (nI m) k s.1 s.2) (fun i => (nI i, sA μ 13 (va_cpy (μ 16) (μ 13) (45 * m) 0 i))) 45 (some (sA μ 13 (va_cpy (μ 16) (μ 13) (45 * m) 0 45)))
    (by
      intro k i hi
      show pX11_back_L25 (nI m) (k + 1) (nI i) (sA μ 13 _) = pX11_back_L25 (nI m) k (nI (i + 1)) (sA μ 13 _)
      have e2 : rdA (sA μ 13 (va_cpy (μ 16) (μ 13) (45 * m) 0 i)) 16 90 (nI (45 * m + i)) = some (μ 16 (45 * m + i)) := rd_nI (by omega) (by decide)
      rw [pX11_back_L25, if_neg (show ¬ (45 : Int32) ≤ nI i from nI_ge (b := 45) hi (by decide)), show (45 : Int32) * nI m = nI (45 * m) from pk_mul 45 m, nI_add, e2, Option.bind_some, wr_nI (by omega) (by decide), Option.bind_some, nI_1]
      have := cpy_s (σ := μ) (c := 13) (a := 45 * m) (b := 0) (i := i) (f := μ 16) (g := μ 13)
      rw [Nat.zero_add] at this
      rw [this])
    (by
      intro k
      show pX11_back_L25 (nI m) (k + 1) (nI 45) (sA μ 13 _) = _
      rw [pX11_back_L25, if_pos (show (45 : Int32) ≤ nI 45 from nI_le (Nat.le_refl 45) (by decide))]) 45 0 2000 (by omega) (by omega)
  have key : pX11_back_L25 (nI m) 2000 (nI 0) (sA μ 13 (va_cpy (μ 16) (μ 13) (45 * m) 0 0)) = _ := key
  rw [cpy_0, nI_0] at key
  exact key
theorem k_56 {m : Nat} (hm : m ≤ 1) : pX11_back_L56 (nI m) 2000 0 μ = some (sA μ 15 (va_cpy (μ 15) (μ 15) (450 * (1 + m)) 0 450)) := by
  have key := loop_up (fun k (s : Int32 × Sg) => pX11_back_L56 (nI m) k s.1 s.2) (fun i => (nI i, sA μ 15 (va_cpy (μ 15) (μ 15) (450 * (1 + m)) 0 i))) 450 (some (sA μ 15 (va_cpy (μ 15) (μ 15) (450 * (1 + m)) 0 450)))
    (by
      intro k i hi
      show pX11_back_L56 (nI m) (k + 1) (nI i) (sA μ 15 _) = pX11_back_L56 (nI m) k (nI (i + 1)) (sA μ 15 _)
      rw [pX11_back_L56, if_neg (show ¬ (450 : Int32) ≤ nI i from nI_ge (b := 450) hi (by decide)), show (1 : Int32) + nI m = nI (1 + m) from nI_add 1 m, show (450 : Int32) * nI (1 + m) = nI (450 * (1 + m)) from pk_mul 450 (1 + m), nI_add, rd_nI (by omega) (by decide), Option.bind_some, sA_eq, pk_cpy_out (by omega), wr_nI (by omega) (by decide), Option.bind_some, nI_1]
      have := cpy_s (σ := μ) (c := 15) (a := 450 * (1 + m)) (b := 0) (i := i) (f := μ 15) (g := μ 15)
      rw [Nat.zero_add] at this
      rw [this])
    (by
      intro k
      show pX11_back_L56 (nI m) (k + 1) (nI 450) (sA μ 15 _) = _
      rw [pX11_back_L56, if_pos (show (450 : Int32) ≤ nI 450 from nI_le (Nat.le_refl 450) (by decide))]) 450 0 2000 (by omega) (by omega)
  have key : pX11_back_L56 (nI m) 2000 (nI 0) (sA μ 15 (va_cpy (μ 15) (μ 15) (450 * (1 + m)) 0 0)) = _ := key
  rw [cpy_0, nI_0] at key
  exact key
theorem keep_0 (hI : Inv v) (hRc : Rc σ v) (hRm : Rm μ v) : ∃ (o : Int32 × Sg) (o2 : Int32 × Sg) (v' : Vw), pX10_keep σ (nI 0) = some o ∧ pX11_keep μ (nI 0) = some o2 ∧ o.1 = o2.1 ∧ Inv v' ∧ Rc o.2 v' ∧ Rm o2.2 v' := by
  obtain ⟨c1, ⟨p1, p2⟩, ⟨c31, c32, c33, c34⟩, c4, c5⟩ := id hRc
  obtain ⟨m1, ⟨q1, q2⟩, ⟨m31, m32, m33, m34⟩, m4, m5⟩ := id hRm
  obtain ⟨j1, ⟨k1, k2⟩, j3, j4, j5, j6, j7⟩ := id hI
  have hr := c1.2.2.2.2.2.2.2.2.2
  have hq := m1.2.2.2.2.2.2.2.2
  refine diff (o := nI (thoseV v 0)) (v' := vs (vs (vs v 9 (v 7)) 11 (v 8)) 0 (updN (updN (v 0) 8 (v 0 4)) 6 1)) (σ' := s1 (s1 (sA (sA σ 25 (va_cpy (σ 20) (σ 25) 0 0 45)) 27 (va_cpy (σ 22) (σ 27) 0 0 450)) 26 1 (nI (v 0 4))) 23 2 1) (μ' := s1 (s1 (sA (sA μ 16 (va_cpy (μ 13) (μ 16) 0 (45 * 0) 45)) 15 (va_cpy (μ 15) (μ 15) 0 (450 * (1 + 0)) 450)) 14 (1 + 0) (nI (v 0 4))) 17 0 1) ?_ ?_ ?_ ?_ ?_
  · unfold pX10_keep
    rw [if_pos (show pX10_isOutside (nI 0) 0 1 = 0 by decide), if_pos (show nI 0 = (0 : Int32) from rfl)]
    have e1 : pX3_keeps_23 20 σ = some (s1 (s1 (sA (sA σ 25 (va_cpy (σ 20) (σ 25) 0 0 45)) 27 (va_cpy (σ 22) (σ 27) 0 0 450)) 26 1 (σ 21 1)) 23 2 1) := by
      unfold pX3_keeps_23 pX5_becomes pX6_becomes_26_21
      simp only [Option.bind_some, copy45, copy450]
      rfl
    rw [p1] at e1
    have hc2 : RcN (s1 (s1 (sA (sA σ 25 (va_cpy (σ 20) (σ 25) 0 0 45)) 27 (va_cpy (σ 22) (σ 27) 0 0 450)) 26 1 (nI (v 0 4))) 23 2 1) v := c1
    have e2 := c_those hc2 j1 (h := 0) (by omega)
    exact (bnd e1).trans ((bnd e2).trans rfl)
  · unfold pX11_keep
    rw [if_neg (show ¬ pX11_in (nI 0) 0 1 = 0 by decide)]
    refine (bnd (k_13 (m := 0) (by omega))).trans ((bnd (k_44 (m := 0) (by omega))).trans ?_)
    have e14 : rdA (sA (sA μ 16 (va_cpy (μ 13) (μ 16) 0 (45 * 0) 45)) 15 (va_cpy (μ 15) (μ 15) 0 (450 * (1 + 0)) 450)) 14 3 0 = some (nI (v 0 4)) := by
      rw [show (0 : Int32) = nI 0 from rfl, rd_nI (by decide) (by decide)]
      exact congrArg some q1
    refine (bnd e14).trans ?_
    have e15 : wrA (sA (sA μ 16 (va_cpy (μ 13) (μ 16) 0 (45 * 0) 45)) 15 (va_cpy (μ 15) (μ 15) 0 (450 * (1 + 0)) 450)) 14 3 (1 + nI 0) (nI (v 0 4)) = some (s1 (sA (sA μ 16 (va_cpy (μ 13) (μ 16) 0 (45 * 0) 45)) 15 (va_cpy (μ 15) (μ 15) 0 (450 * (1 + 0)) 450)) 14 (1 + 0) (nI (v 0 4))) := by
      rw [show (1 : Int32) + nI 0 = nI (1 + 0) from nI_add 1 0, wr_nI (by decide) (by decide)]
    refine (bnd e15).trans ?_
    have e17 : wrA (s1 (sA (sA μ 16 (va_cpy (μ 13) (μ 16) 0 (45 * 0) 45)) 15 (va_cpy (μ 15) (μ 15) 0 (450 * (1 + 0)) 450)) 14 (1 + 0) (nI (v 0 4))) 17 2 (nI 0) (vp_nar .boolean 1) = some (s1 (s1 (sA (sA μ 16 (va_cpy (μ 13) (μ 16) 0 (45 * 0) 45)) 15 (va_cpy (μ 15) (μ 15) 0 (450 * (1 + 0)) 450)) 14 (1 + 0) (nI (v 0 4))) 17 0 1) := by
      rw [wr_nI (by decide) (by decide)]
      rfl
    refine (bnd e17).trans ?_
    have hm2 : RmN (s1 (s1 (sA (sA μ 16 (va_cpy (μ 13) (μ 16) 0 (45 * 0) 45)) 15 (va_cpy (μ 15) (μ 15) 0 (450 * (1 + 0)) 450)) 14 (1 + 0) (nI (v 0 4))) 17 0 1) v := m1
    have e2 := m_those hm2 j1 (h := 0) (by omega)
    exact (bnd e2).trans rfl
  · exact ⟨j1, ⟨k1, k2⟩, Nat.le_refl 1, j4, fun _ => ⟨j1.2.2.2.2.2, k1, k2⟩, j6, j7⟩
  · refine ⟨c1, ⟨p1, p2⟩, ⟨rfl, c32, fun _ => ⟨fun i hi => ?_, rfl, fun i hi => ?_⟩, c34⟩, c4, c5⟩
    · show va_cpy (σ 20) (σ 25) 0 0 45 i = nI (v 7 i)
      rw [pk_cpy_in (by omega) (by omega), Nat.zero_add, Nat.sub_zero, hr i hi]
    · have hi : i < 45 * v 0 4 := hi
      show va_cpy (σ 22) (σ 27) 0 0 450 i = nI (v 8 i)
      rw [pk_cpy_in (by omega) (by omega), Nat.zero_add, Nat.sub_zero, p2 i hi]
  · refine ⟨m1, ⟨q1, fun k hk i hi => ?_⟩, ⟨rfl, m32, fun _ => ⟨fun k hk i hi => ?_, rfl, fun k hk i hi => ?_⟩, fun z => ?_⟩, m4, m5⟩
    · have hk : k < v 0 4 := hk
      have hl := mq_lt hi
      show va_cpy (μ 15) (μ 15) 0 (450 * (1 + 0)) 450 (0 + 45 * k + mq i) = nI (v 8 (45 * k + i))
      rw [pk_cpy_out (by omega), q2 k hk i hi]
    · have hl := mq_lt hi
      have hk : k < 1 := hk
      have hk : k = 0 := by omega
      subst hk
      show va_cpy (μ 13) (μ 16) 0 (45 * 0) 45 (0 + 45 * 0 + mq i) = nI (v 7 (45 * 0 + i))
      rw [pk_cpy_in (by omega) (by omega), show 45 * 0 + i = i by omega, ← hq i hi]
      exact congrArg (μ 13) (by omega)
    · have hl := mq_lt hi
      have hk : k < v 0 4 := hk
      show va_cpy (μ 15) (μ 15) 0 (450 * (1 + 0)) 450 (450 + 45 * k + mq i) = nI (v 8 (45 * k + i))
      rw [pk_cpy_in (by omega) (by omega), ← q2 k hk i hi]
      exact congrArg (μ 15) (by omega)
    · have z : v 0 7 = 1 := z
      obtain ⟨z1, z2, z3⟩ := m34 z
      refine ⟨fun k hk i hi => ?_, z2, fun k hk i hi => ?_⟩
      · have hl := mq_lt hi
        have hk2 : k < 1 := hk
        show va_cpy (μ 13) (μ 16) 0 (45 * 0) 45 (45 + 45 * k + mq i) = nI (v 10 (45 * k + i))
        rw [pk_cpy_out (by omega)]
        exact z1 k hk i hi
      · have hl := mq_lt hi
        have hk2 : k < v 0 9 := hk
        have hk3 : v 0 9 ≤ 10 := (j6 z).2.1
        show va_cpy (μ 15) (μ 15) 0 (450 * (1 + 0)) 450 (900 + 45 * k + mq i) = nI (v 12 (45 * k + i))
        rw [pk_cpy_out (by omega)]
        exact z3 k hk i hi
theorem keep_1 (hI : Inv v) (hRc : Rc σ v) (hRm : Rm μ v) : ∃ (o : Int32 × Sg) (o2 : Int32 × Sg) (v' : Vw), pX10_keep σ (nI 1) = some o ∧ pX11_keep μ (nI 1) = some o2 ∧ o.1 = o2.1 ∧ Inv v' ∧ Rc o.2 v' ∧ Rm o2.2 v' := by
  obtain ⟨c1, ⟨p1, p2⟩, ⟨c31, c32, c33, c34⟩, c4, c5⟩ := id hRc
  obtain ⟨m1, ⟨q1, q2⟩, ⟨m31, m32, m33, m34⟩, m4, m5⟩ := id hRm
  obtain ⟨j1, ⟨k1, k2⟩, j3, j4, j5, j6, j7⟩ := id hI
  have hr := c1.2.2.2.2.2.2.2.2.2
  have hq := m1.2.2.2.2.2.2.2.2
  refine diff (o := nI (thoseV v 0)) (v' := vs (vs (vs v 10 (v 7)) 12 (v 8)) 0 (updN (updN (v 0) 9 (v 0 4)) 7 1)) (σ' := s1 (s1 (sA (sA σ 30 (va_cpy (σ 20) (σ 30) 0 0 45)) 32 (va_cpy (σ 22) (σ 32) 0 0 450)) 31 1 (nI (v 0 4))) 28 2 1) (μ' := s1 (s1 (sA (sA μ 16 (va_cpy (μ 13) (μ 16) 0 (45 * 1) 45)) 15 (va_cpy (μ 15) (μ 15) 0 (450 * (1 + 1)) 450)) 14 (1 + 1) (nI (v 0 4))) 17 1 1) ?_ ?_ ?_ ?_ ?_
  · unfold pX10_keep
    rw [if_pos (show pX10_isOutside (nI 1) 0 1 = 0 by decide), if_neg (show ¬ nI 1 = (0 : Int32) by decide)]
    have e1 : pX3_keeps_28 20 σ = some (s1 (s1 (sA (sA σ 30 (va_cpy (σ 20) (σ 30) 0 0 45)) 32 (va_cpy (σ 22) (σ 32) 0 0 450)) 31 1 (σ 21 1)) 28 2 1) := by
      unfold pX3_keeps_28 pX5_becomes pX6_becomes_31_21
      simp only [Option.bind_some, copy45, copy450]
      rfl
    rw [p1] at e1
    have hc2 : RcN (s1 (s1 (sA (sA σ 30 (va_cpy (σ 20) (σ 30) 0 0 45)) 32 (va_cpy (σ 22) (σ 32) 0 0 450)) 31 1 (nI (v 0 4))) 28 2 1) v := c1
    have e2 := c_those hc2 j1 (h := 0) (by omega)
    exact (bnd e1).trans ((bnd e2).trans rfl)
  · unfold pX11_keep
    rw [if_neg (show ¬ pX11_in (nI 1) 0 1 = 0 by decide)]
    refine (bnd (k_13 (m := 1) (by omega))).trans ((bnd (k_44 (m := 1) (by omega))).trans ?_)
    have e14 : rdA (sA (sA μ 16 (va_cpy (μ 13) (μ 16) 0 (45 * 1) 45)) 15 (va_cpy (μ 15) (μ 15) 0 (450 * (1 + 1)) 450)) 14 3 0 = some (nI (v 0 4)) := by
      rw [show (0 : Int32) = nI 0 from rfl, rd_nI (by decide) (by decide)]
      exact congrArg some q1
    refine (bnd e14).trans ?_
    have e15 : wrA (sA (sA μ 16 (va_cpy (μ 13) (μ 16) 0 (45 * 1) 45)) 15 (va_cpy (μ 15) (μ 15) 0 (450 * (1 + 1)) 450)) 14 3 (1 + nI 1) (nI (v 0 4)) = some (s1 (sA (sA μ 16 (va_cpy (μ 13) (μ 16) 0 (45 * 1) 45)) 15 (va_cpy (μ 15) (μ 15) 0 (450 * (1 + 1)) 450)) 14 (1 + 1) (nI (v 0 4))) := by
      rw [show (1 : Int32) + nI 1 = nI (1 + 1) from nI_add 1 1, wr_nI (by decide) (by decide)]
    refine (bnd e15).trans ?_
    have e17 : wrA (s1 (sA (sA μ 16 (va_cpy (μ 13) (μ 16) 0 (45 * 1) 45)) 15 (va_cpy (μ 15) (μ 15) 0 (450 * (1 + 1)) 450)) 14 (1 + 1) (nI (v 0 4))) 17 2 (nI 1) (vp_nar .boolean 1) = some (s1 (s1 (sA (sA μ 16 (va_cpy (μ 13) (μ 16) 0 (45 * 1) 45)) 15 (va_cpy (μ 15) (μ 15) 0 (450 * (1 + 1)) 450)) 14 (1 + 1) (nI (v 0 4))) 17 1 1) := by
      rw [wr_nI (by decide) (by decide)]
      rfl
    refine (bnd e17).trans ?_
    have hm2 : RmN (s1 (s1 (sA (sA μ 16 (va_cpy (μ 13) (μ 16) 0 (45 * 1) 45)) 15 (va_cpy (μ 15) (μ 15) 0 (450 * (1 + 1)) 450)) 14 (1 + 1) (nI (v 0 4))) 17 1 1) v := m1
    have e2 := m_those hm2 j1 (h := 0) (by omega)
    exact (bnd e2).trans rfl
  · exact ⟨j1, ⟨k1, k2⟩, j3, Nat.le_refl 1, j5, fun _ => ⟨j1.2.2.2.2.2, k1, k2⟩, j7⟩
  · refine ⟨c1, ⟨p1, p2⟩, ⟨c31, rfl, c33, fun _ => ⟨fun i hi => ?_, rfl, fun i hi => ?_⟩⟩, c4, c5⟩
    · show va_cpy (σ 20) (σ 30) 0 0 45 i = nI (v 7 i)
      rw [pk_cpy_in (by omega) (by omega), Nat.zero_add, Nat.sub_zero, hr i hi]
    · have hi : i < 45 * v 0 4 := hi
      show va_cpy (σ 22) (σ 32) 0 0 450 i = nI (v 8 i)
      rw [pk_cpy_in (by omega) (by omega), Nat.zero_add, Nat.sub_zero, p2 i hi]
  · refine ⟨m1, ⟨q1, fun k hk i hi => ?_⟩, ⟨m31, rfl, fun z => ?_, fun _ => ⟨fun k hk i hi => ?_, rfl, fun k hk i hi => ?_⟩⟩, m4, m5⟩
    · have hk : k < v 0 4 := hk
      have hl := mq_lt hi
      show va_cpy (μ 15) (μ 15) 0 (450 * (1 + 1)) 450 (0 + 45 * k + mq i) = nI (v 8 (45 * k + i))
      rw [pk_cpy_out (by omega), q2 k hk i hi]
    · have z : v 0 6 = 1 := z
      obtain ⟨z1, z2, z3⟩ := m33 z
      refine ⟨fun k hk i hi => ?_, z2, fun k hk i hi => ?_⟩
      · have hl := mq_lt hi
        have hk2 : k < 1 := hk
        show va_cpy (μ 13) (μ 16) 0 (45 * 1) 45 (0 + 45 * k + mq i) = nI (v 9 (45 * k + i))
        rw [pk_cpy_out (by omega)]
        exact z1 k hk i hi
      · have hl := mq_lt hi
        have hk2 : k < v 0 8 := hk
        have hk3 : v 0 8 ≤ 10 := (j5 z).2.1
        show va_cpy (μ 15) (μ 15) 0 (450 * (1 + 1)) 450 (450 + 45 * k + mq i) = nI (v 11 (45 * k + i))
        rw [pk_cpy_out (by omega)]
        exact z3 k hk i hi
    · have hl := mq_lt hi
      have hk : k < 1 := hk
      have hk : k = 0 := by omega
      subst hk
      show va_cpy (μ 13) (μ 16) 0 (45 * 1) 45 (45 + 45 * 0 + mq i) = nI (v 7 (45 * 0 + i))
      rw [pk_cpy_in (by omega) (by omega), show 45 * 0 + i = i by omega, ← hq i hi]
      exact congrArg (μ 13) (by omega)
    · have hl := mq_lt hi
      have hk : k < v 0 4 := hk
      show va_cpy (μ 15) (μ 15) 0 (450 * (1 + 1)) 450 (900 + 45 * k + mq i) = nI (v 8 (45 * k + i))
      rw [pk_cpy_in (by omega) (by omega), ← q2 k hk i hi]
      exact congrArg (μ 15) (by omega)
theorem eq_keep : EQ_keep := by
  intro v σ μ a1 hI hRc hRm
  rcases o0 a1 (H := 1) 1 rfl (by decide) with ⟨h1, m, rfl, hm⟩ | ⟨h1, -⟩
  · rcases (show m = 0 ∨ m = 1 by omega) with rfl | rfl
    · exact keep_0 hI hRc hRm
    · exact keep_1 hI hRc hRm
  · refine same hI hRc hRm (o := -1) ?_ ?_
    · unfold pX10_keep; rw [h1, if_neg (by decide)]
    · unfold pX11_keep; rw [if_pos (in_no h1)]
theorem back_0 (hI : Inv v) (hRc : Rc σ v) (hRm : Rm μ v) : ∃ (o : Int32 × Sg) (o2 : Int32 × Sg) (v' : Vw), pX10_back σ (nI 0) = some o ∧ pX11_back μ (nI 0) = some o2 ∧ o.1 = o2.1 ∧ Inv v' ∧ Rc o.2 v' ∧ Rm o2.2 v' := by
  obtain ⟨c1, ⟨p1, p2⟩, ⟨c31, c32, c33, c34⟩, c4, c5⟩ := id hRc
  obtain ⟨m1, ⟨q1, q2⟩, ⟨m31, m32, m33, m34⟩, m4, m5⟩ := id hRm
  obtain ⟨j1, ⟨k1, k2⟩, j3, j4, j5, j6, j7⟩ := id hI
  obtain ⟨r1, r2, r3, r4, r5, r6, r7, r8, r9, r10⟩ := id c1
  obtain ⟨w1, w2, w3, w4, w5, w6, w7, w8, w9⟩ := id m1
  obtain ⟨i1, i2, i3, i4, i5, i6⟩ := id j1
  by_cases h0 : v 0 6 = 1
  · obtain ⟨y1, y2, y3⟩ := c33 h0
    obtain ⟨z1, z2, z3⟩ := m33 h0
    obtain ⟨x1, x2, x3⟩ := j5 h0
    have hcI : RcN (sA σ 20 (va_cpy (σ 25) (σ 20) 0 0 45)) (vs v 7 (v 9)) := ⟨r1, r2, r3, r4, r5, r6, r7, r8, r9, fun i hi => by
      show va_cpy (σ 25) (σ 20) 0 0 45 i = nI (v 9 i)
      rw [pk_cpy_in (by omega) (by omega), Nat.zero_add, Nat.sub_zero, y1 i hi]⟩
    have hmI : RmN (sA μ 13 (va_cpy (μ 16) (μ 13) (45 * 0) 0 45)) (vs v 7 (v 9)) := ⟨w1, w2, w3, w4, w5, w6, w7, w8, fun i hi => by
      have hl := mq_lt hi
      show va_cpy (μ 16) (μ 13) (45 * 0) 0 45 (mq i) = nI (v 9 i)
      rw [pk_cpy_in (by omega) (by omega), Nat.sub_zero, show v 9 i = v 9 (45 * 0 + i) by rw [Nat.mul_zero, Nat.zero_add], ← z1 0 (by omega) i hi]⟩
    have hII : InvN (vs v 7 (v 9)) := ⟨i1, i2, i3, i4, i5, x1⟩
    refine diff (o := nI (thoseV (vs v 7 (v 9)) 0)) (v' := vs (vs (vs v 7 (v 9)) 8 (v 11)) 0 (updN (v 0) 4 (v 0 8))) (σ' := s1 (sA (sA σ 20 (va_cpy (σ 25) (σ 20) 0 0 45)) 22 (va_cpy (σ 27) (σ 22) 0 0 450)) 21 1 (nI (v 0 8))) (μ' := s1 (sA (sA μ 13 (va_cpy (μ 16) (μ 13) (45 * 0) 0 45)) 15 (va_cpy (μ 15) (μ 15) (450 * (1 + 0)) 0 450)) 14 0 (nI (v 0 8))) ?_ ?_ ?_ ?_ ?_
    · unfold pX10_back
      rw [if_pos (show pX10_isOutside (nI 0) 0 1 = 0 by decide), if_pos (show nI 0 = (0 : Int32) from rfl), if_neg (show ¬ σ 23 2 = 0 by rw [c31, h0]; decide), if_pos (show nI 0 = (0 : Int32) from rfl)]
      have e1 : pX3_givesBack_23 20 σ = some (s1 (sA (sA σ 20 (va_cpy (σ 25) (σ 20) 0 0 45)) 22 (va_cpy (σ 27) (σ 22) 0 0 450)) 21 1 (σ 26 1)) := by
        unfold pX3_givesBack_23 pX5_becomes pX6_becomes_21_26
        simp only [Option.bind_some, copy45, copy450]
        rfl
      rw [y2] at e1
      have hc2 : RcN (s1 (sA (sA σ 20 (va_cpy (σ 25) (σ 20) 0 0 45)) 22 (va_cpy (σ 27) (σ 22) 0 0 450)) 21 1 (nI (v 0 8))) (vs v 7 (v 9)) := hcI
      have e2 := c_those hc2 hII (h := 0) (by omega)
      exact (bnd e1).trans ((bnd e2).trans rfl)
    · unfold pX11_back
      rw [if_neg (show ¬ pX11_in (nI 0) 0 1 = 0 by decide)]
      have e17 : rdA μ 17 2 (nI 0) = some 1 := by
        rw [rd_nI (by decide) (by decide), m31, h0]
        rfl
      refine (bnd e17).trans ?_
      rw [if_neg (by decide)]
      refine (bnd (k_25 (m := 0) (by omega))).trans ((bnd (k_56 (m := 0) (by omega))).trans ?_)
      have e14 : rdA (sA (sA μ 13 (va_cpy (μ 16) (μ 13) (45 * 0) 0 45)) 15 (va_cpy (μ 15) (μ 15) (450 * (1 + 0)) 0 450)) 14 3 (1 + nI 0) = some (nI (v 0 8)) := by
        rw [show (1 : Int32) + nI 0 = nI (1 + 0) from nI_add 1 0, rd_nI (by decide) (by decide)]
        exact congrArg some z2
      refine (bnd e14).trans ?_
      have e15 : wrA (sA (sA μ 13 (va_cpy (μ 16) (μ 13) (45 * 0) 0 45)) 15 (va_cpy (μ 15) (μ 15) (450 * (1 + 0)) 0 450)) 14 3 0 (nI (v 0 8)) = some (s1 (sA (sA μ 13 (va_cpy (μ 16) (μ 13) (45 * 0) 0 45)) 15 (va_cpy (μ 15) (μ 15) (450 * (1 + 0)) 0 450)) 14 0 (nI (v 0 8))) := by
        rw [show (0 : Int32) = nI 0 from rfl, wr_nI (by decide) (by decide)]
      refine (bnd e15).trans ?_
      have hm2 : RmN (s1 (sA (sA μ 13 (va_cpy (μ 16) (μ 13) (45 * 0) 0 45)) 15 (va_cpy (μ 15) (μ 15) (450 * (1 + 0)) 0 450)) 14 0 (nI (v 0 8))) (vs v 7 (v 9)) := hmI
      have e2 := m_those hm2 hII (h := 0) (by omega)
      exact (bnd e2).trans rfl
    · exact ⟨hII, ⟨x2, x3⟩, j3, j4, j5, j6, j7⟩
    · refine ⟨hcI, ⟨rfl, fun i hi => ?_⟩, ⟨c31, c32, c33, c34⟩, c4, c5⟩
      have hi : i < 45 * v 0 8 := hi
      show va_cpy (σ 27) (σ 22) 0 0 450 i = nI (v 11 i)
      rw [pk_cpy_in (by omega) (by omega), Nat.zero_add, Nat.sub_zero, y3 i hi]
    · refine ⟨hmI, ⟨rfl, fun k hk i hi => ?_⟩, ⟨m31, m32, fun z => ?_, fun z => ?_⟩, m4, m5⟩
      · have hk : k < v 0 8 := hk
        have hl := mq_lt hi
        show va_cpy (μ 15) (μ 15) (450 * (1 + 0)) 0 450 (0 + 45 * k + mq i) = nI (v 11 (45 * k + i))
        rw [pk_cpy_in (by omega) (by omega), ← z3 k hk i hi]
        exact congrArg (μ 15) (by omega)
      · obtain ⟨t1, t2, t3⟩ := m33 z
        refine ⟨t1, t2, fun k hk i hi => ?_⟩
        show va_cpy (μ 15) (μ 15) (450 * (1 + 0)) 0 450 (450 + 45 * k + mq i) = nI (v 11 (45 * k + i))
        rw [pk_cpy_out (by omega)]
        exact t3 k hk i hi
      · obtain ⟨t1, t2, t3⟩ := m34 z
        refine ⟨t1, t2, fun k hk i hi => ?_⟩
        show va_cpy (μ 15) (μ 15) (450 * (1 + 0)) 0 450 (900 + 45 * k + mq i) = nI (v 12 (45 * k + i))
        rw [pk_cpy_out (by omega)]
        exact t3 k hk i hi
  · have h0 : v 0 6 = 0 := by omega
    refine same hI hRc hRm (o := -2) ?_ ?_
    · unfold pX10_back
      rw [if_pos (show pX10_isOutside (nI 0) 0 1 = 0 by decide), if_pos (show nI 0 = (0 : Int32) from rfl), if_pos (show σ 23 2 = 0 by rw [c31, h0]; rfl)]
    · unfold pX11_back
      rw [if_neg (show ¬ pX11_in (nI 0) 0 1 = 0 by decide)]
      have e17 : rdA μ 17 2 (nI 0) = some 0 := by
        rw [rd_nI (by decide) (by decide), m31, h0]
        rfl
      refine (bnd e17).trans ?_
      rw [if_pos rfl]
theorem back_1 (hI : Inv v) (hRc : Rc σ v) (hRm : Rm μ v) : ∃ (o : Int32 × Sg) (o2 : Int32 × Sg) (v' : Vw), pX10_back σ (nI 1) = some o ∧ pX11_back μ (nI 1) = some o2 ∧ o.1 = o2.1 ∧ Inv v' ∧ Rc o.2 v' ∧ Rm o2.2 v' := by
  obtain ⟨c1, ⟨p1, p2⟩, ⟨c31, c32, c33, c34⟩, c4, c5⟩ := id hRc
  obtain ⟨m1, ⟨q1, q2⟩, ⟨m31, m32, m33, m34⟩, m4, m5⟩ := id hRm
  obtain ⟨j1, ⟨k1, k2⟩, j3, j4, j5, j6, j7⟩ := id hI
  obtain ⟨r1, r2, r3, r4, r5, r6, r7, r8, r9, r10⟩ := id c1
  obtain ⟨w1, w2, w3, w4, w5, w6, w7, w8, w9⟩ := id m1
  obtain ⟨i1, i2, i3, i4, i5, i6⟩ := id j1
  by_cases h0 : v 0 7 = 1
  · obtain ⟨y1, y2, y3⟩ := c34 h0
    obtain ⟨z1, z2, z3⟩ := m34 h0
    obtain ⟨x1, x2, x3⟩ := j6 h0
    have hcI : RcN (sA σ 20 (va_cpy (σ 30) (σ 20) 0 0 45)) (vs v 7 (v 10)) := ⟨r1, r2, r3, r4, r5, r6, r7, r8, r9, fun i hi => by
      show va_cpy (σ 30) (σ 20) 0 0 45 i = nI (v 10 i)
      rw [pk_cpy_in (by omega) (by omega), Nat.zero_add, Nat.sub_zero, y1 i hi]⟩
    have hmI : RmN (sA μ 13 (va_cpy (μ 16) (μ 13) (45 * 1) 0 45)) (vs v 7 (v 10)) := ⟨w1, w2, w3, w4, w5, w6, w7, w8, fun i hi => by
      have hl := mq_lt hi
      show va_cpy (μ 16) (μ 13) (45 * 1) 0 45 (mq i) = nI (v 10 i)
      rw [pk_cpy_in (by omega) (by omega), Nat.sub_zero, show v 10 i = v 10 (45 * 0 + i) by rw [Nat.mul_zero, Nat.zero_add], ← z1 0 (by omega) i hi]⟩
    have hII : InvN (vs v 7 (v 10)) := ⟨i1, i2, i3, i4, i5, x1⟩
    refine diff (o := nI (thoseV (vs v 7 (v 10)) 0)) (v' := vs (vs (vs v 7 (v 10)) 8 (v 12)) 0 (updN (v 0) 4 (v 0 9))) (σ' := s1 (sA (sA σ 20 (va_cpy (σ 30) (σ 20) 0 0 45)) 22 (va_cpy (σ 32) (σ 22) 0 0 450)) 21 1 (nI (v 0 9))) (μ' := s1 (sA (sA μ 13 (va_cpy (μ 16) (μ 13) (45 * 1) 0 45)) 15 (va_cpy (μ 15) (μ 15) (450 * (1 + 1)) 0 450)) 14 0 (nI (v 0 9))) ?_ ?_ ?_ ?_ ?_
    · unfold pX10_back
      rw [if_pos (show pX10_isOutside (nI 1) 0 1 = 0 by decide), if_neg (show ¬ nI 1 = (0 : Int32) by decide), if_neg (show ¬ σ 28 2 = 0 by rw [c32, h0]; decide), if_neg (show ¬ nI 1 = (0 : Int32) by decide)]
      have e1 : pX3_givesBack_28 20 σ = some (s1 (sA (sA σ 20 (va_cpy (σ 30) (σ 20) 0 0 45)) 22 (va_cpy (σ 32) (σ 22) 0 0 450)) 21 1 (σ 31 1)) := by
        unfold pX3_givesBack_28 pX5_becomes pX6_becomes_21_31
        simp only [Option.bind_some, copy45, copy450]
        rfl
      rw [y2] at e1
      have hc2 : RcN (s1 (sA (sA σ 20 (va_cpy (σ 30) (σ 20) 0 0 45)) 22 (va_cpy (σ 32) (σ 22) 0 0 450)) 21 1 (nI (v 0 9))) (vs v 7 (v 10)) := hcI
      have e2 := c_those hc2 hII (h := 0) (by omega)
      exact (bnd e1).trans ((bnd e2).trans rfl)
    · unfold pX11_back
      rw [if_neg (show ¬ pX11_in (nI 1) 0 1 = 0 by decide)]
      have e17 : rdA μ 17 2 (nI 1) = some 1 := by
        rw [rd_nI (by decide) (by decide), m32, h0]
        rfl
      refine (bnd e17).trans ?_
      rw [if_neg (by decide)]
      refine (bnd (k_25 (m := 1) (by omega))).trans ((bnd (k_56 (m := 1) (by omega))).trans ?_)
      have e14 : rdA (sA (sA μ 13 (va_cpy (μ 16) (μ 13) (45 * 1) 0 45)) 15 (va_cpy (μ 15) (μ 15) (450 * (1 + 1)) 0 450)) 14 3 (1 + nI 1) = some (nI (v 0 9)) := by
        rw [show (1 : Int32) + nI 1 = nI (1 + 1) from nI_add 1 1, rd_nI (by decide) (by decide)]
        exact congrArg some z2
      refine (bnd e14).trans ?_
      have e15 : wrA (sA (sA μ 13 (va_cpy (μ 16) (μ 13) (45 * 1) 0 45)) 15 (va_cpy (μ 15) (μ 15) (450 * (1 + 1)) 0 450)) 14 3 0 (nI (v 0 9)) = some (s1 (sA (sA μ 13 (va_cpy (μ 16) (μ 13) (45 * 1) 0 45)) 15 (va_cpy (μ 15) (μ 15) (450 * (1 + 1)) 0 450)) 14 0 (nI (v 0 9))) := by
        rw [show (0 : Int32) = nI 0 from rfl, wr_nI (by decide) (by decide)]
      refine (bnd e15).trans ?_
      have hm2 : RmN (s1 (sA (sA μ 13 (va_cpy (μ 16) (μ 13) (45 * 1) 0 45)) 15 (va_cpy (μ 15) (μ 15) (450 * (1 + 1)) 0 450)) 14 0 (nI (v 0 9))) (vs v 7 (v 10)) := hmI
      have e2 := m_those hm2 hII (h := 0) (by omega)
      exact (bnd e2).trans rfl
    · exact ⟨hII, ⟨x2, x3⟩, j3, j4, j5, j6, j7⟩
    · refine ⟨hcI, ⟨rfl, fun i hi => ?_⟩, ⟨c31, c32, c33, c34⟩, c4, c5⟩
      have hi : i < 45 * v 0 9 := hi
      show va_cpy (σ 32) (σ 22) 0 0 450 i = nI (v 12 i)
      rw [pk_cpy_in (by omega) (by omega), Nat.zero_add, Nat.sub_zero, y3 i hi]
    · refine ⟨hmI, ⟨rfl, fun k hk i hi => ?_⟩, ⟨m31, m32, fun z => ?_, fun z => ?_⟩, m4, m5⟩
      · have hk : k < v 0 9 := hk
        have hl := mq_lt hi
        show va_cpy (μ 15) (μ 15) (450 * (1 + 1)) 0 450 (0 + 45 * k + mq i) = nI (v 12 (45 * k + i))
        rw [pk_cpy_in (by omega) (by omega), ← z3 k hk i hi]
        exact congrArg (μ 15) (by omega)
      · obtain ⟨t1, t2, t3⟩ := m33 z
        refine ⟨t1, t2, fun k hk i hi => ?_⟩
        show va_cpy (μ 15) (μ 15) (450 * (1 + 1)) 0 450 (450 + 45 * k + mq i) = nI (v 11 (45 * k + i))
        rw [pk_cpy_out (by omega)]
        exact t3 k hk i hi
      · obtain ⟨t1, t2, t3⟩ := m34 z
        refine ⟨t1, t2, fun k hk i hi => ?_⟩
        show va_cpy (μ 15) (μ 15) (450 * (1 + 1)) 0 450 (900 + 45 * k + mq i) = nI (v 12 (45 * k + i))
        rw [pk_cpy_out (by omega)]
        exact t3 k hk i hi
  · have h0 : v 0 7 = 0 := by omega
    refine same hI hRc hRm (o := -2) ?_ ?_
    · unfold pX10_back
      rw [if_pos (show pX10_isOutside (nI 1) 0 1 = 0 by decide), if_neg (show ¬ nI 1 = (0 : Int32) by decide), if_pos (show σ 28 2 = 0 by rw [c32, h0]; rfl)]
    · unfold pX11_back
      rw [if_neg (show ¬ pX11_in (nI 1) 0 1 = 0 by decide)]
      have e17 : rdA μ 17 2 (nI 1) = some 0 := by
        rw [rd_nI (by decide) (by decide), m32, h0]
        rfl
      refine (bnd e17).trans ?_
      rw [if_pos rfl]
theorem eq_back : EQ_back := by
  intro v σ μ a1 hI hRc hRm
  rcases o0 a1 (H := 1) 1 rfl (by decide) with ⟨h1, m, rfl, hm⟩ | ⟨h1, -⟩
  · rcases (show m = 0 ∨ m = 1 by omega) with rfl | rfl
    · exact back_0 hI hRc hRm
    · exact back_1 hI hRc hRm
  · refine same hI hRc hRm (o := -1) ?_ ?_
    · unfold pX10_back; rw [h1, if_neg (by decide)]
    · unfold pX11_back; rw [if_pos (in_no h1)]
end G
