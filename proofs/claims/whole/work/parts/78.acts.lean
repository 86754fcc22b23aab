/-! pays, dies, wills, undo -/
theorem row_set {nr k x : Nat} {f : Nat → Nat} (h : rowOK nr f) (p0 : k < 8 → x < 10) (p1 : 8 ≤ k → k < 16 → x ≤ 60) (p2 : 16 ≤ k → k < 24 → x ≤ 99) (p3 : 24 ≤ k → k < 32 → x ≤ 2) (p4 : 32 ≤ k → k < 38 → x < 6 ∧ (k - 32 < nr → x < nr)) (p5 : 38 ≤ k → k < 44 → x ≤ 9999) (p6 : k = 44 → x < 2 ^ nr) : rowOK nr (updN f k x) := by
  obtain ⟨h1, h2, h3⟩ := h
  refine ⟨fun a ha => ⟨?_, ?_, ?_, ?_⟩, fun r hr => ⟨?_, ?_, ?_⟩, ?_⟩
  · by_cases e : a = k
    · rw [e, updN_s]; exact p0 (by omega)
    · rw [updN_n e]; exact (h1 a ha).1
  · by_cases e : 8 + a = k
    · rw [e, updN_s]; exact p1 (by omega) (by omega)
    · rw [updN_n e]; exact (h1 a ha).2.1
  · by_cases e : 16 + a = k
    · rw [e, updN_s]; exact p2 (by omega) (by omega)
    · rw [updN_n e]; exact (h1 a ha).2.2.1
  · by_cases e : 24 + a = k
    · rw [e, updN_s]; exact p3 (by omega) (by omega)
    · rw [updN_n e]; exact (h1 a ha).2.2.2
  · by_cases e : 32 + r = k
    · rw [e, updN_s]; exact (p4 (by omega) (by omega)).1
    · rw [updN_n e]; exact (h2 r hr).1
  · intro hn
    by_cases e : 32 + r = k
    · rw [e, updN_s]; exact (p4 (by omega) (by omega)).2 (by omega)
    · rw [updN_n e]; exact (h2 r hr).2.1 hn
  · by_cases e : 38 + r = k
    · rw [e, updN_s]; exact p5 (by omega) (by omega)
    · rw [updN_n e]; exact (h2 r hr).2.2
  · by_cases e : 44 = k
    · rw [e, updN_s]; exact p6 e.symm
    · rw [updN_n e]; exact h3
section G
variable {σ μ : Sg} {v : Vw}
/-- what is written into the row that is now: class, model -/
theorem c_set (hR : Rc σ v) {K a k x : Nat} {Ki : Int32} (hK : Ki = nI K) (e : K + a = k) (hk : k < 45) : ∃ g, pX5_set 20 σ Ki (nI a) (nI x) = some (sA σ 20 g) ∧ Rc (sA σ 20 g) (vs v 7 (updN (v 7) k x)) := by
  refine ⟨upd (σ 20) k (nI x), ?_, Rc_row hR (fun i hi => upd_nI (hR.1.2.2.2.2.2.2.2.2.2 i hi))⟩
  unfold pX5_set
  rw [hK, nI_add, e, put_nI hk (by decide)]
  rfl
theorem m_set (hR : Rm μ v) {K a k x : Nat} {Ki : Int32} (hK : Ki = nI K) (hk : k < 45) (e : K + a = mq k) : ∃ g, wrA μ 13 45 (Ki + nI a) (nI x) = some (sA μ 13 g) ∧ Rm (sA μ 13 g) (vs v 7 (updN (v 7) k x)) := by
  refine ⟨upd (μ 13) (mq k) (nI x), ?_, Rm_row hR (mq_upd hk hR.1.2.2.2.2.2.2.2.2)⟩
  rw [hK, nI_add, e, wr_nI (mq_lt hk) (by decide)]
  rfl
theorem eq_pays : EQ_pays := by
  intro v σ μ a1 a2 hI hRc hRm
  have hN := hI.1
  have hc := hRc.1
  have hm := hRm.1
  have h6 := hN.1
  have h8 := hN.2.1
  unfold pX10_pays pX11_pays
  rw [c_noAnchor hc, m_isAnchor hm]
  simp only [Option.bind_some]
  rcases out_lt a1 (n := v 0 1) (by omega) with ⟨h1, a, rfl, ha⟩ | ⟨h1, -⟩
  · have a8 : a < 8 := by omega
    have hg : pX5_get 20 σ 8 (nI a) = nI (v 7 (8 + a)) := c_get hc (k := 8) (K := 8) rfl (by omega)
    by_cases k0 : a2 = 0
    · refine same hI hRc hRm (o := -1) ?_ ?_
      · rw [h1, if_pos rfl, if_pos k0]
      · rw [h1, if_neg (by decide)]
        by_cases q : pX11_in a2 (-9) 9 = 0
        · rw [if_pos q]
        · rw [if_neg q, if_pos k0]
    rcases z_pX10_isOutside a2 (-9) 9 with h2 | h2
    · cases hl : liesV v a
      · refine same hI hRc hRm (o := -2) ?_ ?_
        · rw [h1, if_pos rfl, if_neg k0, if_pos h2, c_liesV hc hN a8, hl]; rfl
        · rw [h1, if_neg (by decide), if_neg (show ¬ pX11_in a2 (-9) 9 = 0 by rw [in_yes h2]; decide), if_neg k0, m_lies hm hN a8, hl]; rfl
      · rcases o1 (nI (v 7 (8 + a)) + a2) (H := 60) 60 rfl (by decide) with ⟨h3, n, e3, hn1, hn2⟩ | ⟨h3, -⟩
        · obtain ⟨σ1, s1, s2⟩ := c_mem hRc hI
          obtain ⟨μ1, t1, t2⟩ := m_mem hRm hI
          obtain ⟨g, s3, s4⟩ := c_set s2 (K := 8) (a := a) (k := 8 + a) (x := n) (Ki := 8) rfl rfl (by omega)
          obtain ⟨g', t3, t4⟩ := m_set t2 (K := 8) (a := a) (k := 8 + a) (x := n) (Ki := 8) rfl (by omega) (by rw [mq_lo (by omega)])
          refine diff (o := nI n) (σ' := sA σ1 20 g) (μ' := sA μ1 13 g') ?_ ?_ (Inv_row (mem_inv hI) (row_set hN.2.2.2.2.2 (by omega) (fun _ _ => hn2) (by omega) (by omega) (by omega) (by omega) (by omega))) s4 t4
          · rw [h1, if_pos rfl, if_neg k0, if_pos h2, c_liesV hc hN a8, hl, if_neg (by decide), hg, if_pos h3, s1, Option.bind_some, e3, s3]; rfl
          · rw [h1, if_neg (by decide), if_neg (show ¬ pX11_in a2 (-9) 9 = 0 by rw [in_yes h2]; decide), if_neg k0, m_lies hm hN a8, hl, Option.bind_some, if_neg (by decide), m_lnk hm a8, Option.bind_some, if_neg (show ¬ pX11_in _ 1 60 = 0 by rw [in_yes h3]; decide), t1, Option.bind_some, m_lnk t2.1 a8, Option.bind_some]
            show Option.bind (wrA μ1 13 45 (8 + nI a) (nI (v 7 (8 + a)) + a2)) _ = _
            rw [e3, t3, Option.bind_some, m_lnk t4.1 a8]
            show some (nI (updN (v 7) (8 + a) n (8 + a)), _) = _
            rw [updN_s]
        · refine same hI hRc hRm (o := -2) ?_ ?_
          · rw [h1, if_pos rfl, if_neg k0, if_pos h2, c_liesV hc hN a8, hl, if_neg (by decide), hg, if_neg (show ¬ pX10_isOutside _ 1 60 = 0 by rw [h3]; decide)]
          · rw [h1, if_neg (by decide), if_neg (show ¬ pX11_in a2 (-9) 9 = 0 by rw [in_yes h2]; decide), if_neg k0, m_lies hm hN a8, hl, Option.bind_some, if_neg (by decide), m_lnk hm a8, Option.bind_some, if_pos (in_no h3)]
    · refine same hI hRc hRm (o := -1) ?_ ?_
      · rw [h1, if_pos rfl, if_neg k0, if_neg (show ¬ pX10_isOutside a2 (-9) 9 = 0 by rw [h2]; decide)]
      · rw [h1, if_neg (by decide), if_pos (in_no h2)]
  · refine same hI hRc hRm (o := -1) ?_ ?_
    · rw [h1]; rfl
    · rw [h1]; rfl
theorem gone_row {v : Vw} (hI : InvN v) : v 7 44 < 2 ^ v 0 0 := hI.2.2.2.2.2.2.2
theorem eq_dies : EQ_dies := by
  intro v σ μ a1 hI hRc hRm
  have hN := hI.1
  have hc := hRc.1
  have hm := hRm.1
  have h6 := hN.1
  unfold pX10_dies pX11_dies
  rw [c_noRaft hc, m_isRaft hm]
  simp only [Option.bind_some]
  rcases out_lt a1 (n := v 0 0) (by omega) with ⟨h1, r, rfl, hr⟩ | ⟨h1, -⟩
  · have hr6 : r < 6 := by omega
    cases hl : goneV v r
    · obtain ⟨σ1, s1, s2⟩ := c_mem hRc hI
      obtain ⟨μ1, t1, t2⟩ := m_mem hRm hI
      obtain ⟨g, s3, s4⟩ := c_set s2 (K := 44) (a := 0) (k := 44) (x := v 7 44 ||| 2 ^ r) (Ki := 44) rfl rfl (by omega)
      obtain ⟨g', t3, t4⟩ := m_set t2 (K := 32) (a := 0) (k := 44) (x := v 7 44 ||| 2 ^ r) (Ki := 32) rfl (by omega) (by decide)
      have hx : v 7 44 ||| 2 ^ r < 2 ^ v 0 0 := Nat.or_lt_two_pow (gone_row hN) (Nat.pow_lt_pow_right (by decide) hr)
      have hx6 : 2 ^ v 0 0 ≤ 2 ^ 6 := Nat.pow_le_pow_right (by decide) h6
      refine diff (o := nI (popN (v 7 44 ||| 2 ^ r))) (σ' := sA σ1 20 g) (μ' := sA μ1 13 g') ?_ ?_ (Inv_row (mem_inv hI) (row_set hN.2.2.2.2.2 (by omega) (by omega) (by omega) (by omega) (by omega) (by omega) (fun _ => hx))) s4 t4
      · rw [h1, if_pos rfl, c_gone hc hN hr6, hl, if_pos (by decide), s1, Option.bind_some, c_gone0 s2.1, bit_nI (by omega)]
        show Option.bind (pX5_set 20 σ1 44 (nI 0) (nI (v 7 44) ||| nI (2 ^ r))) _ = _
        rw [fa_or, s3, Option.bind_some, c_gone0 s4.1]
        show some (pJ6_bitCount (nI (updN (v 7) 44 (v 7 44 ||| 2 ^ r) 44)), _) = _
        rw [updN_s, c_bits (by omega)]
      · rw [h1, if_neg (by decide), m_gon hm, Option.bind_some, m_gone hN hr6, hl, if_pos (by decide), t1, Option.bind_some, m_gon t2.1, Option.bind_some, m_shl (by omega)]
        show Option.bind (wrA μ1 13 45 (32 + nI 0) (nI (v 7 44) ||| nI (2 ^ r))) _ = _
        rw [fa_or, t3, Option.bind_some, m_gon t4.1, Option.bind_some]
        show Option.bind (pX11_bitsOf (nI (updN (v 7) 44 (v 7 44 ||| 2 ^ r) 44))) _ = _
        rw [updN_s, m_bits (by omega)]
        rfl
    · refine same hI hRc hRm (o := -2) ?_ ?_
      · rw [h1, if_pos rfl, c_gone hc hN hr6, hl, if_neg (by decide)]
      · rw [h1, if_neg (by decide), m_gon hm, Option.bind_some, m_gone hN hr6, hl, if_neg (by decide)]
  · refine same hI hRc hRm (o := -1) ?_ ?_
    · rw [h1]; rfl
    · rw [h1]; rfl
theorem eq_wills : EQ_wills := by
  intro v σ μ a1 a2 hI hRc hRm
  have hN := hI.1
  have hc := hRc.1
  have hm := hRm.1
  have h6 := hN.1
  unfold pX10_wills pX11_wills
  rw [c_noRaft hc, c_noRaft hc, m_isRaft hm, m_isRaft hm]
  simp only [Option.bind_some]
  rcases out_lt a1 (n := v 0 0) (by omega) with ⟨h1, r, rfl, hr⟩ | ⟨h1, -⟩
  · have hr6 : r < 6 := by omega
    rcases out_lt a2 (n := v 0 0) (by omega) with ⟨h2, x, rfl, hx⟩ | ⟨h2, -⟩
    · have hg : pX5_get 20 σ 32 (nI r) = nI (v 7 (32 + r)) := c_get hc (k := 32) (K := 32) rfl (by omega)
      have hb := (hN.2.2.2.2.2.2.1 r hr6).1
      cases hl : goneV v r
      · by_cases e : v 7 (32 + r) = x
        · refine same hI hRc hRm (o := -2) ?_ ?_
          · rw [h1, if_pos rfl, h2, if_pos rfl, c_gone hc hN hr6, hl, if_pos (by decide), hg, if_pos (by rw [e])]
          · rw [h1, if_neg (by decide), h2, if_neg (by decide), m_nxt hm hr6, Option.bind_some, m_gon hm, Option.bind_some, m_gone hN hr6, hl, if_pos (by decide), if_pos (by rw [e])]
        · have hne : ¬ nI (v 7 (32 + r)) = nI x := fun z => e ((nI_eq (by omega) (by omega)).mp z)
          obtain ⟨σ1, s1, s2⟩ := c_mem hRc hI
          obtain ⟨μ1, t1, t2⟩ := m_mem hRm hI
          obtain ⟨g, s3, s4⟩ := c_set s2 (K := 32) (a := r) (k := 32 + r) (x := x) (Ki := 32) rfl rfl (by omega)
          obtain ⟨g', t3, t4⟩ := m_set t2 (K := 33) (a := r) (k := 32 + r) (x := x) (Ki := 33) rfl (by omega) (by rw [mq_mid (by omega) (by omega)]; omega)
          refine diff (o := nI (v 7 (32 + r))) (σ' := sA σ1 20 g) (μ' := sA μ1 13 g') ?_ ?_ (Inv_row (mem_inv hI) (row_set hN.2.2.2.2.2 (by omega) (by omega) (by omega) (by omega) (fun _ _ => ⟨by omega, fun _ => hx⟩) (by omega) (by omega))) s4 t4
          · rw [h1, if_pos rfl, h2, if_pos rfl, c_gone hc hN hr6, hl, if_pos (by decide), hg, if_neg hne, s1, Option.bind_some, s3]; rfl
          · rw [h1, if_neg (by decide), h2, if_neg (by decide), m_nxt hm hr6, Option.bind_some, m_gon hm, Option.bind_some, m_gone hN hr6, hl, if_pos (by decide), if_neg hne, t1, Option.bind_some, t3]; rfl
      · refine same hI hRc hRm (o := -2) ?_ ?_
        · rw [h1, if_pos rfl, h2, if_pos rfl, c_gone hc hN hr6, hl, if_neg (by decide)]
        · rw [h1, if_neg (by decide), h2, if_neg (by decide), m_nxt hm hr6, Option.bind_some, m_gon hm, Option.bind_some, m_gone hN hr6, hl, if_neg (by decide)]
    · refine same hI hRc hRm (o := -1) ?_ ?_
      · rw [h1, if_pos rfl, h2]; rfl
      · rw [h1, if_neg (by decide), h2]; rfl
  · refine same hI hRc hRm (o := -1) ?_ ?_
    · rw [h1]; rfl
    · rw [h1]; rfl
/-- the row that was last -/
theorem eq_undo : EQ_undo := by
  intro v σ μ hI hRc hRm
  obtain ⟨c1, ⟨p1, p2⟩, c3, c4, c5⟩ := id hRc
  obtain ⟨r1, r2, r3, r4, r5, r6, r7, r8, r9, r10⟩ := id c1
  obtain ⟨m1, ⟨q1, q2⟩, m3, m4, m5⟩ := id hRm
  obtain ⟨w1, w2, w3, w4, w5, w6, w7, w8, w9⟩ := id m1
  obtain ⟨⟨i1, i2, i3, i4, i5, i6⟩, ⟨k1, k2⟩, j3⟩ := id hI
  by_cases h0 : v 0 4 = 0
  · refine same hI hRc hRm (o := -2) ?_ ?_
    · unfold pX10_undo pX6_bringsBack
      rw [p1, if_neg (show ¬ (1 : Int32) ≤ nI (v 0 4) by rw [h0]; decide)]
      rfl
    · unfold pX11_undo
      rw [m_kn hRm, Option.bind_some, if_pos (by rw [h0]; rfl)]
  · obtain ⟨n, hn⟩ : ∃ n, v 0 4 = n + 1 := ⟨v 0 4 - 1, by omega⟩
    refine diff (o := nI n) (v' := vs (vs v 7 (fun i => v 8 (45 * n + i))) 0 (updN (v 0) 4 n)) (σ' := sA (s1 σ 21 1 (nI n)) 20 (va_cpy (σ 22) (σ 20) (45 * n) 0 45)) (μ' := sA (s1 μ 14 0 (nI n)) 13 (va_cpy (μ 15) (μ 13) (45 * n) 0 45)) ?_ ?_ ?_ ?_ ?_
    · unfold pX10_undo pX6_bringsBack
      rw [p1, if_pos (show (1 : Int32) ≤ nI (v 0 4) from nI_le (a := 1) (by omega) (by omega)), hn, nI_pred, Option.bind_some]
      show Option.bind (Option.bind (some (sA (s1 σ 21 1 (nI n)) 20 (pX10_copy (σ 22) 450 (nI n * 45) (σ 20) 45 (nI 0) (nI 45)))) _) _ = _
      rw [show nI n * 45 = nI (n * 45) from pk_mul n 45, copy_nI (by omega) (by omega) (by decide) (by decide), Nat.mul_comm n 45]
      rfl
    · unfold pX11_undo
      have hkn := m_kn hRm
      rw [hkn, Option.bind_some, if_neg (nI_ne0 (by omega) (by omega)), Option.bind_some, hn, nI_pred, show (0 : Int32) = nI 0 from rfl, wr_nI (by decide) (by decide), Option.bind_some]
      have e14 : ∀ g : Nat → Int32, rdA (sA (s1 μ 14 0 (nI n)) 13 g) 14 3 (nI 0) = some (nI n) := fun g => by
        rw [rd_nI (by decide) (by decide)]; rfl
      have key := loop_up (fun k (s : Int32 × Sg) => pX11_undo_L24 k s.1 s.2) (fun i => (nI i, sA (s1 μ 14 0 (nI n)) 13 (va_cpy (μ 15) (μ 13) (45 * n) 0 i))) 45 (some (sA (s1 μ 14 0 (nI n)) 13 (va_cpy (μ 15) (μ 13) (45 * n) 0 45)))
        (by
          intro k i hi
          show pX11_undo_L24 (k + 1) (nI i) (sA _ 13 _) = pX11_undo_L24 k (nI (i + 1)) (sA _ 13 _)
          have e15 : rdA (sA (s1 μ 14 0 (nI n)) 13 (va_cpy (μ 15) (μ 13) (45 * n) 0 i)) 15 1350 (nI (45 * n + i)) = some (μ 15 (45 * n + i)) := rd_nI (by omega) (by decide)
          rw [pX11_undo_L24, if_neg (show ¬ (45 : Int32) ≤ nI i from nI_ge (b := 45) hi (by decide)), show (0 : Int32) = nI 0 from rfl, e14, Option.bind_some, show (45 : Int32) * nI n = nI (45 * n) from pk_mul 45 n, nI_add, e15, Option.bind_some, wr_nI (by omega) (by decide), Option.bind_some, nI_1]
          have := cpy_s (σ := s1 μ 14 0 (nI n)) (c := 13) (a := 45 * n) (b := 0) (i := i) (f := μ 15) (g := μ 13)
          rw [Nat.zero_add] at this
          rw [this])
        (by
          intro k
          show pX11_undo_L24 (k + 1) (nI 45) (sA _ 13 _) = _
          rw [pX11_undo_L24, if_pos (show (45 : Int32) ≤ nI 45 from nI_le (Nat.le_refl 45) (by decide))]) 45 0 2000 (by omega) (by omega)
      have key : pX11_undo_L24 2000 (nI 0) (sA (s1 μ 14 0 (nI n)) 13 (va_cpy (μ 15) ((s1 μ 14 0 (nI n)) 13) (45 * n) 0 0)) = _ := key
      rw [cpy_0] at key
      refine (bnd key).trans ?_
      exact (bnd (e14 _)).trans rfl
    · refine ⟨⟨i1, i2, i3, i4, i5, k2 n (by omega)⟩, ⟨show n ≤ 10 by omega, fun k hk => k2 k (by have hk : k < n := hk; omega)⟩, j3⟩
    · refine ⟨⟨r1, r2, r3, r4, r5, r6, r7, r8, r9, ?_⟩, ⟨rfl, ?_⟩, c3, c4, c5⟩
      · intro i hi
        show va_cpy (σ 22) (σ 20) (45 * n) 0 45 i = nI (v 8 (45 * n + i))
        rw [pk_cpy_in (by omega) (by omega), Nat.sub_zero]
        exact p2 _ (by omega)
      · intro i hi
        have hi : i < 45 * n := hi
        exact p2 i (by omega)
    · refine ⟨⟨w1, w2, w3, w4, w5, w6, w7, w8, ?_⟩, ⟨rfl, ?_⟩, ?_, m4, m5⟩
      · intro i hi
        have hq := mq_lt hi
        show va_cpy (μ 15) (μ 13) (45 * n) 0 45 (mq i) = nI (v 8 (45 * n + i))
        rw [pk_cpy_in (by omega) (by omega), Nat.sub_zero, ← q2 n (by omega) i hi, Nat.zero_add]
      · intro k hk
        have hk : k < n := hk
        exact q2 k (by omega)
      · exact m3
end G
