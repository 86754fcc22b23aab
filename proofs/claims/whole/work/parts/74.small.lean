/-! tools for what is written; small methods -/
theorem sA_eq {σ : Sg} {c : Nat} {f : Nat → Int32} : sA σ c f c = f := by unfold sA; rw [if_pos rfl]
theorem sA_ne {σ : Sg} {c d : Nat} {f : Nat → Int32} (h : d ≠ c) : sA σ c f d = σ d := by unfold sA; rw [if_neg h]
theorem sA_sA {σ : Sg} {c : Nat} {f g : Nat → Int32} : sA (sA σ c f) c g = sA σ c g := by
  funext d
  unfold sA
  by_cases h : d = c
  · rw [if_pos h, if_pos h]
  · rw [if_neg h, if_neg h, if_neg h]
theorem sA_self {σ : Sg} {c : Nat} : sA σ c (σ c) = σ := by
  funext d
  unfold sA
  by_cases h : d = c
  · rw [if_pos h, h]
  · rw [if_neg h]
theorem s1_sA {σ : Sg} {c i : Nat} {x : Int32} : s1 σ c i x = sA σ c (upd (σ c) i x) := rfl
def updN (f : Nat → Nat) (k x : Nat) : Nat → Nat := fun j => if j = k then x else f j
theorem updN_s {f : Nat → Nat} {k x : Nat} : updN f k x k = x := if_pos rfl
theorem updN_n {f : Nat → Nat} {k x j : Nat} (h : j ≠ k) : updN f k x j = f j := if_neg h
theorem upd_nI {f : Nat → Int32} {g : Nat → Nat} {k x j : Nat} (h : f j = nI (g j)) : upd f k (nI x) j = nI (updN g k x j) := by
  by_cases e : j = k
  · subst e; rw [pk_us, updN_s]
  · rw [pk_un e, updN_n e, h]
def vs (v : Vw) (c : Nat) (f : Nat → Nat) : Vw := fun d => if d = c then f else v d
section G
variable {σ μ : Sg} {v : Vw}
theorem same {x : Option (Int32 × Sg)} {y : Option (Int32 × Sg)} {o : Int32} (hI : Inv v) (hc : Rc σ v) (hm : Rm μ v) (h1 : x = some (o, σ)) (h2 : y = some (o, μ)) : ∃ (o : Int32 × Sg) (o2 : Int32 × Sg) (v' : Vw), x = some o ∧ y = some o2 ∧ o.1 = o2.1 ∧ Inv v' ∧ Rc o.2 v' ∧ Rm o2.2 v' := ⟨_, _, v, h1, h2, rfl, hI, hc, hm⟩
theorem same1 {σ' : Sg} {x : Option (Int32 × Sg)} {y : Option Int32} {o : Int32} (hI : Inv v) (hc : Rc σ' v) (hm : Rm μ v) (h1 : x = some (o, σ')) (h2 : y = some o) : ∃ (o : Int32 × Sg) (o2 : Int32) (v' : Vw), x = some o ∧ y = some o2 ∧ o.1 = o2 ∧ Inv v' ∧ Rc o.2 v' ∧ Rm μ v' := ⟨_, _, v, h1, h2, rfl, hI, hc, hm⟩
theorem diff {σ' μ' : Sg} {v' : Vw} {x : Option (Int32 × Sg)} {y : Option (Int32 × Sg)} {o : Int32} (h1 : x = some (o, σ')) (h2 : y = some (o, μ')) (hI : Inv v') (hc : Rc σ' v') (hm : Rm μ' v') : ∃ (o : Int32 × Sg) (o2 : Int32 × Sg) (v' : Vw), x = some o ∧ y = some o2 ∧ o.1 = o2.1 ∧ Inv v' ∧ Rc o.2 v' ∧ Rm o2.2 v' := ⟨_, _, v', h1, h2, rfl, hI, hc, hm⟩
theorem eq_type : EQ_type := by
  intro v σ μ a1 hI hRc hRm
  obtain ⟨c1, c2, c3, c4, c5⟩ := id hRc
  obtain ⟨m1, m2, m3, m4, m5⟩ := id hRm
  obtain ⟨j1, j2, j3, j4, j5, j6, j7, j8, j9, j10, j11⟩ := id hI
  unfold pX10_type pX11_type
  rcases o0 a1 (H := 255) 255 rfl (by decide) with ⟨h1, x, rfl, hx⟩ | ⟨h1, -⟩
  · unfold pX7_takes
    rw [if_pos h1, if_neg (show ¬ pX11_in (nI x) 0 255 = 0 by rw [in_yes h1]; decide), c4.1, m4.1]
    by_cases hn : v 0 2 = 200
    · refine same hI hRc hRm (o := -3) ?_ ?_
      · rw [hn, if_neg (by decide)]; rfl
      · rw [hn, if_pos (by decide)]
    · refine diff (v' := vs (vs v 13 (updN (v 13) (v 0 2) x)) 0 (updN (v 0) 2 (v 0 2 + 1))) (σ' := s1 (sA σ 34 (upd (σ 34) (v 0 2) (nI x))) 33 1 (nI (v 0 2 + 1))) (μ' := s1 (s1 μ 1 (v 0 2) (nI x).toInt8.toInt32) 0 1 (nI (v 0 2 + 1))) (o := nI (v 0 2 + 1)) ?_ ?_ ?_ ?_ ?_
      · rw [if_pos (show nI (v 0 2) < (200 : Int32) from nI_lt (b := 200) (by omega) (by decide)), put_nI (by omega) (by decide)]
        show (Option.bind (some (1, s1 (sA σ 34 (upd (σ 34) (v 0 2) (nI x))) 33 1 (σ 33 1 + 1))) _) = _
        rw [c4.1, nI_1]
        rfl
      · rw [if_neg (show ¬ nI (v 0 2) = (200 : Int32) from fun e => hn ((nI_eq (b := 200) (by omega) (by decide)).mp e)), pk_vb, wr_nI (by omega) (by decide)]
        show some ((s1 (s1 μ 1 (v 0 2) (nI x).toInt8.toInt32) 0 1 (μ 0 1 + 1)) 0 1, s1 (s1 μ 1 (v 0 2) (nI x).toInt8.toInt32) 0 1 (μ 0 1 + 1)) = _
        rw [m4.1, nI_1]
        rfl
      · refine ⟨j1, j2, j3, j4, j5, j6, show v 0 2 + 1 ≤ 200 by omega, ?_, j9, j10, j11⟩
        intro i hi
        have hi : i < v 0 2 + 1 := hi
        show updN (v 13) (v 0 2) x i < 256
        by_cases e : i = v 0 2
        · rw [e, updN_s]; omega
        · rw [updN_n e]; exact j8 i (by omega)
      · refine ⟨c1, c2, c3, ⟨rfl, ?_⟩, c5⟩
        intro i hi
        have hi : i < v 0 2 + 1 := hi
        show upd (σ 34) (v 0 2) (nI x) i = nI (updN (v 13) (v 0 2) x i)
        by_cases e : i = v 0 2
        · rw [e, updN_s, pk_us]
        · rw [updN_n e, pk_un e, c4.2 i (by omega)]
      · refine ⟨m1, m2, m3, ⟨rfl, ?_⟩, m5⟩
        intro i hi
        have hi : i < v 0 2 + 1 := hi
        show upd (μ 1) (v 0 2) (nI x).toInt8.toInt32 i = (nI (updN (v 13) (v 0 2) x i)).toInt8.toInt32
        by_cases e : i = v 0 2
        · rw [e, updN_s, pk_us]
        · rw [updN_n e, pk_un e, m4.2 i (by omega)]
  · refine same hI hRc hRm (o := -1) ?_ ?_
    · rw [if_neg (show ¬ pX10_isOutside a1 0 255 = 0 by rw [h1]; decide)]
    · rw [if_pos (in_no h1)]
theorem eq_clear : EQ_clear := by
  intro v σ μ hI hRc hRm
  obtain ⟨c1, c2, c3, c4, c5⟩ := id hRc
  obtain ⟨m1, m2, m3, m4, m5⟩ := id hRm
  obtain ⟨j1, j2, j3, j4, j5, j6, j7, j8, j9, j10, j11⟩ := id hI
  refine diff (v' := vs v 0 (updN (v 0) 2 0)) (σ' := s1 σ 33 1 0) (μ' := s1 μ 0 1 0) (o := nI (v 0 2)) ?_ ?_ ?_ ?_ ?_
  · unfold pX10_clear; rw [c4.1]; rfl
  · unfold pX11_clear; rw [m4.1]; rfl
  · exact ⟨j1, j2, j3, j4, j5, j6, Nat.zero_le _, fun i hi => absurd hi (Nat.not_lt_zero i), j9, j10, j11⟩
  · exact ⟨c1, c2, c3, ⟨rfl, fun i hi => absurd hi (Nat.not_lt_zero i)⟩, c5⟩
  · exact ⟨m1, m2, m3, ⟨rfl, fun i hi => absurd hi (Nat.not_lt_zero i)⟩, m5⟩
theorem eq_forget : EQ_forget := by
  intro v σ μ hI hRc hRm
  obtain ⟨c1, c2, c3, c4, c5⟩ := id hRc
  obtain ⟨m1, m2, m3, m4, m5⟩ := id hRm
  obtain ⟨j1, j2, j3, j4, j5, j6, j7, j8, j9, j10, j11⟩ := id hI
  refine diff (v' := vs v 0 (updN (v 0) 3 0)) (σ' := s1 σ 43 5 0) (μ' := s1 μ 0 28 0) (o := nI (v 0 3)) ?_ ?_ ?_ ?_ ?_
  · unfold pX10_forget; rw [c5.1]; rfl
  · unfold pX11_forget; rw [m5.1]; rfl
  · exact ⟨j1, j2, j3, j4, j5, j6, j7, j8, Nat.zero_le _, fun i hi => absurd hi (Nat.not_lt_zero i), j11⟩
  · exact ⟨c1, c2, c3, c4, ⟨rfl, fun i hi => absurd hi (Nat.not_lt_zero i)⟩⟩
  · exact ⟨m1, m2, m3, m4, ⟨rfl, fun i hi => absurd hi (Nat.not_lt_zero i)⟩⟩
theorem eq_hears : EQ_hears := by
  intro v σ μ a1 a2 hI hRc hRm
  obtain ⟨c1, c2, c3, c4, c5⟩ := id hRc
  obtain ⟨m1, m2, m3, m4, m5⟩ := id hRm
  obtain ⟨j1, j2, j3, j4, j5, j6, j7, j8, j9, j10, j11⟩ := id hI
  unfold pX10_hears pX11_hears pX10_isNoForce pX11_isStorm
  rcases o1 a1 (H := 99) 99 rfl (by decide) with ⟨h1, f, rfl, hf1, hf⟩ | ⟨h1, -⟩
  · rw [if_pos h1, if_neg (show ¬ pX11_in (nI f) 1 99 = 0 by rw [in_yes h1]; decide)]
    rcases o0 a2 (H := 1) 1 rfl (by decide) with ⟨h2, s, rfl, hs⟩ | ⟨h2, -⟩
    · unfold pX1_takes
      rw [if_pos h2, if_neg (show ¬ pX11_in (nI s) 0 1 = 0 by rw [in_yes h2]; decide), c5.1, m5.1]
      by_cases hn : v 0 3 = 6
      · refine same hI hRc hRm (o := -3) ?_ ?_
        · rw [hn, if_neg (by decide)]; rfl
        · rw [hn, if_pos (by decide)]
      · refine diff (v' := vs (vs (vs v 14 (updN (v 14) (v 0 3) f)) 15 (updN (v 15) (v 0 3) s)) 0 (updN (v 0) 3 (v 0 3 + 1))) (σ' := s1 (sA (sA σ 44 (upd (σ 44) (v 0 3) (nI f))) 45 (upd (σ 45) (v 0 3) (nI s))) 43 5 (nI (v 0 3 + 1))) (μ' := s1 (s1 (s1 μ 20 (v 0 3) (nI f)) 21 (v 0 3) (nI s)) 0 28 (nI (v 0 3 + 1))) (o := nI (v 0 3 + 1)) ?_ ?_ ?_ ?_ ?_
        · rw [if_pos (show nI (v 0 3) < (6 : Int32) from nI_lt (b := 6) (by omega) (by decide)), put_nI (by omega) (by decide)]
          show (Option.bind (some (1, s1 (sA (sA σ 44 (upd (σ 44) (v 0 3) (nI f))) 45 (pX10_put (σ 45) 6 (σ 43 5) (nI s))) 43 5 (σ 43 5 + 1))) _) = _
          rw [c5.1, nI_1, put_nI (by omega) (by decide)]
          rfl
        · rw [if_neg (show ¬ nI (v 0 3) = (6 : Int32) from fun e => hn ((nI_eq (b := 6) (by omega) (by decide)).mp e)), wr_nI (by omega) (by decide)]
          show Option.bind (wrA (s1 μ 20 (v 0 3) (nI f)) 21 6 (μ 0 28) (nI s)) _ = _
          rw [m5.1, wr_nI (by omega) (by decide)]
          show some ((s1 (s1 (s1 μ 20 (v 0 3) (nI f)) 21 (v 0 3) (nI s)) 0 28 (μ 0 28 + 1)) 0 28, s1 (s1 (s1 μ 20 (v 0 3) (nI f)) 21 (v 0 3) (nI s)) 0 28 (μ 0 28 + 1)) = _
          rw [m5.1, nI_1]
          rfl
        · refine ⟨j1, j2, j3, j4, j5, j6, j7, j8, show v 0 3 + 1 ≤ 6 by omega, ?_, j11⟩
          intro i hi
          have hi : i < v 0 3 + 1 := hi
          show 1 ≤ updN (v 14) (v 0 3) f i ∧ updN (v 14) (v 0 3) f i ≤ 99 ∧ updN (v 15) (v 0 3) s i ≤ 1
          by_cases e : i = v 0 3
          · rw [e, updN_s, updN_s]; omega
          · rw [updN_n e, updN_n e]; exact j10 i (by omega)
        · refine ⟨c1, c2, c3, c4, ⟨rfl, ?_⟩⟩
          intro i hi
          have hi : i < v 0 3 + 1 := hi
          show upd (σ 44) (v 0 3) (nI f) i = nI (updN (v 14) (v 0 3) f i) ∧ upd (σ 45) (v 0 3) (nI s) i = nI (updN (v 15) (v 0 3) s i)
          by_cases e : i = v 0 3
          · rw [e, updN_s, pk_us, updN_s, pk_us]; exact ⟨rfl, rfl⟩
          · rw [updN_n e, pk_un e, updN_n e, pk_un e]; exact c5.2 i (by omega)
        · refine ⟨m1, m2, m3, m4, ⟨rfl, ?_⟩⟩
          intro i hi
          have hi : i < v 0 3 + 1 := hi
          show upd (μ 20) (v 0 3) (nI f) i = nI (updN (v 14) (v 0 3) f i) ∧ upd (μ 21) (v 0 3) (nI s) i = nI (updN (v 15) (v 0 3) s i)
          by_cases e : i = v 0 3
          · rw [e, updN_s, pk_us, updN_s, pk_us]; exact ⟨rfl, rfl⟩
          · rw [updN_n e, pk_un e, updN_n e, pk_un e]; exact m5.2 i (by omega)
    · refine same hI hRc hRm (o := -1) ?_ ?_
      · rw [if_neg (show ¬ pX10_isOutside a2 0 1 = 0 by rw [h2]; decide)]
      · rw [if_pos (in_no h2)]
  · refine same hI hRc hRm (o := -1) ?_ ?_
    · rw [if_neg (show ¬ pX10_isOutside a1 1 99 = 0 by rw [h1]; decide)]
    · rw [if_pos (in_no h1)]
theorem popN_le (n : Nat) : popN n ≤ 8 := by
  have := sumN_le (n := 8) (c := 1) (f := fun k => if n.testBit k then 1 else 0) (fun k _ => by show (if n.testBit k then 1 else 0) ≤ 1; split <;> omega)
  unfold popN
  omega
theorem m_bits {n : Nat} (hn : n < 2 ^ 31) : pX11_bitsOf (nI n) = some (nI (popN n)) := by
  unfold pX11_bitsOf
  have key := loop_up (fun k (s : Int32 × Int32) => pX11_bitsOf_L4 (nI n) k s.1 s.2) (fun i => (nI (sumN (fun k => if n.testBit k then 1 else 0) i), nI i)) 8 (some (nI (popN n)))
    (by
      intro k i hi
      show pX11_bitsOf_L4 (nI n) (k + 1) (nI _) (nI i) = pX11_bitsOf_L4 (nI n) k (nI _) (nI (i + 1))
      rw [pX11_bitsOf_L4, if_neg (show ¬ (8 : Int32) ≤ nI i from nI_ge (b := 8) hi (by decide)), pk_shrN hn (nI i &&& 31) i (s_l i (by omega)), show (1 : Int32) = nI 1 from rfl, fa_and, Nat.and_one_is_mod, nI_add, nI_add, sumN]
      simp only [Option.bind_some]
      rw [show (if n.testBit i then 1 else 0) = n / 2 ^ i % 2 by
        rw [Nat.testBit_eq_decide_div_mod_eq]
        by_cases q : n / 2 ^ i % 2 = 1
        · simp [q]
        · rw [if_neg (by simp [q])]; omega])
    (by
      intro k
      show pX11_bitsOf_L4 (nI n) (k + 1) (nI _) (nI 8) = _
      rw [pX11_bitsOf_L4, if_pos (show (8 : Int32) ≤ nI 8 from nI_le (Nat.le_refl 8) (by decide))]
      rfl) 8 0 2000 (by omega) (by omega)
  have key : pX11_bitsOf_L4 (nI n) 2000 0 0 = some (nI (popN n)) := key
  rw [key]
  rfl
theorem eq_count : EQ_count := by
  intro v σ μ a1 hI hRc hRm
  have hN := hI.1
  have hc := hRc.1
  have hm := hRm.1
  have h6 := hN.1
  have hs := hI.2.2.2.2.2.2.2.2.2.2
  unfold pX10_count pX11_count
  by_cases k0 : a1 = 0
  · refine ⟨nI (v 0 0), ?_, ?_⟩
    · rw [if_pos k0, m_nr hm]; rfl
    · rw [if_pos k0, hc.1]
  by_cases k1 : a1 = 1
  · refine ⟨nI (v 0 1), ?_, ?_⟩
    · rw [if_neg k0, if_pos k1, m_na hm]; rfl
    · rw [if_neg k0, if_pos k1, hc.2.1]
  by_cases k2 : a1 = 2
  · refine ⟨nI (v 0 5), ?_, ?_⟩
    · have key := loop_up (fun n (s : Int32 × Int32) => pX11_count_L56 μ n s.1 s.2) (fun i => (nI (sumN (fun r => popN (v 6 r)) i), nI i)) (v 0 0) (some (nI (2 * v 0 5)))
        (by
          intro n i hi
          show pX11_count_L56 μ (n + 1) (nI _) (nI i) = pX11_count_L56 μ n (nI _) (nI (i + 1))
          have q := hN.2.2.2.2.1 i (by omega)
          rw [pX11_count_L56]
          simp only [m_nr hm, Option.bind_some, m_rop hm (show i < 6 by omega), m_bits (show v 6 i < 2 ^ 31 by omega)]
          rw [if_neg (nI_ge hi (by omega)), nI_1, nI_add]
          rfl)
        (by
          intro n
          show pX11_count_L56 μ (n + 1) (nI _) (nI (v 0 0)) = _
          rw [pX11_count_L56]
          simp only [m_nr hm, Option.bind_some]
          rw [if_pos (nI_le (Nat.le_refl _) (by omega)), hs]) (v 0 0) 0 2000 (by omega) (by omega)
      have key : pX11_count_L56 μ 2000 0 0 = some (nI (2 * v 0 5)) := key
      have hb : sumN (fun r => popN (v 6 r)) (v 0 0) ≤ v 0 0 * 8 := sumN_le (fun k _ => popN_le _)
      rw [if_neg k0, if_neg k1, if_pos k2, key, Option.bind_some, show (2 : Int32) = nI 2 from rfl, div_nI (by omega) (by omega) (by omega), Nat.mul_div_cancel_left _ (by omega)]
      rfl
    · rw [if_neg k0, if_neg k1, if_pos k2, hc.2.2.1]
  by_cases k3 : a1 = 3
  · refine ⟨nI (v 0 3), ?_, ?_⟩
    · rw [if_neg k0, if_neg k1, if_neg k2, if_pos k3, hRm.2.2.2.2.1]
    · rw [if_neg k0, if_neg k1, if_neg k2, if_pos k3, hRc.2.2.2.2.1]
  by_cases k4 : a1 = 4
  · refine ⟨nI (v 0 4), ?_, ?_⟩
    · rw [if_neg k0, if_neg k1, if_neg k2, if_neg k3, if_pos k4, show (0 : Int32) = nI 0 from rfl, rd_nI (by decide) (by decide), hRm.2.1.1]; rfl
    · rw [if_neg k0, if_neg k1, if_neg k2, if_neg k3, if_pos k4, hRc.2.1.1]
  by_cases k5 : a1 = 5
  · refine ⟨nI (v 0 2), ?_, ?_⟩
    · rw [if_neg k0, if_neg k1, if_neg k2, if_neg k3, if_neg k4, if_pos k5, hRm.2.2.2.1.1]
    · rw [if_neg k0, if_neg k1, if_neg k2, if_neg k3, if_neg k4, if_pos k5, hRc.2.2.2.1.1]
  · refine ⟨-1, ?_, ?_⟩
    · rw [if_neg k0, if_neg k1, if_neg k2, if_neg k3, if_neg k4, if_neg k5]
    · rw [if_neg k0, if_neg k1, if_neg k2, if_neg k3, if_neg k4, if_neg k5]
end G
