/-! the items of the text: anchors, ropes -/
section G
variable {σ μ : Sg} {v d : Vw}
theorem anchor_sim (hv : txtOK v) {p : Nat} (h : TS v σ μ p true) (hC : DC σ d) (hM : DM μ d) (hI : DI d) (h8 : d 0 1 < 8) : Res v σ μ p (pX7_readAnchor σ) (pX11_item μ 97) := by
  have h6 := hI.1.1
  obtain ⟨x1, y1, f1, g1, p1, o1', c1, m1, t1, q1, w1, z1⟩ := num_sim hv h 0 (nI (d 0 0) - 1)
  have t1' : TS v (sA σ 33 f1) (s1 (sA μ 0 g1) 8 (8 + d 0 1) y1) p1 o1' := TS_m rfl rfl t1
  obtain ⟨x2, y2, f2, g2, p2, o2', c2, m2, t2, q2, w2, z2⟩ := num_sim hv t1' 0 9
  have t2' : TS v (sA (sA σ 33 f1) 33 f2) (s1 (sA (s1 (sA μ 0 g1) 8 (8 + d 0 1) y1) 0 g2) 9 (8 + d 0 1) y2) p2 o2' := TS_m rfl rfl t2
  obtain ⟨x3, y3, f3, g3, p3, o3', c3, m3, t3, q3, w3, z3⟩ := num_sim hv t2' 1 9
  have t3' : TS v (sA (sA (sA σ 33 f1) 33 f2) 33 f3) (s1 (sA (s1 (sA (s1 (sA μ 0 g1) 8 (8 + d 0 1) y1) 0 g2) 9 (8 + d 0 1) y2) 0 g3) 10 (8 + d 0 1) y3) p3 o3' := TS_m rfl rfl t3
  obtain ⟨x4, y4, f4, g4, p4, o4', c4, m4, t4, q4, w4, z4⟩ := num_sim hv t3' 1 60
  have t4' : TS v (sA (sA (sA (sA σ 33 f1) 33 f2) 33 f3) 33 f4) (s1 (sA (s1 (sA (s1 (sA (s1 (sA μ 0 g1) 8 (8 + d 0 1) y1) 0 g2) 9 (8 + d 0 1) y2) 0 g3) 10 (8 + d 0 1) y3) 0 g4) 11 (8 + d 0 1) y4) p4 o4' := TS_m rfl rfl t4
  obtain ⟨x5, y5, f5, g5, p5, o5', c5, m5, t5, q5, w5, z5⟩ := num_sim hv t4' 0 99
  obtain ⟨σ5, hσ5⟩ : ∃ s, s = sA (sA (sA (sA (sA σ 33 f1) 33 f2) 33 f3) 33 f4) 33 f5 := ⟨_, rfl⟩
  obtain ⟨μ5, hμ5⟩ : ∃ s, s = s1 (s1 (sA (s1 (sA (s1 (sA (s1 (sA (s1 (sA μ 0 g1) 8 (8 + d 0 1) y1) 0 g2) 9 (8 + d 0 1) y2) 0 g3) 10 (8 + d 0 1) y3) 0 g4) 11 (8 + d 0 1) y4) 0 g5) 12 (8 + d 0 1) y5) 7 1 (nI (d 0 1 + 1)) := ⟨_, rfl⟩
  have t5' : TS v σ5 μ5 p5 o5' := by
    rw [hσ5, hμ5]
    exact TS_m rfl rfl t5
  have a1 : AC σ σ5 := by
    rw [hσ5]
    exact AC_t (AC_33 q1) (AC_t (AC_33 q2) (AC_t (AC_33 q3) (AC_t (AC_33 q4) (AC_33 q5))))
  have b1 : AM μ μ5 := by
    rw [hμ5]
    exact AM_t (AM_0 (fun i hi => w1 i (by omega))) (AM_t (AM_1 (by unfold dM; omega)) (AM_t (AM_0 (fun i hi => w2 i (by omega))) (AM_t (AM_1 (by unfold dM; omega)) (AM_t (AM_0 (fun i hi => w3 i (by omega))) (AM_t (AM_1 (by unfold dM; omega)) (AM_t (AM_0 (fun i hi => w4 i (by omega))) (AM_t (AM_1 (by unfold dM; omega)) (AM_t (AM_0 (fun i hi => w5 i (by omega))) (AM_t (AM_1 (by unfold dM; omega)) (AM_1 (by unfold dM; omega)))))))))))
  have k18 : μ5 0 18 = μ 0 18 := by
    rw [hμ5]
    show g5 18 = μ 0 18
    exact (w5 18 (by decide)).trans ((w4 18 (by decide)).trans ((w3 18 (by decide)).trans ((w2 18 (by decide)).trans (w1 18 (by decide)))))
  have ew : pX11_item μ 97 = some μ5 := by
    unfold pX11_item
    rw [if_pos rfl]
    have e1 : rdA μ 7 2 1 = some (nI (d 0 1)) := by
      rw [show (1 : Int32) = nI 1 from rfl, rd_nI (by decide) (by decide), hM.2.1]
    have e2 : rdA μ 4 2 1 = some (nI (d 0 0)) := by
      rw [show (1 : Int32) = nI 1 from rfl, rd_nI (by decide) (by decide), hM.1]
    refine (bnd e1).trans ((bnd rfl).trans ((bnd e2).trans ((bnd m1).trans ?_)))
    rw [show (8 : Int32) + nI (d 0 1) = nI (8 + d 0 1) from nI_add 8 _]
    refine (bnd (wr_nI (by omega) (by decide))).trans ((bnd m2).trans ((bnd (wr_nI (by omega) (by decide))).trans ((bnd m3).trans ((bnd (wr_nI (by omega) (by decide))).trans ((bnd m4).trans ((bnd (wr_nI (by omega) (by decide))).trans ((bnd m5).trans ((bnd (wr_nI (by omega) (by decide))).trans ?_))))))))
    have e3 : rdA (s1 (sA (s1 (sA (s1 (sA (s1 (sA (s1 (sA μ 0 g1) 8 (8 + d 0 1) y1) 0 g2) 9 (8 + d 0 1) y2) 0 g3) 10 (8 + d 0 1) y3) 0 g4) 11 (8 + d 0 1) y4) 0 g5) 12 (8 + d 0 1) y5) 7 2 1 = some (nI (d 0 1)) := by
      rw [show (1 : Int32) = nI 1 from rfl, rd_nI (by decide) (by decide)]
      exact congrArg some hM.2.1
    refine (bnd e3).trans ?_
    rw [nI_1, show (1 : Int32) = nI 1 from rfl, wr_nI (by decide) (by decide), Option.bind_some, hμ5]
  obtain ⟨f6, g6, p6, o6', s1', s2', s3', s4', s5', s6'⟩ := stop_sim hv t5'
  have b2 : AM μ (sA μ5 0 g6) := AM_t b1 (AM_0 (fun i hi => s5' i (by omega)))
  have k6 : g6 18 = μ 0 18 := (s5' 18 (by decide)).trans k18
  have ec : pX7_readAnchor σ = if (if o6' then (1 : Int32) else 0) = 0 then some (sA σ5 33 f6) else (pX9_addAnchor (sA σ5 33 f6) x1 x2 x3 x4 x5).bind fun u17 => some u17 := by
    unfold pX7_readAnchor
    rw [hC.2.1, if_pos (show nI (d 0 1) < 8 from nI_lt (b := 8) h8 (by decide)), Option.bind_some, hC.1]
    rw [hσ5] at s1' ⊢
    exact (bnd c1).trans ((bnd c2).trans ((bnd c3).trans ((bnd c4).trans ((bnd c5).trans (bnd s1')))))
  cases o6'
  · exact ⟨_, _, _, p6, false, d, ec.trans (if_pos (by decide)), ew, s2', s3', AC_t a1 (AC_33 s4'), b2, k6, fun z => by cases z⟩
  · obtain ⟨u5, hp6⟩ := s6' rfl
    obtain ⟨u4, hp5, n5, rfl, rfl, l5, i5⟩ := z5 u5
    obtain ⟨u3, hp4, n4, rfl, rfl, l4, i4⟩ := z4 u4
    obtain ⟨u2, hp3, n3, rfl, rfl, l3, i3⟩ := z3 u3
    obtain ⟨u1, hp2, n2, rfl, rfl, l2, i2⟩ := z2 u2
    obtain ⟨-, hp1, n1, rfl, rfl, l1, i1⟩ := z1 u1
    have j1 := out_r i1 l1 (by omega)
    have j2 := out_n (l := 0) (h := 9) i2 l2 (by decide) (by decide)
    have j3 := out_n (l := 1) (h := 9) i3 l3 (by decide) (by decide)
    have j4 := out_n (l := 1) (h := 60) i4 l4 (by decide) (by decide)
    have j5 := out_n (l := 0) (h := 99) i5 l5 (by decide) (by decide)
    have cell : ∀ c, 10 ≤ c ∧ c ≤ 18 → (sA σ5 33 f6) c = σ c := fun c hc => by
      rw [hσ5, sA_ne (by omega), sA_ne (by omega), sA_ne (by omega), sA_ne (by omega), sA_ne (by omega), sA_ne (by omega)]
    obtain ⟨d1, d2, d3, d4, d5, d6, d7, d8, d9, d10⟩ := id hC
    refine ⟨s1 (sA (sA (sA (sA (sA (sA σ5 33 f6) 13 (upd (σ 13) (d 0 1) (nI n1))) 14 (upd (σ 14) (d 0 1) (nI n3))) 15 (upd (σ 15) (d 0 1) (nI n5))) 18 (upd (σ 18) (d 0 1) (nI n2))) 18 (upd (upd (σ 18) (d 0 1) (nI n2)) (8 + d 0 1) (nI n4))) 10 8 (nI (d 0 1 + 1)), _, _, p6, true, vs (vs (vs (vs (vs d 3 (updN (d 3) (d 0 1) n1)) 4 (updN (d 4) (d 0 1) n3)) 5 (updN (d 5) (d 0 1) n5)) 7 (updN (updN (d 7) (d 0 1) n2) (8 + d 0 1) n4)) 0 (updN (d 0) 1 (d 0 1 + 1)), ?_, ew, s2', TS_c rfl rfl s3', AC_t a1 (AC_t (AC_33 s4') (AC_t (AC_A (by decide)) (AC_t (AC_A (by decide)) (AC_t (AC_A (by decide)) (AC_t (AC_A (by decide)) (AC_t (AC_A (by decide)) (AC_A (by decide)))))))), b2, k6, fun _ => ⟨by omega, ?_, ?_, ?_⟩⟩
    · rw [ec, if_neg (by decide)]
      unfold pX9_addAnchor pX5_set
      have f108 : (sA σ5 33 f6) 10 8 = nI (d 0 1) := by rw [cell 10 (by decide), d2]
      refine (bnd ?_).trans rfl
      refine (bnd (a := sA (sA σ5 33 f6) 13 (upd (σ 13) (d 0 1) (nI n1))) ?_).trans ?_
      · rw [f108, cell 13 (by decide), put_nI (by omega) (by decide)]
      refine (bnd (a := sA (sA (sA σ5 33 f6) 13 (upd (σ 13) (d 0 1) (nI n1))) 14 (upd (σ 14) (d 0 1) (nI n3))) ?_).trans ?_
      · show some (sA _ 14 (pX10_put ((sA σ5 33 f6) 14) 8 ((sA σ5 33 f6) 10 8) (nI n3))) = _
        rw [f108, cell 14 (by decide), put_nI (by omega) (by decide)]
      refine (bnd (a := sA (sA (sA (sA σ5 33 f6) 13 (upd (σ 13) (d 0 1) (nI n1))) 14 (upd (σ 14) (d 0 1) (nI n3))) 15 (upd (σ 15) (d 0 1) (nI n5))) ?_).trans ?_
      · show some (sA _ 15 (pX10_put ((sA σ5 33 f6) 15) 8 ((sA σ5 33 f6) 10 8) (nI n5))) = _
        rw [f108, cell 15 (by decide), put_nI (by omega) (by decide)]
      refine (bnd (a := sA (sA (sA (sA (sA σ5 33 f6) 13 (upd (σ 13) (d 0 1) (nI n1))) 14 (upd (σ 14) (d 0 1) (nI n3))) 15 (upd (σ 15) (d 0 1) (nI n5))) 18 (upd (σ 18) (d 0 1) (nI n2))) ?_).trans ?_
      · show Option.bind (some (sA _ 18 (pX10_put ((sA σ5 33 f6) 18) 45 (0 + (sA σ5 33 f6) 10 8) (nI n2)))) _ = _
        rw [f108, cell 18 (by decide), show (0 : Int32) + nI (d 0 1) = nI (0 + d 0 1) from nI_add 0 _, Nat.zero_add, put_nI (by omega) (by decide)]
        rfl
      refine (bnd (a := sA (sA (sA (sA (sA (sA σ5 33 f6) 13 (upd (σ 13) (d 0 1) (nI n1))) 14 (upd (σ 14) (d 0 1) (nI n3))) 15 (upd (σ 15) (d 0 1) (nI n5))) 18 (upd (σ 18) (d 0 1) (nI n2))) 18 (upd (upd (σ 18) (d 0 1) (nI n2)) (8 + d 0 1) (nI n4))) ?_).trans ?_
      · show Option.bind (some (sA _ 18 (pX10_put (upd (σ 18) (d 0 1) (nI n2)) 45 (8 + (sA σ5 33 f6) 10 8) (nI n4)))) _ = _
        rw [f108, show (8 : Int32) + nI (d 0 1) = nI (8 + d 0 1) from nI_add 8 _, put_nI (by omega) (by decide)]
        rfl
      show some (s1 _ 10 8 ((sA σ5 33 f6) 10 8 + 1)) = _
      rw [f108, nI_1]
    · refine ⟨?_, rfl, ?_, fun x hx => ?_, fun x hx => ?_, fun a ha => ?_, fun a ha => ?_, fun a ha => ?_, fun r hr => ?_, fun i hi => ?_⟩
      · show (sA σ5 33 f6) 10 7 = _
        rw [cell 10 (by decide)]; exact d1
      · show (sA σ5 33 f6) 10 9 = _
        rw [cell 10 (by decide)]; exact d3
      · show (sA σ5 33 f6) 11 x = _
        rw [cell 11 (by decide)]; exact d4 x hx
      · show (sA σ5 33 f6) 12 x = _
        rw [cell 12 (by decide)]; exact d5 x hx
      · have ha : a < d 0 1 + 1 := ha
        show upd (σ 13) (d 0 1) (nI n1) a = nI (updN (d 3) (d 0 1) n1 a)
        by_cases e : a = d 0 1
        · rw [e, pk_us, updN_s]
        · rw [pk_un e, updN_n e]; exact d6 a (by omega)
      · have ha : a < d 0 1 + 1 := ha
        show upd (σ 14) (d 0 1) (nI n3) a = nI (updN (d 4) (d 0 1) n3 a)
        by_cases e : a = d 0 1
        · rw [e, pk_us, updN_s]
        · rw [pk_un e, updN_n e]; exact d7 a (by omega)
      · have ha : a < d 0 1 + 1 := ha
        show upd (σ 15) (d 0 1) (nI n5) a = nI (updN (d 5) (d 0 1) n5 a)
        by_cases e : a = d 0 1
        · rw [e, pk_us, updN_s]
        · rw [pk_un e, updN_n e]; exact d8 a (by omega)
      · show (sA σ5 33 f6) 16 r = _
        rw [cell 16 (by decide)]; exact d9 r hr
      · show upd (upd (σ 18) (d 0 1) (nI n2)) (8 + d 0 1) (nI n4) i = nI (updN (updN (d 7) (d 0 1) n2) (8 + d 0 1) n4 i)
        exact upd_nI (upd_nI (d10 i hi))
    · obtain ⟨r1, r2, r3, r4, r5, r6, r7, r8, r9, r10, r11⟩ := hM
      have key : ∀ (F G : Nat → Int32) (j : Nat) (n : Nat) (D : Nat → Nat), F = upd G (8 + d 0 1) (nI n) → (∀ a, a < d 0 1 → G (8 + a) = nI (D (j + a))) → ∀ a, a < d 0 1 + 1 → F (8 + a) = nI (updN D (j + d 0 1) n (j + a)) := by
        intro F G j n D hF hG a ha
        rw [hF]
        by_cases e : a = d 0 1
        · rw [e, pk_us, updN_s]
        · rw [pk_un (by omega), updN_n (by omega)]; exact hG a (by omega)
      rw [hμ5]
      refine ⟨r1, rfl, r3, r4, fun a ha => ?_, fun a ha => ?_, fun a ha => ?_, fun a ha => ?_, fun a ha => ?_, r10, fun r hr => ?_⟩
      · have := key _ (μ 8) 0 n1 (d 3) rfl (fun a ha => by rw [Nat.zero_add]; exact r5 a ha) a ha
        rw [Nat.zero_add, Nat.zero_add] at this
        exact this
      · have := key _ (μ 10) 0 n3 (d 4) rfl (fun a ha => by rw [Nat.zero_add]; exact r6 a ha) a ha
        rw [Nat.zero_add, Nat.zero_add] at this
        exact this
      · have := key _ (μ 12) 0 n5 (d 5) rfl (fun a ha => by rw [Nat.zero_add]; exact r7 a ha) a ha
        rw [Nat.zero_add, Nat.zero_add] at this
        exact this
      · have ha : a < d 0 1 + 1 := ha
        have := key _ (μ 9) 0 n2 (d 7) rfl (fun a ha => by rw [Nat.zero_add]; exact r8 a ha) a ha
        rw [Nat.zero_add, Nat.zero_add] at this
        show upd (μ 9) (8 + d 0 1) (nI n2) (8 + a) = nI (updN (updN (d 7) (d 0 1) n2) (8 + d 0 1) n4 a)
        rw [updN_n (by omega)]
        exact this
      · have ha : a < d 0 1 + 1 := ha
        refine key _ (μ 11) 8 n4 (updN (d 7) (d 0 1) n2) rfl (fun a ha => ?_) a ha
        rw [updN_n (by omega)]
        exact r9 a ha
      · show μ 5 (6 + r) = nI (updN (updN (d 7) (d 0 1) n2) (8 + d 0 1) n4 (32 + r))
        rw [updN_n (by omega), updN_n (by omega)]
        exact r11 r hr
    · obtain ⟨⟨k1, k2, k3, k4, k5, k6'⟩, ⟨hz1, hz2, hz3⟩, hr⟩ := hI
      refine ⟨⟨k1, show d 0 1 + 1 ≤ 8 by omega, k3, fun a ha => ?_, k5, ?_⟩, ⟨fun i hi hi2 => ?_, fun r hr1 hr2 => ?_, fun a ha1 ha2 => ?_⟩, hr⟩
      · have ha : a < d 0 1 + 1 := ha
        show updN (d 3) (d 0 1) n1 a < d 0 0 ∧ updN (d 4) (d 0 1) n3 a ≤ 9 ∧ updN (d 5) (d 0 1) n5 a ≤ 99
        by_cases e : a = d 0 1
        · rw [e, updN_s, updN_s, updN_s]; omega
        · rw [updN_n e, updN_n e, updN_n e]; exact k4 a (by omega)
      · exact row_set (row_set k6' (fun _ => by omega) (by omega) (by omega) (by omega) (by omega) (by omega) (by omega)) (by omega) (fun _ _ => by omega) (by omega) (by omega) (by omega) (by omega) (by omega)
      · show updN (updN (d 7) (d 0 1) n2) (8 + d 0 1) n4 i = 0
        rw [updN_n (by omega), updN_n (by omega)]
        exact hz1 i hi hi2
      · show updN (updN (d 7) (d 0 1) n2) (8 + d 0 1) n4 (32 + r) = 0
        rw [updN_n (by omega), updN_n (by omega)]
        exact hz2 r hr1 hr2
      · have ha1 : d 0 1 + 1 ≤ a := ha1
        show updN (updN (d 7) (d 0 1) n2) (8 + d 0 1) n4 a = 0 ∧ updN (updN (d 7) (d 0 1) n2) (8 + d 0 1) n4 (8 + a) = 0
        rw [updN_n (by omega), updN_n (by omega), updN_n (by omega), updN_n (by omega)]
        exact hz3 a (by omega) ha2
end G
