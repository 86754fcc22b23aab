/-! the items of the text: both readers draft the same town -/
def DC (σ : Sg) (d : Vw) : Prop := σ 10 7 = nI (d 0 0) ∧ σ 10 8 = nI (d 0 1) ∧ σ 10 9 = nI (d 0 5) ∧ (∀ x, x < 10 → σ 11 x = nI (d 1 x)) ∧ (∀ x, x < 10 → σ 12 x = nI (d 2 x)) ∧ (∀ a, a < d 0 1 → σ 13 a = nI (d 3 a)) ∧ (∀ a, a < d 0 1 → σ 14 a = nI (d 4 a)) ∧ (∀ a, a < d 0 1 → σ 15 a = nI (d 5 a)) ∧ (∀ r, r < 6 → σ 16 r = nI (d 6 r)) ∧ ∀ i, i < 45 → σ 18 i = nI (d 7 i)
def DM (μ : Sg) (d : Vw) : Prop := μ 4 1 = nI (d 0 0) ∧ μ 7 1 = nI (d 0 1) ∧ (∀ x, x < 10 → μ 2 (10 + x) = nI (d 1 x)) ∧ (∀ x, x < 10 → μ 3 (10 + x) = nI (d 2 x)) ∧ (∀ a, a < d 0 1 → μ 8 (8 + a) = nI (d 3 a)) ∧ (∀ a, a < d 0 1 → μ 10 (8 + a) = nI (d 4 a)) ∧ (∀ a, a < d 0 1 → μ 12 (8 + a) = nI (d 5 a)) ∧ (∀ a, a < d 0 1 → μ 9 (8 + a) = nI (d 7 a)) ∧ (∀ a, a < d 0 1 → μ 11 (8 + a) = nI (d 7 (8 + a))) ∧ (∀ r, r < 6 → μ 6 (6 + r) = nI (d 6 r)) ∧ ∀ r, r < d 0 0 → μ 5 (6 + r) = nI (d 7 (32 + r))
def DZ (d : Vw) : Prop := (∀ i, i < 45 → (16 ≤ i ∧ i < 32 ∨ 38 ≤ i) → d 7 i = 0) ∧ (∀ r, d 0 0 ≤ r → r < 6 → d 7 (32 + r) = 0) ∧ (∀ a, d 0 1 ≤ a → a < 8 → d 7 a = 0 ∧ d 7 (8 + a) = 0)
def DR (d : Vw) : Prop := (∀ r, d 0 0 ≤ r → r < 6 → d 6 r = 0) ∧ (∀ a b, a < 6 → b < 6 → (d 6 a).testBit b = (d 6 b).testBit a) ∧ sumN (fun r => popN (d 6 r)) (d 0 0) = 2 * d 0 5
def DI (d : Vw) : Prop := InvN d ∧ DZ d ∧ DR d
def Res (v : Vw) (σ μ : Sg) (p : Nat) (C M : Option Sg) : Prop := ∃ (σ' μ1 μ2 : Sg) (p' : Nat) (ok' : Bool) (d' : Vw), C = some σ' ∧ M = some μ1 ∧ dueS μ1 = some μ2 ∧ TS v σ' μ2 p' ok' ∧ AC σ σ' ∧ AM μ μ2 ∧ μ2 0 18 = μ 0 18 ∧ (ok' = true → p < p' ∧ DC σ' d' ∧ DM μ2 d' ∧ DI d')
theorem TS_m {v : Vw} {σ μ μ' : Sg} {p : Nat} {ok : Bool} (h0 : μ' 0 = μ 0) (h1 : μ' 1 = μ 1) (h : TS v σ μ p ok) : TS v σ μ' p ok := by
  cases ok
  · unfold TS TX at h ⊢
    rw [h0, h1]; exact h
  · unfold TS TX at h ⊢
    rw [h0, h1]; exact h
theorem TS_c {v : Vw} {σ σ' μ : Sg} {p : Nat} {ok : Bool} (h0 : σ' 33 = σ 33) (h1 : σ' 34 = σ 34) (h : TS v σ μ p ok) : TS v σ' μ p ok := by
  cases ok
  · unfold TS TX at h ⊢
    rw [h0, h1]; exact h
  · unfold TS TX at h ⊢
    rw [h0, h1]; exact h
theorem out_n {n l h : Nat} (e : pX10_isOutside (nI n) (nI l) (nI h) = 0) (hn : n < 2 ^ 31) (hl : l < 2 ^ 31) (hh : h < 2 ^ 31) : l ≤ n ∧ n ≤ h := by
  rw [out_nI hn hh hl] at e
  by_cases q : l ≤ n ∧ n ≤ h
  · exact q
  · rw [if_neg q] at e
    exact absurd e (by decide)
theorem out_r {n R : Nat} (e : pX10_isOutside (nI n) 0 (nI R - 1) = 0) (hn : n < 2 ^ 31) (hR : R < 2 ^ 31) : n < R := by
  rcases out_lt (nI n) hR with ⟨-, k, h1, h2⟩ | ⟨h1, -⟩
  · rw [(nI_eq hn (by omega)).mp h1]; exact h2
  · rw [h1] at e
    exact absurd e (by decide)
section G
variable {σ μ : Sg} {v d : Vw}
theorem cell_sim (hv : txtOK v) {p : Nat} (h : TS v σ μ p true) (hC : DC σ d) (hM : DM μ d) (hI : DI d) : Res v σ μ p (pX7_readCell σ) (pX11_item μ 99) := by
  obtain ⟨x1, y1, f1, g1, p1, o1', c1, m1, t1, q1, w1, z1⟩ := num_sim hv h 0 9
  obtain ⟨x2, y2, f2, g2, p2, o2', c2, m2, t2, q2, w2, z2⟩ := num_sim hv t1 1 9
  obtain ⟨x3, y3, f3, g3, p3, o3', c3, m3, t3, q3, w3, z3⟩ := num_sim hv t2 0 3
  have a1 : AC σ (sA (sA (sA σ 33 f1) 33 f2) 33 f3) := AC_t (AC_33 q1) (AC_t (AC_33 q2) (AC_33 q3))
  have b1 : AM μ (sA (sA (sA μ 0 g1) 0 g2) 0 g3) := AM_t (AM_0 (fun i hi => w1 i (by omega))) (AM_t (AM_0 (fun i hi => w2 i (by omega))) (AM_0 (fun i hi => w3 i (by omega))))
  have k18 : g3 18 = μ 0 18 := (w3 18 (by decide)).trans ((w2 18 (by decide)).trans (w1 18 (by decide)))
  have ci : ∀ (P : Sg → Option Sg), pX7_stops (sA (sA (sA σ 33 f1) 33 f2) 33 f3) = pX7_stops (sA (sA (sA σ 33 f1) 33 f2) 33 f3) → True := fun _ _ => trivial
  have em : pX11_item μ 99 = if (sA (sA (sA μ 0 g1) 0 g2) 0 g3) 0 17 = 0 then (wrA (sA (sA (sA μ 0 g1) 0 g2) 0 g3) 2 20 (10 + y1) y2).bind fun σ37 => (wrA σ37 3 20 (10 + y1) y3).bind fun σ39 => some σ39 else some (sA (sA (sA μ 0 g1) 0 g2) 0 g3) := by
    unfold pX11_item
    rw [if_neg (show ¬ (99 : Int32) = 97 by decide), if_pos rfl]
    exact (bnd m1).trans ((bnd m2).trans (bnd m3))
  cases o3'
  · obtain ⟨f4, g4, p4, o4', s1', s2', s3', s4', s5', s6'⟩ := stop_sim hv t3
    have o4 : o4' = false := by
      cases o4'
      · rfl
      · exact absurd (s6' rfl).1 (by decide)
    subst o4
    have h17 : (sA (sA (sA μ 0 g1) 0 g2) 0 g3) 0 17 = 1 := t3.2.2.2.1
    refine ⟨_, _, _, p4, false, d, ?_, em.trans (by rw [h17, if_neg (by decide)]), s2', s3', AC_t a1 (AC_33 s4'), AM_t b1 (AM_0 (fun i hi => s5' i (by omega))), (s5' 18 (by decide)).trans k18, fun z => by cases z⟩
    unfold pX7_readCell
    refine (bnd c1).trans ((bnd c2).trans ((bnd c3).trans ((bnd s1').trans ?_)))
    exact if_pos (show (if false = true then (1 : Int32) else 0) = 0 from rfl)
  · obtain ⟨e2, hp3, n3, rfl, rfl, l3, i3⟩ := z3 rfl
    obtain ⟨e1, hp2, n2, rfl, rfl, l2, i2⟩ := z2 e2
    obtain ⟨-, hp1, n1, rfl, rfl, l1, i1⟩ := z1 e1
    have j1 := out_n (l := 0) (h := 9) i1 l1 (by decide) (by decide)
    have j2 := out_n (l := 1) (h := 9) i2 l2 (by decide) (by decide)
    have j3 := out_n (l := 0) (h := 3) i3 l3 (by decide) (by decide)
    have h17 : (sA (sA (sA μ 0 g1) 0 g2) 0 g3) 0 17 = 0 := t3.2.2.2.2.1
    have ew : pX11_item μ 99 = some (s1 (s1 (sA (sA (sA μ 0 g1) 0 g2) 0 g3) 2 (10 + n1) (nI n2)) 3 (10 + n1) (nI n3)) := by
      rw [em, if_pos h17, show (10 : Int32) + nI n1 = nI (10 + n1) from nI_add 10 n1, wr_nI (by omega) (by decide), Option.bind_some, wr_nI (by omega) (by decide)]
      rfl
    have t4 : TS v (sA (sA (sA σ 33 f1) 33 f2) 33 f3) (s1 (s1 (sA (sA (sA μ 0 g1) 0 g2) 0 g3) 2 (10 + n1) (nI n2)) 3 (10 + n1) (nI n3)) p3 true := TS_m rfl rfl t3
    obtain ⟨f4, g4, p4, o4', s1', s2', s3', s4', s5', s6'⟩ := stop_sim hv t4
    have b2 : AM μ (sA (s1 (s1 (sA (sA (sA μ 0 g1) 0 g2) 0 g3) 2 (10 + n1) (nI n2)) 3 (10 + n1) (nI n3)) 0 g4) := AM_t b1 (AM_t (AM_1 (by unfold dM; omega)) (AM_t (AM_1 (by unfold dM; omega)) (AM_0 (fun i hi => s5' i (by omega)))))
    have k4 : g4 18 = μ 0 18 := (s5' 18 (by decide)).trans k18
    cases o4'
    · refine ⟨_, _, _, p4, false, d, ?_, ew, s2', s3', AC_t a1 (AC_33 s4'), b2, k4, fun z => by cases z⟩
      unfold pX7_readCell
      refine (bnd c1).trans ((bnd c2).trans ((bnd c3).trans ((bnd s1').trans ?_)))
      exact if_pos (show (if false = true then (1 : Int32) else 0) = 0 from rfl)
    · have hp4 := (s6' rfl).2
      refine ⟨sA (sA (sA (sA (sA (sA σ 33 f1) 33 f2) 33 f3) 33 f4) 11 (upd (σ 11) n1 (nI n2))) 12 (upd (σ 12) n1 (nI n3)), _, _, p4, true, vs (vs d 1 (updN (d 1) n1 n2)) 2 (updN (d 2) n1 n3), ?_, ew, s2', TS_c rfl rfl s3', AC_t a1 (AC_t (AC_33 s4') (AC_t (AC_A (by decide)) (AC_A (by decide)))), b2, k4, fun _ => ⟨by omega, ?_, ?_, ?_⟩⟩
      · unfold pX7_readCell
        refine (bnd c1).trans ((bnd c2).trans ((bnd c3).trans ((bnd s1').trans ?_)))
        refine (if_neg (show ¬ (if true = true then (1 : Int32) else 0) = 0 by decide)).trans ?_
        show (some (sA (sA (sA (sA (sA σ 33 f1) 33 f2) 33 f3) 33 f4) 11 (pX10_put (σ 11) 10 (nI n1) (nI n2)))).bind (fun σ9 => (some (sA σ9 12 (pX10_put (σ9 12) 10 (nI n1) (nI n3)))).bind fun σ11 => some σ11) = _
        rw [put_nI (by omega) (by decide), Option.bind_some]
        show (some (sA _ 12 (pX10_put (σ 12) 10 (nI n1) (nI n3)))).bind (fun σ11 => some σ11) = _
        rw [put_nI (by omega) (by decide), Option.bind_some]
      · obtain ⟨d1, d2, d3, d4, d5, d6, d7, d8, d9, d10⟩ := hC
        exact ⟨d1, d2, d3, fun x hx => upd_nI (d4 x hx), fun x hx => upd_nI (d5 x hx), d6, d7, d8, d9, d10⟩
      · obtain ⟨d1, d2, d3, d4, d5, d6, d7, d8, d9, d10, d11⟩ := hM
        refine ⟨d1, d2, fun x hx => ?_, fun x hx => ?_, d5, d6, d7, d8, d9, d10, d11⟩
        · show upd (μ 2) (10 + n1) (nI n2) (10 + x) = nI (updN (d 1) n1 n2 x)
          by_cases e : x = n1
          · rw [e, pk_us, updN_s]
          · rw [pk_un (by omega), updN_n e, d3 x hx]
        · show upd (μ 3) (10 + n1) (nI n3) (10 + x) = nI (updN (d 2) n1 n3 x)
          by_cases e : x = n1
          · rw [e, pk_us, updN_s]
          · rw [pk_un (by omega), updN_n e, d4 x hx]
      · obtain ⟨⟨k1, k2, k3, k4, k5, k6⟩, hz, hr⟩ := hI
        refine ⟨⟨k1, k2, fun x hx => ?_, k4, k5, k6⟩, hz, hr⟩
        show 1 ≤ updN (d 1) n1 n2 x ∧ updN (d 1) n1 n2 x ≤ 9 ∧ updN (d 2) n1 n3 x ≤ 3
        by_cases e : x = n1
        · rw [e, updN_s, updN_s]; omega
        · rw [updN_n e, updN_n e]; exact k3 x hx
theorem raft_sim (hv : txtOK v) {p : Nat} (h : TS v σ μ p true) (hC : DC σ d) (hM : DM μ d) (hI : DI d) (h6 : d 0 0 < 6) : Res v σ μ p (pX7_readRaft σ) (pX11_item μ 114) := by
  obtain ⟨x1, y1, f1, g1, p1, o1', c1, m1, t1, q1, w1, z1⟩ := num_sim hv h 0 (nI (d 0 0))
  have a1 : AC σ (sA σ 33 f1) := AC_33 q1
  have b1 : AM μ (sA μ 0 g1) := AM_0 (fun i hi => w1 i (by omega))
  have erd : rdA μ 4 2 1 = some (nI (d 0 0)) := by
    rw [show (1 : Int32) = nI 1 from rfl, rd_nI (by decide) (by decide), hM.1]
  have ew : pX11_item μ 114 = some (s1 (s1 (sA μ 0 g1) 5 (6 + d 0 0) y1) 4 1 (nI (d 0 0 + 1))) := by
    unfold pX11_item
    rw [if_neg (show ¬ (114 : Int32) = 97 by decide), if_neg (show ¬ (114 : Int32) = 99 by decide), if_pos rfl]
    refine (bnd erd).trans ((bnd erd).trans ((bnd m1).trans ?_))
    rw [show (6 : Int32) + nI (d 0 0) = nI (6 + d 0 0) from nI_add 6 _, wr_nI (by omega) (by decide), Option.bind_some]
    have e2 : rdA (s1 (sA μ 0 g1) 5 (6 + d 0 0) y1) 4 2 1 = some (nI (d 0 0)) := by
      rw [show (1 : Int32) = nI 1 from rfl, rd_nI (by decide) (by decide)]
      exact congrArg some hM.1
    rw [e2, Option.bind_some, nI_1, show (1 : Int32) = nI 1 from rfl, wr_nI (by decide) (by decide)]
    rfl
  have t2 : TS v (sA σ 33 f1) (s1 (s1 (sA μ 0 g1) 5 (6 + d 0 0) y1) 4 1 (nI (d 0 0 + 1))) p1 o1' := TS_m rfl rfl t1
  obtain ⟨f4, g4, p4, o4', s1', s2', s3', s4', s5', s6'⟩ := stop_sim hv t2
  have b2 : AM μ (sA (s1 (s1 (sA μ 0 g1) 5 (6 + d 0 0) y1) 4 1 (nI (d 0 0 + 1))) 0 g4) := AM_t b1 (AM_t (AM_1 (by unfold dM; omega)) (AM_t (AM_1 (by unfold dM; omega)) (AM_0 (fun i hi => s5' i (by omega)))))
  have k4 : g4 18 = μ 0 18 := (s5' 18 (by decide)).trans (w1 18 (by decide))
  have ec : pX7_readRaft σ = if (if o4' then (1 : Int32) else 0) = 0 then some (sA (sA σ 33 f1) 33 f4) else (pX9_addRaft (sA (sA σ 33 f1) 33 f4) x1).bind fun u9 => some u9 := by
    unfold pX7_readRaft
    rw [hC.1, if_pos (show nI (d 0 0) < 6 from nI_lt (b := 6) h6 (by decide)), Option.bind_some, hC.1]
    exact (bnd c1).trans (bnd s1')
  cases o4'
  · exact ⟨_, _, _, p4, false, d, ec.trans (if_pos (by decide)), ew, s2', s3', AC_t a1 (AC_33 s4'), b2, k4, fun z => by cases z⟩
  · obtain ⟨e1, hp4⟩ := s6' rfl
    obtain ⟨-, hp1, n1, rfl, rfl, l1, i1⟩ := z1 e1
    have j1 := out_n (l := 0) (h := d 0 0) i1 l1 (by decide) (by omega)
    refine ⟨s1 (sA (sA (sA σ 33 f1) 33 f4) 18 (upd (σ 18) (32 + d 0 0) (nI n1))) 10 7 (nI (d 0 0 + 1)), _, _, p4, true, vs (vs d 7 (updN (d 7) (32 + d 0 0) n1)) 0 (updN (d 0) 0 (d 0 0 + 1)), ?_, ew, s2', TS_c rfl rfl s3', AC_t a1 (AC_t (AC_33 s4') (AC_t (AC_A (by decide)) (AC_A (by decide)))), b2, k4, fun _ => ⟨by omega, ?_, ?_, ?_⟩⟩
    · rw [ec, if_neg (by decide)]
      unfold pX9_addRaft pX5_set
      show Option.bind (Option.bind (Option.bind (some (sA (sA (sA σ 33 f1) 33 f4) 18 (pX10_put (σ 18) 45 (32 + σ 10 7) (nI n1)))) _) _) _ = _
      rw [hC.1, show (32 : Int32) + nI (d 0 0) = nI (32 + d 0 0) from nI_add 32 _, put_nI (by omega) (by decide), Option.bind_some, Option.bind_some]
      show some (s1 (sA (sA (sA σ 33 f1) 33 f4) 18 (upd (σ 18) (32 + d 0 0) (nI n1))) 10 7 (σ 10 7 + 1)) = _
      rw [hC.1, nI_1]
    · obtain ⟨d1, d2, d3, d4, d5, d6, d7, d8, d9, d10⟩ := hC
      exact ⟨rfl, d2, d3, d4, d5, d6, d7, d8, d9, fun i hi => upd_nI (d10 i hi)⟩
    · obtain ⟨d1, d2, d3, d4, d5, d6, d7, d8, d9, d10, d11⟩ := hM
      have h8 := hI.1.2.1
      refine ⟨rfl, d2, d3, d4, d5, d6, d7, fun a ha => ?_, fun a ha => ?_, d10, fun r hr => ?_⟩
      · have ha : a < d 0 1 := ha
        show μ 9 (8 + a) = nI (updN (d 7) (32 + d 0 0) n1 a)
        rw [updN_n (by omega)]; exact d8 a ha
      · have ha : a < d 0 1 := ha
        show μ 11 (8 + a) = nI (updN (d 7) (32 + d 0 0) n1 (8 + a))
        rw [updN_n (by omega)]; exact d9 a ha
      · have hr : r < d 0 0 + 1 := hr
        show upd (μ 5) (6 + d 0 0) (nI n1) (6 + r) = nI (updN (d 7) (32 + d 0 0) n1 (32 + r))
        by_cases e : r = d 0 0
        · rw [e, pk_us, updN_s]
        · rw [pk_un (by omega), updN_n (by omega)]; exact d11 r (by omega)
    · obtain ⟨⟨k1, k2, k3, k4, k5, ⟨u1, u2, u3⟩⟩, ⟨hz1, hz2, hz3⟩, hr1, hr2, hr3⟩ := hI
      refine ⟨⟨show d 0 0 + 1 ≤ 6 by omega, k2, k3, fun a ha => ?_, k5, fun a ha => ?_, fun r hr => ?_, ?_⟩, ⟨fun i hi hi2 => ?_, fun r hr1 hr2 => ?_, fun a ha1 ha2 => ?_⟩, fun r h1 h2 => ?_, hr2, ?_⟩
      · have := k4 a ha
        show d 3 a < d 0 0 + 1 ∧ d 4 a ≤ 9 ∧ d 5 a ≤ 99
        omega
      · show updN (d 7) (32 + d 0 0) n1 a < 10 ∧ updN (d 7) (32 + d 0 0) n1 (8 + a) ≤ 60 ∧ updN (d 7) (32 + d 0 0) n1 (16 + a) ≤ 99 ∧ updN (d 7) (32 + d 0 0) n1 (24 + a) ≤ 2
        rw [updN_n (by omega), updN_n (by omega), updN_n (by omega), updN_n (by omega)]
        exact u1 a ha
      · show updN (d 7) (32 + d 0 0) n1 (32 + r) < 6 ∧ (r < d 0 0 + 1 → updN (d 7) (32 + d 0 0) n1 (32 + r) < d 0 0 + 1) ∧ updN (d 7) (32 + d 0 0) n1 (38 + r) ≤ 9999
        have q := u2 r hr
        by_cases e : r = d 0 0
        · rw [e, updN_s, updN_n (by omega), ← e]
          exact ⟨by omega, fun _ => by omega, q.2.2⟩
        · rw [updN_n (by omega), updN_n (by omega)]
          exact ⟨q.1, fun _ => by have := q.2.1 (by omega); omega, q.2.2⟩
      · show updN (d 7) (32 + d 0 0) n1 44 < 2 ^ (d 0 0 + 1)
        rw [updN_n (by omega), hz1 44 (by decide) (Or.inr (by decide))]
        exact Nat.two_pow_pos _
      · show updN (d 7) (32 + d 0 0) n1 i = 0
        rw [updN_n (by omega)]
        exact hz1 i hi hi2
      · have hr1 : d 0 0 + 1 ≤ r := hr1
        show updN (d 7) (32 + d 0 0) n1 (32 + r) = 0
        rw [updN_n (by omega)]
        exact hz2 r (by omega) hr2
      · show updN (d 7) (32 + d 0 0) n1 a = 0 ∧ updN (d 7) (32 + d 0 0) n1 (8 + a) = 0
        rw [updN_n (by omega), updN_n (by omega)]
        exact hz3 a ha1 ha2
      · have h1 : d 0 0 + 1 ≤ r := h1
        exact hr1 r (by omega) h2
      · show sumN (fun r => popN (d 6 r)) (d 0 0) + popN (d 6 (d 0 0)) = 2 * d 0 5
        rw [hr1 (d 0 0) (Nat.le_refl _) h6, hr3]
        rfl
end G
