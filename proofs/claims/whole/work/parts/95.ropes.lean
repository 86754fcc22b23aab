/-! the items of the text: ropes -/
theorem sumN_upd {f : Nat → Nat} {F : Nat → Nat} {x y : Nat} : ∀ {n : Nat}, x < n → sumN (fun r => F (updN f x y r)) n + F (f x) = sumN (fun r => F (f r)) n + F y
  | 0, h => absurd h (Nat.not_lt_zero x)
  | n + 1, h => by
    rw [sumN, sumN]
    by_cases e : x = n
    · subst e
      have : sumN (fun r => F (updN f x y r)) x = sumN (fun r => F (f r)) x := sumN_cong (fun k hk => by rw [updN_n (by omega)])
      rw [this, updN_s]
      omega
    · have ih := sumN_upd (f := f) (F := F) (x := x) (y := y) (n := n) (by omega)
      rw [updN_n (show n ≠ x by omega)]
      omega
theorem pop_new {x b : Nat} (hb : b < 8) (h : x.testBit b = false) : popN (x ||| 2 ^ b) = popN x + 1 := by
  refine sumN_one (x := b) (fun k hk => ?_) ?_ hb
  · rw [Nat.testBit_or, Nat.testBit_two_pow, decide_eq_false (fun z => hk z.symm), Bool.or_false]
  · rw [Nat.testBit_or, Nat.testBit_two_pow, h]
    simp
theorem or_old {x b : Nat} (h : x.testBit b = true) : x ||| 2 ^ b = x := by
  apply Nat.eq_of_testBit_eq
  intro i
  rw [Nat.testBit_or, Nat.testBit_two_pow]
  by_cases e : b = i
  · rw [← e, h]; rfl
  · rw [decide_eq_false e, Bool.or_false]
/-- a and b roped -/
def roV (f : Nat → Nat) (a b : Nat) : Nat → Nat := updN (updN f a (f a ||| 2 ^ b)) b (f b ||| 2 ^ a)
theorem ro_bit {f : Nat → Nat} {a b x y : Nat} (hab : a ≠ b) : (roV f a b x).testBit y = ((f x).testBit y || (decide (x = a) && decide (y = b)) || (decide (x = b) && decide (y = a))) := by
  unfold roV
  by_cases e : x = b
  · subst e
    rw [updN_s, Nat.testBit_or, Nat.testBit_two_pow, decide_eq_false (show ¬ x = a from fun z => hab z.symm), Bool.false_and, Bool.or_false, decide_eq_true (show x = x from rfl), Bool.true_and]
    congr 1
    exact decide_eq_decide.mpr ⟨fun z => z.symm, fun z => z.symm⟩
  · rw [updN_n e, decide_eq_false e, Bool.false_and, Bool.or_false]
    by_cases e2 : x = a
    · subst e2
      rw [updN_s, Nat.testBit_or, Nat.testBit_two_pow, decide_eq_true (show x = x from rfl), Bool.true_and]
      congr 1
      exact decide_eq_decide.mpr ⟨fun z => z.symm, fun z => z.symm⟩
    · rw [updN_n e2, decide_eq_false e2, Bool.false_and, Bool.or_false]
theorem ro_off {f : Nat → Nat} {a b x : Nat} (h1 : x ≠ a) (h2 : x ≠ b) : roV f a b x = f x := by
  unfold roV
  rw [updN_n h2, updN_n h1]
section G
variable {σ μ : Sg} {v d : Vw}
theorem num_bad (hv : txtOK v) {p : Nat} (h : TS v σ μ p true) {lo hi but : Int32} (hg : ¬ (tkK v p = 2 ∧ pX10_isOutside (nI (tkV v p)) lo hi = 0 ∧ nI (tkV v p) ≠ but)) : ∃ f, pX7_number σ lo hi but = some (0, sA σ 33 f) ∧ f 1 = σ 33 1 ∧ f 6 = nI (tkS v p) := by
  obtain ⟨hT, hpL, h2, h6, h17, hM⟩ := h
  obtain ⟨f, e1, f1, f6, f2, f4, f3, f5⟩ := c_next (σ := σ) hv (f := σ 33) hT.1 h2 hpL
  rw [sA_self] at e1
  have hk := kind_le v p
  refine ⟨upd f 6 (nI (tkS v p)), ?_, f1, rfl⟩
  unfold pX7_number
  rw [if_pos h6]
  refine (bnd e1).trans ?_
  show (if f 3 = 2 then (if pX10_isOutside (f 5) lo hi = 0 then (if f 5 = but then (some (s1 (sA σ 33 f) 33 6 (f 4))).bind _ else some (f 5, sA σ 33 f)) else (some (s1 (sA σ 33 f) 33 6 (f 4))).bind _) else (some (s1 (sA σ 33 f) 33 6 (f 4))).bind _) = _
  rw [f3, f4, s33]
  by_cases hK : tkK v p = 2
  · rw [f5 (Or.inr hK), hK, if_pos (show nI 2 = 2 from rfl)]
    by_cases ho : pX10_isOutside (nI (tkV v p)) lo hi = 0
    · have hb : nI (tkV v p) = but := by
        by_cases hb : nI (tkV v p) = but
        · exact hb
        · exact absurd ⟨hK, ho, hb⟩ hg
      rw [if_pos ho, if_pos hb]
      rfl
    · rw [if_neg ho]
      rfl
  · rw [if_neg (show ¬ nI (tkK v p) = 2 from fun z => hK ((nI_eq (b := 2) (by omega) (by decide)).mp z))]
    rfl
/-- the model's second raft of a rope -/
theorem m_second (hR : μ 4 1 = nI (d 0 0)) (y : Int32) : ∃ j : Int32, ((if (μ 0 15) = 2 then (rdA μ 4 2 1).bind fun v8 => (if v8 ≤ μ 0 16 then some 0 else (if μ 0 16 = y then some 0 else some 1)) else some 0) : Option (Int32)) = some j := by
  rw [show (1 : Int32) = nI 1 from rfl, rd_nI (by decide) (by decide), hR, Option.bind_some]
  split
  · split
    · exact ⟨_, rfl⟩
    · split <;> exact ⟨_, rfl⟩
  · exact ⟨_, rfl⟩
theorem rope_sim (hv : txtOK v) {p : Nat} (h : TS v σ μ p true) (hC : DC σ d) (hM : DM μ d) (hI : DI d) : Res v σ μ p (pX7_readRope σ) (pX11_item μ 116) := by
  have h6 := hI.1.1
  have h200 := hv.1
  obtain ⟨x1, y1, f1, g1, p1, o1', c1, m1, t1, q1, w1, z1⟩ := num_sim hv h 0 (nI (d 0 0) - 1)
  have e4 : rdA μ 4 2 1 = some (nI (d 0 0)) := by
    rw [show (1 : Int32) = nI 1 from rfl, rd_nI (by decide) (by decide), hM.1]
  have hR1 : (sA μ 0 g1) 4 1 = nI (d 0 0) := hM.1
  have c107 : (sA σ 33 f1) 10 7 = nI (d 0 0) := hC.1
  have a1 : AC σ (sA σ 33 f1) := AC_33 q1
  have b1 : AM μ (sA μ 0 g1) := AM_0 (fun i hi => w1 i (by omega))
  have em : pX11_item μ 116 = ((if ((sA μ 0 g1) 0 15) = 2 then (rdA (sA μ 0 g1) 4 2 1).bind fun v8 => (if v8 ≤ (sA μ 0 g1) 0 16 then some 0 else (if (sA μ 0 g1) 0 16 = y1 then some 0 else some 1)) else some 0) : Option (Int32)).bind fun j7 => (pX11_due (sA μ 0 g1) j7).bind fun u11 => (if (u11 0 17) = 0 then (rdA u11 6 12 (6 + y1)).bind fun v13 => (wrA u11 6 12 (6 + y1) (v13 ||| ((1 : Int32) <<< ((sA μ 0 g1) 0 16 &&& 31)))).bind fun σ15 => (rdA σ15 6 12 (6 + (sA μ 0 g1) 0 16)).bind fun v17 => (wrA σ15 6 12 (6 + (sA μ 0 g1) 0 16) (v17 ||| ((1 : Int32) <<< (y1 &&& 31)))).bind fun σ19 => some σ19 else some u11) := by
    unfold pX11_item
    rw [if_neg (show ¬ (116 : Int32) = 97 by decide), if_neg (show ¬ (116 : Int32) = 99 by decide), if_neg (show ¬ (116 : Int32) = 114 by decide)]
    have hid : ∀ x : Option Sg, (x.bind fun u53 => some u53) = x := fun x => by cases x <;> rfl
    rw [hid]
    unfold pX11_rope
    exact (bnd e4).trans ((bnd m1).trans (bnd rfl))
  have ec : pX7_readRope σ = (pX7_number (sA σ 33 f1) 0 (nI (d 0 0) - 1) x1).bind fun u3 => (pX7_stops u3.2).bind fun u5 => (if u5.1 = 0 then some u5.2 else (pX9_addRope u5.2 x1 u3.1).bind fun u7 => some u7) := by
    unfold pX7_readRope
    rw [hC.1]
    refine (bnd c1).trans ?_
    show (pX7_number (sA σ 33 f1) 0 ((sA σ 33 f1) 10 7 - 1) x1).bind _ = _
    rw [c107]
  cases o1'
  · obtain ⟨hT, hpL, k6, k17, k14⟩ := id t1
    obtain ⟨j, ej⟩ := m_second (μ := sA μ 0 g1) hR1 y1
    have ew : pX11_item μ 116 = some (sA μ 0 g1) := by
      rw [em, ej, Option.bind_some, due_bad k17, Option.bind_some, k17, if_neg (by decide)]
    have e2 : pX7_number (sA σ 33 f1) 0 (nI (d 0 0) - 1) x1 = some (0, sA σ 33 f1) := by
      unfold pX7_number
      rw [k6, if_neg (m1_ne (by omega))]
    obtain ⟨f4, g4, p4, o4', s1', s2', s3', s4', s5', s6'⟩ := stop_sim hv t1
    have o4 : o4' = false := by
      cases o4'
      · rfl
      · exact absurd (s6' rfl).1 (by decide)
    subst o4
    refine ⟨_, _, _, p4, false, d, ?_, ew, s2', s3', AC_t a1 (AC_33 s4'), AM_t b1 (AM_0 (fun i hi => s5' i (by omega))), (s5' 18 (by decide)).trans (w1 18 (by decide)), fun z => by cases z⟩
    rw [ec]
    refine (bnd e2).trans ((bnd s1').trans ?_)
    exact if_pos (show (if false = true then (1 : Int32) else 0) = 0 from rfl)
  · obtain ⟨-, hp1, a, rfl, rfl, l1, i1⟩ := z1 rfl
    have ha := out_r i1 l1 (by omega)
    obtain ⟨hT, hpL, k2, k6, k17, kM⟩ := id t1
    have hk := kind_le v p1
    have eR : rdA (sA μ 0 g1) 4 2 1 = some (nI (d 0 0)) := by
      rw [show (1 : Int32) = nI 1 from rfl, rd_nI (by decide) (by decide), hR1]
    by_cases hg : tkK v p1 = 2 ∧ tkV v p1 < d 0 0 ∧ tkV v p1 ≠ a
    · obtain ⟨hK, hb, hne⟩ := hg
      have hvl := val_lt hv hK
      have hin : pX10_isOutside (nI (tkV v p1)) 0 (nI (d 0 0) - 1) = 0 := by
        rcases out_lt (nI (tkV v p1)) (n := d 0 0) (by omega) with ⟨z, -⟩ | ⟨-, z⟩
        · exact z
        · exact absurd ⟨_, rfl, hb⟩ z
      obtain ⟨kc, -⟩ := num_ok hv t1 hK hin
      obtain ⟨f2, c2, q2, q3, q4⟩ := kc (nI a) (fun z => hne ((nI_eq (by omega) (by omega)).mp z))
      obtain ⟨g2, gs1, gs2, gs3⟩ := go_on hv hT (tkE_le hpL) kM.1
      generalize hbv : tkV v p1 = b at hb hne hvl c2
      have e16 : (sA μ 0 g1) 0 16 = nI b := by rw [kM.2.2.2 (Or.inr hK), hbv]
      have ej : ((if ((sA μ 0 g1) 0 15) = 2 then (rdA (sA μ 0 g1) 4 2 1).bind fun v8 => (if v8 ≤ (sA μ 0 g1) 0 16 then some 0 else (if (sA μ 0 g1) 0 16 = nI a then some 0 else some 1)) else some 0) : Option (Int32)) = some 1 := by
        rw [if_pos (show (sA μ 0 g1) 0 15 = 2 by rw [kM.2.2.1]; exact (srt_I (k := 2) hk (by decide)).mpr hK), eR, Option.bind_some, e16, if_neg (nI_ge hb (by omega)), if_neg (fun z => hne ((nI_eq (by omega) (by omega)).mp z))]
      obtain ⟨k1', k2', k3', k4', k5', k6'⟩ := hI.1
      have ba := k5' a (by omega)
      have bb := k5' b (by omega)
      have pa : 2 ^ a < 2 ^ 6 := Nat.pow_lt_pow_right (by decide) (by omega)
      have pb : 2 ^ b < 2 ^ 6 := Nat.pow_lt_pow_right (by decide) (by omega)
      have ew : pX11_item μ 116 = some (s1 (s1 (sA (sA μ 0 g1) 0 g2) 6 (6 + a) (nI (d 6 a ||| 2 ^ b))) 6 (6 + b) (nI (d 6 b ||| 2 ^ a))) := by
        rw [em, ej, Option.bind_some, due_yes k17, e16]
        refine (bnd gs1).trans ?_
        have e17 : (sA (sA μ 0 g1) 0 g2) 0 17 = 0 := (gs3 17 (by decide)).trans k17
        rw [e17, if_pos rfl, show (6 : Int32) + nI a = nI (6 + a) from nI_add 6 a, show (6 : Int32) + nI b = nI (6 + b) from nI_add 6 b]
        have r1 : rdA (sA (sA μ 0 g1) 0 g2) 6 12 (nI (6 + a)) = some (nI (d 6 a)) := by
          rw [rd_nI (by omega) (by decide)]
          exact congrArg some (hM.2.2.2.2.2.2.2.2.2.1 a (by omega))
        rw [r1, Option.bind_some, m_shl (by omega), fa_or, wr_nI (by omega) (by decide), Option.bind_some]
        have r2 : rdA (s1 (sA (sA μ 0 g1) 0 g2) 6 (6 + a) (nI (d 6 a ||| 2 ^ b))) 6 12 (nI (6 + b)) = some (nI (d 6 b)) := by
          rw [rd_nI (by omega) (by decide)]
          show some (upd (μ 6) (6 + a) _ (6 + b)) = _
          rw [pk_un (by omega)]
          exact congrArg some (hM.2.2.2.2.2.2.2.2.2.1 b (by omega))
        rw [r2, Option.bind_some, m_shl (by omega), fa_or, wr_nI (by omega) (by decide), Option.bind_some]
      have t2 : TS v (sA (sA σ 33 f1) 33 f2) (sA (sA μ 0 g1) 0 g2) (tkE v p1) true := ⟨⟨⟨q2.trans hT.1.1, hT.1.2⟩, ⟨(gs3 1 (by decide)).trans hT.2.1, hT.2.2⟩⟩, tkE_le hpL, q3, q4, (gs3 17 (by decide)).trans k17, gs2⟩
      have hpe := tkE_gt (v := v) (p := p1) (by rw [hK]; decide)
      have t3 : TS v (sA (sA σ 33 f1) 33 f2) (s1 (s1 (sA (sA μ 0 g1) 0 g2) 6 (6 + a) (nI (d 6 a ||| 2 ^ b))) 6 (6 + b) (nI (d 6 b ||| 2 ^ a))) (tkE v p1) true := TS_m rfl rfl t2
      obtain ⟨f4, g4, p4, o4', s1', s2', s3', s4', s5', s6'⟩ := stop_sim hv t3
      have b2 : AM μ (sA (s1 (s1 (sA (sA μ 0 g1) 0 g2) 6 (6 + a) (nI (d 6 a ||| 2 ^ b))) 6 (6 + b) (nI (d 6 b ||| 2 ^ a))) 0 g4) := AM_t b1 (AM_t (AM_0 (fun i hi => gs3 i (by omega))) (AM_t (AM_1 (by unfold dM; omega)) (AM_t (AM_1 (by unfold dM; omega)) (AM_0 (fun i hi => s5' i (by omega))))))
      have k4 : g4 18 = μ 0 18 := (s5' 18 (by decide)).trans ((gs3 18 (by decide)).trans (w1 18 (by decide)))
      have a2 : AC σ (sA (sA (sA σ 33 f1) 33 f2) 33 f4) := AC_t a1 (AC_t (AC_33 q2) (AC_33 s4'))
      have ec2 : pX7_readRope σ = if (if o4' then (1 : Int32) else 0) = 0 then some (sA (sA (sA σ 33 f1) 33 f2) 33 f4) else (pX9_addRope (sA (sA (sA σ 33 f1) 33 f2) 33 f4) (nI a) (nI b)).bind fun u7 => some u7 := by
        rw [ec]
        exact (bnd c2).trans (bnd s1')
      cases o4'
      · exact ⟨_, _, _, p4, false, d, ec2.trans (if_pos (by decide)), ew, s2', s3', a2, b2, k4, fun z => by cases z⟩
      · have hp4 := (s6' rfl).2
        obtain ⟨d1, d2, d3, d4, d5, d6, d7, d8, d9, d10⟩ := id hC
        obtain ⟨r1, r2, r3, r4, r5, r6, r7, r8, r9, r10, r11⟩ := id hM
        obtain ⟨-, hz, hr1, hr2, hr3⟩ := id hI
        have hsym := hr2 a b (by omega) (by omega)
        have hhas : pX10_has (pX10_at (σ 16) 6 (nI a)) (nI b) = if (d 6 a).testBit b then 1 else 0 := by
          rw [at_nI (by omega) (by decide), d9 a (by omega), has_nI (by omega) (by omega)]
        have dm : ∀ r, r < 6 → upd (upd (μ 6) (6 + a) (nI (d 6 a ||| 2 ^ b))) (6 + b) (nI (d 6 b ||| 2 ^ a)) (6 + r) = nI (roV (d 6) a b r) := by
          intro r hr
          unfold roV
          by_cases e : r = b
          · rw [e, pk_us, updN_s]
          · rw [pk_un (by omega), updN_n e]
            by_cases e2 : r = a
            · rw [e2, pk_us, updN_s]
            · rw [pk_un (by omega), updN_n e2]
              exact r10 r hr
        have ro_lt : ∀ r, r < 6 → roV (d 6) a b r < 64 := by
          intro r hr
          unfold roV
          by_cases e : r = b
          · rw [e, updN_s]; exact or_lt (k := 6) bb pa
          · rw [updN_n e]
            by_cases e2 : r = a
            · rw [e2, updN_s]; exact or_lt (k := 6) ba pb
            · rw [updN_n e2]; exact k5' r hr
        have mk : ∀ m : Nat, sumN (fun r => popN (roV (d 6) a b r)) (d 0 0) = 2 * m → DI (vs (vs d 6 (roV (d 6) a b)) 0 (updN (d 0) 5 m)) := by
          intro m hm
          refine ⟨⟨k1', k2', k3', k4', ro_lt, k6'⟩, hz, fun r h1 h2 => ?_, fun x y hx hy => ?_, hm⟩
          · show roV (d 6) a b r = 0
            have h1 : d 0 0 ≤ r := h1
            rw [ro_off (by omega) (by omega)]
            exact hr1 r h1 h2
          · show (roV (d 6) a b x).testBit y = (roV (d 6) a b y).testBit x
            rw [ro_bit (fun z => hne z.symm), ro_bit (fun z => hne z.symm), hr2 x y hx hy]
            cases (d 6 y).testBit x <;> cases decide (x = a) <;> cases decide (y = b) <;> cases decide (x = b) <;> cases decide (y = a) <;> rfl
        cases hbit : (d 6 a).testBit b
        · rw [hbit] at hhas hsym
          refine ⟨s1 (sA (sA (sA (sA (sA σ 33 f1) 33 f2) 33 f4) 16 (upd (σ 16) a (nI (d 6 a ||| 2 ^ b)))) 16 (upd (upd (σ 16) a (nI (d 6 a ||| 2 ^ b))) b (nI (d 6 b ||| 2 ^ a)))) 10 9 (nI (d 0 5 + 1)), _, _, p4, true, vs (vs d 6 (roV (d 6) a b)) 0 (updN (d 0) 5 (d 0 5 + 1)), ?_, ew, s2', TS_c rfl rfl s3', AC_t a2 (AC_t (AC_A (by decide)) (AC_t (AC_A (by decide)) (AC_A (by decide)))), b2, k4, fun _ => ⟨by omega, ?_, ?_, mk _ ?_⟩⟩
          · rw [ec2, if_neg (by decide)]
            unfold pX9_addRope
            show Option.bind (if pX10_has (pX10_at (σ 16) 6 (nI a)) (nI b) = 0 then (some (sA (sA (sA (sA σ 33 f1) 33 f2) 33 f4) 16 (pX10_put (σ 16) 6 (nI a) ((pX10_at (σ 16) 6 (nI a)) ||| (pX10_bit (nI b)))))).bind _ else _) _ = _
            rw [hhas, if_pos (by decide), at_nI (by omega) (by decide), d9 a (by omega), bit_nI (by omega), fa_or, put_nI (by omega) (by decide), Option.bind_some]
            show Option.bind ((some (sA _ 16 (pX10_put (upd (σ 16) a (nI (d 6 a ||| 2 ^ b))) 6 (nI b) ((pX10_at (upd (σ 16) a (nI (d 6 a ||| 2 ^ b))) 6 (nI b)) ||| (pX10_bit (nI a)))))).bind _) _ = _
            rw [at_nI (by omega) (by decide), pk_un hne, d9 b (by omega), bit_nI (by omega), fa_or, put_nI (by omega) (by decide), Option.bind_some]
            show some (s1 _ 10 9 (σ 10 9 + 1)) = _
            rw [d3, nI_1]
          · refine ⟨d1, d2, rfl, d4, d5, d6, d7, d8, fun r hr => ?_, d10⟩
            show upd (upd (σ 16) a (nI (d 6 a ||| 2 ^ b))) b (nI (d 6 b ||| 2 ^ a)) r = nI (roV (d 6) a b r)
            exact upd_nI (upd_nI (d9 r hr))
          · exact ⟨r1, r2, r3, r4, r5, r6, r7, r8, r9, dm, r11⟩
          · have u1 := sumN_upd (f := d 6) (F := popN) (x := a) (y := d 6 a ||| 2 ^ b) (n := d 0 0) ha
            have u2 := sumN_upd (f := updN (d 6) a (d 6 a ||| 2 ^ b)) (F := popN) (x := b) (y := d 6 b ||| 2 ^ a) (n := d 0 0) hb
            rw [updN_n hne, pop_new (by omega) hsym.symm] at u2
            rw [pop_new (by omega) hbit, hr3] at u1
            have u2 : sumN (fun r => popN (roV (d 6) a b r)) (d 0 0) + popN (d 6 b) = _ := u2
            omega
        · rw [hbit] at hhas hsym
          have hro : ∀ r, roV (d 6) a b r = d 6 r := by
            intro r
            unfold roV
            rw [or_old hbit, or_old hsym.symm]
            by_cases e : r = b
            · rw [e, updN_s]
            · rw [updN_n e]
              by_cases e2 : r = a
              · rw [e2, updN_s]
              · rw [updN_n e2]
          refine ⟨sA (sA (sA σ 33 f1) 33 f2) 33 f4, _, _, p4, true, vs (vs d 6 (roV (d 6) a b)) 0 (updN (d 0) 5 (d 0 5)), ?_, ew, s2', s3', a2, b2, k4, fun _ => ⟨by omega, ?_, ?_, mk _ ?_⟩⟩
          · rw [ec2, if_neg (by decide)]
            unfold pX9_addRope
            show Option.bind (if pX10_has (pX10_at (σ 16) 6 (nI a)) (nI b) = 0 then _ else some (sA (sA (sA σ 33 f1) 33 f2) 33 f4)) _ = _
            rw [hhas, if_neg (by decide), Option.bind_some]
          · refine ⟨d1, d2, d3, d4, d5, d6, d7, d8, fun r hr => ?_, d10⟩
            show σ 16 r = nI (roV (d 6) a b r)
            rw [hro r]
            exact d9 r hr
          · exact ⟨r1, r2, r3, r4, r5, r6, r7, r8, r9, dm, r11⟩
          · rw [← hr3]
            exact sumN_cong (fun r _ => by rw [hro r])
    · obtain ⟨f2, c2, q2, q3⟩ := num_bad hv t1 (lo := 0) (hi := nI (d 0 0) - 1) (but := nI a) (fun z => hg ⟨z.1, by
        have := val_lt hv z.1
        exact out_r z.2.1 (by omega) (by omega), fun e => z.2.2 (by rw [e])⟩)
      have hsl := tkS_le hpL
      have ej : ((if ((sA μ 0 g1) 0 15) = 2 then (rdA (sA μ 0 g1) 4 2 1).bind fun v8 => (if v8 ≤ (sA μ 0 g1) 0 16 then some 0 else (if (sA μ 0 g1) 0 16 = nI a then some 0 else some 1)) else some 0) : Option (Int32)) = some 0 := by
        by_cases hK : tkK v p1 = 2
        · have hvl := val_lt hv hK
          rw [if_pos (show (sA μ 0 g1) 0 15 = 2 by rw [kM.2.2.1]; exact (srt_I (k := 2) hk (by decide)).mpr hK), eR, Option.bind_some, kM.2.2.2 (Or.inr hK)]
          by_cases hb : d 0 0 ≤ tkV v p1
          · rw [if_pos (nI_le hb (by omega))]
          · have he : tkV v p1 = a := by
              by_cases he : tkV v p1 = a
              · exact he
              · exact absurd ⟨hK, by omega, he⟩ hg
            rw [if_neg (nI_ge (by omega) (by omega)), if_pos (by rw [he])]
        · rw [if_neg (show ¬ (sA μ 0 g1) 0 15 = 2 by rw [kM.2.2.1]; exact fun z => hK ((srt_I (k := 2) hk (by decide)).mp z))]
      have ew : pX11_item μ 116 = some (s1 (sA μ 0 g1) 0 17 1) := by
        rw [em, ej, Option.bind_some, due_no k17, Option.bind_some]
        exact if_neg (show ¬ (1 : Int32) = 0 by decide)
      have t3 : TS v (sA (sA σ 33 f1) 33 f2) (s1 (sA μ 0 g1) 0 17 1) (tkS v p1) false := ⟨⟨⟨q2.trans hT.1.1, hT.1.2⟩, hT.2⟩, hsl, q3, rfl, kM.2.1⟩
      obtain ⟨f4, g4, p4, o4', s1', s2', s3', s4', s5', s6'⟩ := stop_sim hv t3
      have o4 : o4' = false := by
        cases o4'
        · rfl
        · exact absurd (s6' rfl).1 (by decide)
      subst o4
      refine ⟨_, _, _, p4, false, d, ?_, ew, s2', s3', AC_t a1 (AC_t (AC_33 q2) (AC_33 s4')), AM_t b1 (AM_t (AM_1 (by unfold dM; omega)) (AM_0 (fun i hi => s5' i (by omega)))), (s5' 18 (by decide)).trans (w1 18 (by decide)), fun z => by cases z⟩
      rw [ec]
      refine (bnd c2).trans ((bnd s1').trans ?_)
      exact if_pos (show (if false = true then (1 : Int32) else 0) = 0 from rfl)
end G
