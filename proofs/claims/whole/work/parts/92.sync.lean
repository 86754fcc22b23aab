/-! both readers side by side: a number, a stop -/
def TX (v : Vw) (σ μ : Sg) : Prop := (σ 33 1 = nI (v 0 2) ∧ ∀ i, i < v 0 2 → σ 34 i = nI (v 13 i)) ∧ (μ 0 1 = nI (v 0 2) ∧ ∀ i, i < v 0 2 → μ 1 i = (nI (v 13 i)).toInt8.toInt32)
def TS (v : Vw) (σ μ : Sg) (p : Nat) : Bool → Prop
  | true => TX v σ μ ∧ p ≤ v 0 2 ∧ σ 33 2 = nI p ∧ σ 33 6 = -1 ∧ μ 0 17 = 0 ∧ MT v p (μ 0)
  | false => TX v σ μ ∧ p ≤ v 0 2 ∧ σ 33 6 = nI p ∧ μ 0 17 = 1 ∧ μ 0 14 = nI p
def AC (σ σ' : Sg) : Prop := ∀ c i, ¬ (10 ≤ c ∧ c ≤ 18) → ¬ (c = 33 ∧ i ≠ 1) → σ' c i = σ c i
def dM (c i : Nat) : Prop := (c = 0 ∧ 13 ≤ i ∧ i ≤ 18) ∨ (c = 2 ∧ 10 ≤ i) ∨ (c = 3 ∧ 10 ≤ i) ∨ (c = 4 ∧ i = 1) ∨ c = 5 ∨ (c = 6 ∧ 6 ≤ i) ∨ (c = 7 ∧ i = 1) ∨ (c = 8 ∧ 8 ≤ i) ∨ c = 9 ∨ (c = 10 ∧ 8 ≤ i) ∨ c = 11 ∨ (c = 12 ∧ 8 ≤ i)
def AM (μ μ' : Sg) : Prop := ∀ c i, ¬ dM c i → μ' c i = μ c i
theorem AC_r {σ : Sg} : AC σ σ := fun _ _ _ _ => rfl
theorem AM_r {μ : Sg} : AM μ μ := fun _ _ _ => rfl
theorem AC_t {a b c : Sg} (h : AC a b) (h2 : AC b c) : AC a c := fun k i h3 h4 => (h2 k i h3 h4).trans (h k i h3 h4)
theorem AM_t {a b c : Sg} (h : AM a b) (h2 : AM b c) : AM a c := fun k i h3 => (h2 k i h3).trans (h k i h3)
theorem AC_A {σ : Sg} {c : Nat} {f : Nat → Int32} (h : 10 ≤ c ∧ c ≤ 18) : AC σ (sA σ c f) := fun k i h1 _ => by
  rw [sA_ne (fun z => h1 (by rw [z]; exact h))]
theorem AC_33 {σ : Sg} {f : Nat → Int32} (h : f 1 = σ 33 1) : AC σ (sA σ 33 f) := fun k i h1 h2 => by
  by_cases e : k = 33
  · subst e
    rw [sA_eq]
    by_cases e2 : i = 1
    · rw [e2]; exact h
    · exact absurd ⟨rfl, e2⟩ h2
  · rw [sA_ne e]
theorem AM_0 {μ : Sg} {g : Nat → Int32} (h : ∀ i, i < 13 ∨ 18 < i → g i = μ 0 i) : AM μ (sA μ 0 g) := fun k i h1 => by
  by_cases e : k = 0
  · subst e
    rw [sA_eq]
    refine h i ?_
    unfold dM at h1
    omega
  · rw [sA_ne e]
theorem AM_1 {μ : Sg} {c j : Nat} {x : Int32} (h : dM c j) : AM μ (s1 μ c j x) := fun k i h1 => by
  by_cases e : k = c
  · subst e
    rw [s1_sA, sA_eq, pk_un (fun z => h1 (by rw [z]; exact h))]
  · rw [s1_sA, sA_ne e]
theorem Rc_keep {σ σ' : Sg} {v : Vw} (h : Rc σ v) (k : AC σ σ') : Rc σ' v := by
  obtain ⟨⟨r1, r2, r3, r4, r5, r6, r7, r8, r9, r10⟩, ⟨p1, p2⟩, ⟨i1, i2, i3, i4⟩, ⟨t1, t2⟩, ⟨h1, h2⟩⟩ := h
  refine ⟨⟨?_, ?_, ?_, fun x hx => ?_, fun x hx => ?_, fun x hx => ?_, fun x hx => ?_, fun x hx => ?_, fun x hx => ?_, fun x hx => ?_⟩, ⟨?_, fun x hx => ?_⟩, ⟨?_, ?_, fun z => ⟨fun x hx => ?_, ?_, fun x hx => ?_⟩, fun z => ⟨fun x hx => ?_, ?_, fun x hx => ?_⟩⟩, ⟨?_, fun x hx => ?_⟩, ⟨?_, fun x hx => ⟨?_, ?_⟩⟩⟩
  all_goals rw [k _ _ (by omega) (by omega)]
  · exact r1
  · exact r2
  · exact r3
  · exact r4 x hx
  · exact r5 x hx
  · exact r6 x hx
  · exact r7 x hx
  · exact r8 x hx
  · exact r9 x hx
  · exact r10 x hx
  · exact p1
  · exact p2 x hx
  · exact i1
  · exact i2
  · exact (i3 z).1 x hx
  · exact (i3 z).2.1
  · exact (i3 z).2.2 x hx
  · exact (i4 z).1 x hx
  · exact (i4 z).2.1
  · exact (i4 z).2.2 x hx
  · exact t1
  · exact t2 x hx
  · exact h1
  · exact (h2 x hx).1
  · exact (h2 x hx).2
theorem Rm_keep {μ μ' : Sg} {v : Vw} (hI : InvN v) (h : Rm μ v) (k : AM μ μ') : Rm μ' v := by
  have h8 := hI.2.1
  obtain ⟨⟨r1, r2, r3, r4, r5, r6, r7, r8, r9⟩, ⟨p1, p2⟩, ⟨i1, i2, i3, i4⟩, ⟨t1, t2⟩, ⟨h1, h2⟩⟩ := h
  refine ⟨⟨?_, ?_, fun x hx => ?_, fun x hx => ?_, fun x hx => ?_, fun x hx => ?_, fun x hx => ?_, fun x hx => ?_, fun x hx => ?_⟩, ⟨?_, fun y hy x hx => ?_⟩, ⟨?_, ?_, fun z => ⟨fun y hy x hx => ?_, ?_, fun y hy x hx => ?_⟩, fun z => ⟨fun y hy x hx => ?_, ?_, fun y hy x hx => ?_⟩⟩, ⟨?_, fun x hx => ?_⟩, ⟨?_, fun x hx => ⟨?_, ?_⟩⟩⟩
  all_goals rw [k _ _ (by unfold dM; omega)]
  · exact r1
  · exact r2
  · exact r3 x hx
  · exact r4 x hx
  · exact r5 x hx
  · exact r6 x hx
  · exact r7 x hx
  · exact r8 x hx
  · exact r9 x hx
  · exact p1
  · exact p2 y hy x hx
  · exact i1
  · exact i2
  · exact (i3 z).1 y hy x hx
  · exact (i3 z).2.1
  · exact (i3 z).2.2 y hy x hx
  · exact (i4 z).1 y hy x hx
  · exact (i4 z).2.1
  · exact (i4 z).2.2 y hy x hx
  · exact t1
  · exact t2 x hx
  · exact h1
  · exact (h2 x hx).1
  · exact (h2 x hx).2
theorem kind_le (v : Vw) (p : Nat) : tkK v p ≤ 4 := by
  unfold tkK kindS
  split
  · split
    · omega
    · split
      · split <;> omega
      · split <;> omega
  · omega
theorem srt_eq {K k : Nat} (hK : K ≤ 4) (hk : 1 ≤ k ∧ k ≤ 3) : srt K = k ↔ K = k := by
  unfold srt
  constructor
  · intro h
    split at h
    · omega
    · split at h <;> omega
  · intro h
    rw [h, if_neg (by omega), if_neg (by omega)]
theorem srt_I {K k : Nat} (hK : K ≤ 4) (hk : 1 ≤ k ∧ k ≤ 3) : nI (srt K) = nI k ↔ K = k := by
  have : srt K ≤ 5 := by unfold srt; split <;> (try split) <;> omega
  rw [nI_eq (by omega) (by omega), srt_eq hK hk]
theorem m1_ne {n : Nat} (h : n < 2 ^ 31) : ¬ nI n = (-1 : Int32) := by
  intro e
  have := congrArg Int32.toInt e
  rw [nI_toInt h, show (-1 : Int32).toInt = -1 from rfl] at this
  omega
theorem val_lt {v : Vw} (hv : txtOK v) {p : Nat} (h : tkK v p = 2) : tkV v p ≤ 2700 := by
  unfold tkK at h
  unfold tkV
  generalize tkS v p = s at h
  unfold kindS at h
  unfold valS
  by_cases hs : s < v 0 2
  · have hb := hv.2 s hs
    split
    · split <;> omega
    · rw [if_pos hs] at h
      split
      · omega
      · rename_i hL h1
        rw [if_neg hL] at h
        by_cases hD : byteIn v 48 57 s = true
        · rw [if_pos hD] at h
          have hok : numOK v s (run v 48 57 s) = true := by
            cases hc : numOK v s (run v 48 57 s)
            · rw [hc, if_neg (by decide)] at h; omega
            · rfl
          unfold numOK at hok
          rw [decide_eq_false h1, Bool.false_or, Bool.and_eq_true, decide_eq_true_eq] at hok
          have hle := run_le (v := v) (lo := 48) (hi := 57) (q := s) (by omega)
          have := hv.2 (s + 1) (by omega)
          omega
        · rw [if_neg hD] at h
          split at h <;> omega
  · rw [if_neg hs] at h
    omega
section G
variable {σ μ : Sg} {v : Vw}
theorem due_no (h : μ 0 17 = 0) : pX11_due μ 0 = some (s1 μ 0 17 1) := by
  unfold pX11_due
  rw [if_pos h, if_pos rfl]; rfl
theorem due_yes (h : μ 0 17 = 0) : pX11_due μ 1 = pX11_step μ := by
  unfold pX11_due
  rw [if_pos h, if_neg (by decide)]
  cases pX11_step μ <;> rfl
theorem due_bad (h : μ 0 17 = 1) (x : Int32) : pX11_due μ x = some μ := by
  unfold pX11_due
  rw [h, if_neg (by decide)]
/-- a step of the model from a token to the next one -/
theorem go_on (hv : txtOK v) (hT : TX v σ μ) {p : Nat} (hpL : p ≤ v 0 2) (h13 : μ 0 13 = nI p) : ∃ g, pX11_step μ = some (sA μ 0 g) ∧ MT v p g ∧ ∀ i, i < 13 ∨ 16 < i → g i = μ 0 i := by
  have h := m_step (μ := μ) hv (f := μ 0) ⟨hT.2.1, hT.2.2⟩ h13 hpL
  rw [sA_self] at h
  exact h
theorem num_ok (hv : txtOK v) {p : Nat} (h : TS v σ μ p true) {lo hi : Int32} (hK : tkK v p = 2) (hin : pX10_isOutside (nI (tkV v p)) lo hi = 0) : (∀ but : Int32, nI (tkV v p) ≠ but → ∃ f, pX7_number σ lo hi but = some (nI (tkV v p), sA σ 33 f) ∧ f 1 = σ 33 1 ∧ f 2 = nI (tkE v p) ∧ f 6 = -1) ∧ ∃ g, pX11_number μ lo hi = some (nI (tkV v p), sA μ 0 g) ∧ MT v (tkE v p) g ∧ ∀ i, i < 13 ∨ 16 < i → g i = μ 0 i := by
  obtain ⟨hT, hpL, h2, h6, h17, hM⟩ := h
  obtain ⟨f, e1, f1, f6, f2, f4, f3, f5⟩ := c_next (σ := σ) hv (f := σ 33) hT.1 h2 hpL
  rw [sA_self] at e1
  constructor
  · intro but hne
    refine ⟨f, ?_, f1, f2, f6.trans h6⟩
    unfold pX7_number
    rw [if_pos h6]
    refine (bnd e1).trans ?_
    show (if f 3 = 2 then (if pX10_isOutside (f 5) lo hi = 0 then (if f 5 = but then _ else some (f 5, sA σ 33 f)) else _) else _) = _
    rw [f3, f5 (Or.inr hK), hK, if_pos (show nI 2 = 2 from rfl), if_pos hin, if_neg hne]
  · have ew := go_on hv hT (tkE_le hpL) hM.1
    obtain ⟨g, s1, s2, s3⟩ := ew
    refine ⟨g, ?_, s2, s3⟩
    unfold pX11_number
    rw [Option.bind_some, hM.2.2.2 (Or.inr hK), hM.2.2.1, hK, if_pos (show nI (srt 2) = 2 from rfl), if_neg (show ¬ pX11_in (nI (tkV v p)) lo hi = 0 by rw [in_yes hin]; decide), due_yes h17]
    exact (bnd s1).trans rfl
theorem num_sim (hv : txtOK v) {p : Nat} {ok : Bool} (h : TS v σ μ p ok) (lo hi : Int32) : ∃ (x y : Int32) (f g : Nat → Int32) (p' : Nat) (ok' : Bool), pX7_number σ lo hi (-1) = some (x, sA σ 33 f) ∧ pX11_number μ lo hi = some (y, sA μ 0 g) ∧ TS v (sA σ 33 f) (sA μ 0 g) p' ok' ∧ f 1 = σ 33 1 ∧ (∀ i, i < 13 ∨ 17 < i → g i = μ 0 i) ∧ (ok' = true → ok = true ∧ p < p' ∧ ∃ n, x = nI n ∧ y = nI n ∧ n < 2 ^ 31 ∧ pX10_isOutside (nI n) lo hi = 0) := by
  cases ok
  · obtain ⟨hT, hpL, h6, h17, h14⟩ := h
    refine ⟨0, μ 0 16, σ 33, μ 0, p, false, ?_, ?_, ⟨hT, hpL, h6, h17, h14⟩, rfl, fun _ _ => rfl, fun z => by cases z⟩
    · unfold pX7_number
      rw [sA_self, h6, if_neg (m1_ne (by have := hv.1; omega))]
    · unfold pX11_number
      rw [sA_self, Option.bind_some, due_bad h17, due_bad h17]
      split
      · split <;> rfl
      · rfl
  · by_cases hg : tkK v p = 2 ∧ pX10_isOutside (nI (tkV v p)) lo hi = 0
    · have hvl := val_lt hv hg.1
      obtain ⟨k1, g, m1, m2, m3⟩ := num_ok hv h hg.1 hg.2
      obtain ⟨f, c1, c2, c3, c4⟩ := k1 (-1) (m1_ne (by omega))
      obtain ⟨hT, hpL, h2, h6, h17, hM⟩ := h
      refine ⟨_, _, f, g, tkE v p, true, c1, m1, ⟨⟨⟨c2.trans hT.1.1, hT.1.2⟩, ⟨(m3 1 (by decide)).trans hT.2.1, hT.2.2⟩⟩, tkE_le hpL, c3, c4, (m3 17 (by decide)).trans h17, m2⟩, c2, fun i hi => m3 i (by omega), fun _ => ⟨rfl, tkE_gt (by rw [hg.1]; decide), _, rfl, rfl, by omega, hg.2⟩⟩
    · obtain ⟨hT, hpL, h2, h6, h17, hM⟩ := h
      obtain ⟨f, e1, f1, f6, f2, f4, f3, f5⟩ := c_next (σ := σ) hv (f := σ 33) hT.1 h2 hpL
      rw [sA_self] at e1
      have hk := kind_le v p
      have hsl := tkS_le hpL
      refine ⟨0, μ 0 16, upd f 6 (nI (tkS v p)), upd (μ 0) 17 1, tkS v p, false, ?_, ?_, ⟨⟨⟨f1.trans hT.1.1, hT.1.2⟩, ⟨hT.2.1, hT.2.2⟩⟩, hsl, rfl, rfl, hM.2.1⟩, f1, fun i hi => pk_un (by omega), fun z => by cases z⟩
      · unfold pX7_number
        rw [if_pos h6]
        refine (bnd e1).trans ?_
        show (if f 3 = 2 then (if pX10_isOutside (f 5) lo hi = 0 then (if f 5 = -1 then (some (s1 (sA σ 33 f) 33 6 (f 4))).bind _ else some (f 5, sA σ 33 f)) else (some (s1 (sA σ 33 f) 33 6 (f 4))).bind _) else (some (s1 (sA σ 33 f) 33 6 (f 4))).bind _) = _
        rw [f3, f4, s33]
        by_cases hK : tkK v p = 2
        · have ho : ¬ pX10_isOutside (nI (tkV v p)) lo hi = 0 := fun z => hg ⟨hK, z⟩
          rw [f5 (Or.inr hK), hK, if_pos (show nI 2 = 2 from rfl), if_neg ho]
          rfl
        · rw [if_neg (show ¬ nI (tkK v p) = 2 from fun z => hK ((nI_eq (b := 2) (by omega) (by decide)).mp z))]
          rfl
      · unfold pX11_number
        rw [Option.bind_some, due_no h17, hM.2.2.1]
        by_cases hK : tkK v p = 2
        · have ho : pX10_isOutside (nI (tkV v p)) lo hi = 1 := by
            rcases z_pX10_isOutside (nI (tkV v p)) lo hi with z | z
            · exact absurd ⟨hK, z⟩ hg
            · exact z
          rw [if_pos (show nI (srt (tkK v p)) = 2 from (srt_I (k := 2) hk (by decide)).mpr hK), hM.2.2.2 (Or.inr hK), if_pos (in_no ho)]
          rfl
        · rw [if_neg (show ¬ nI (srt (tkK v p)) = 2 from fun z => hK ((srt_I (k := 2) hk (by decide)).mp z))]
          rfl
def dueS (μ : Sg) : Option Sg := if μ 0 15 = 3 then pX11_due μ 1 else pX11_due μ 0
theorem stop_sim (hv : txtOK v) {p : Nat} {ok : Bool} (h : TS v σ μ p ok) : ∃ (f g : Nat → Int32) (p' : Nat) (ok' : Bool), pX7_stops σ = some (if ok' then 1 else 0, sA σ 33 f) ∧ dueS μ = some (sA μ 0 g) ∧ TS v (sA σ 33 f) (sA μ 0 g) p' ok' ∧ f 1 = σ 33 1 ∧ (∀ i, i < 13 ∨ 17 < i → g i = μ 0 i) ∧ (ok' = true → ok = true ∧ p < p') := by
  cases ok
  · obtain ⟨hT, hpL, h6, h17, h14⟩ := h
    refine ⟨σ 33, μ 0, p, false, ?_, ?_, ⟨hT, hpL, h6, h17, h14⟩, rfl, fun _ _ => rfl, fun z => by cases z⟩
    · unfold pX7_stops
      rw [sA_self, h6, if_neg (m1_ne (by have := hv.1; omega))]
      rfl
    · unfold dueS
      rw [sA_self, due_bad h17, due_bad h17]
      split <;> rfl
  · obtain ⟨hT, hpL, h2, h6, h17, hM⟩ := h
    obtain ⟨f, e1, f1, f6, f2, f4, f3, f5⟩ := c_next (σ := σ) hv (f := σ 33) hT.1 h2 hpL
    rw [sA_self] at e1
    have hk := kind_le v p
    have hsl := tkS_le hpL
    have h200 := hv.1
    by_cases hK : tkK v p = 3
    · obtain ⟨g, s1, s2, s3⟩ := go_on hv hT (tkE_le hpL) hM.1
      refine ⟨f, g, tkE v p, true, ?_, ?_, ⟨⟨⟨f1.trans hT.1.1, hT.1.2⟩, ⟨(s3 1 (by decide)).trans hT.2.1, hT.2.2⟩⟩, tkE_le hpL, f2, f6.trans h6, (s3 17 (by decide)).trans h17, s2⟩, f1, fun i hi => s3 i (by omega), fun _ => ⟨rfl, tkE_gt (by rw [hK]; decide)⟩⟩
      · unfold pX7_stops
        rw [if_pos h6]
        refine (bnd e1).trans ?_
        show (if f 3 = 3 then (if f 6 = -1 then some (1, sA σ 33 f) else _) else _) = _
        rw [f3, hK, if_pos (show nI 3 = 3 from rfl), f6, if_pos h6]
        rfl
      · unfold dueS
        rw [hM.2.2.1, if_pos (show nI (srt (tkK v p)) = 3 from (srt_I (k := 3) hk (by decide)).mpr hK), due_yes h17]
        exact s1
    · refine ⟨upd f 6 (nI (tkS v p)), upd (μ 0) 17 1, tkS v p, false, ?_, ?_, ⟨⟨⟨f1.trans hT.1.1, hT.1.2⟩, ⟨hT.2.1, hT.2.2⟩⟩, hsl, rfl, rfl, hM.2.1⟩, f1, fun i hi => pk_un (by omega), fun z => by cases z⟩
      · unfold pX7_stops
        rw [if_pos h6]
        refine (bnd e1).trans ?_
        show (if f 3 = 3 then _ else (some (s1 (sA σ 33 f) 33 6 (f 4))).bind fun σ3 => (if (σ3 33 6) = (-1) then some (1, σ3) else some (0, σ3))) = _
        rw [f3, f4, s33, if_neg (show ¬ nI (tkK v p) = 3 from fun z => hK ((nI_eq (b := 3) (by omega) (by decide)).mp z)), Option.bind_some]
        show (if nI (tkS v p) = -1 then _ else _) = _
        rw [if_neg (m1_ne (by omega))]
        rfl
      · unfold dueS
        rw [hM.2.2.1, if_neg (show ¬ nI (srt (tkK v p)) = 3 from fun z => hK ((srt_I (k := 3) hk (by decide)).mp z)), due_no h17]
        rfl
end G
