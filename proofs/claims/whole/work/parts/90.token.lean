/-! the text, token by token: both readers find the same -/
def byteIn (v : Vw) (lo hi q : Nat) : Bool := decide (lo ≤ v 13 q) && decide (v 13 q ≤ hi)
def runK (v : Vw) (lo hi : Nat) : Nat → Nat → Nat
  | 0, q => q
  | k + 1, q => if byteIn v lo hi q then runK v lo hi k (q + 1) else q
theorem runK_ge {v : Vw} {lo hi : Nat} : ∀ {k q : Nat}, q ≤ runK v lo hi k q
  | 0, q => Nat.le_refl q
  | k + 1, q => by
    have := runK_ge (v := v) (lo := lo) (hi := hi) (k := k) (q := q + 1)
    rw [runK]
    split <;> omega
theorem runK_le {v : Vw} {lo hi : Nat} : ∀ {k q : Nat}, runK v lo hi k q ≤ q + k
  | 0, q => Nat.le_refl q
  | k + 1, q => by
    have := runK_le (v := v) (lo := lo) (hi := hi) (k := k) (q := q + 1)
    rw [runK]
    split <;> omega
def run (v : Vw) (lo hi q : Nat) : Nat := runK v lo hi (v 0 2 - q) q
/-- the number's digits, gathered as long as it is small -/
def accK (v : Vw) : Nat → Nat → Nat → Nat
  | 0, _, x => x
  | k + 1, q, x => if byteIn v 48 57 q then accK v k (q + 1) (if x ≤ 99 then 10 * x + (v 13 q - 48) else x) else x
theorem accK_ge {v : Vw} : ∀ {k q x : Nat}, x ≤ accK v k q x
  | 0, _, x => Nat.le_refl x
  | k + 1, q, x => by
    have := accK_ge (v := v) (k := k) (q := q + 1) (x := if x ≤ 99 then 10 * x + (v 13 q - 48) else x)
    rw [accK]
    split
    · refine Nat.le_trans ?_ this
      split <;> omega
    · exact Nat.le_refl x
def numOK (v : Vw) (s e : Nat) : Bool := decide (e - s = 1) || (decide (e - s = 2) && decide (48 < v 13 s))
def kindS (v : Vw) (s : Nat) : Nat := if s < v 0 2 then (if byteIn v 97 122 s then 1 else if byteIn v 48 57 s then (if numOK v s (run v 48 57 s) then 2 else 4) else if v 13 s = 59 then 3 else 4) else 0
def endS (v : Vw) (s : Nat) : Nat := if s < v 0 2 then (if byteIn v 97 122 s then run v 97 122 s else if byteIn v 48 57 s then run v 48 57 s else s + 1) else s
def valS (v : Vw) (s : Nat) : Nat := if byteIn v 97 122 s then (if run v 97 122 s - s = 1 then v 13 s else 0) else (if run v 48 57 s - s = 1 then v 13 s - 48 else 10 * (v 13 s - 48) + (v 13 (s + 1) - 48))
def tkS (v : Vw) (p : Nat) : Nat := run v 32 32 p
def tkK (v : Vw) (p : Nat) : Nat := kindS v (tkS v p)
def tkE (v : Vw) (p : Nat) : Nat := endS v (tkS v p)
def tkV (v : Vw) (p : Nat) : Nat := valS v (tkS v p)
def srt (K : Nat) : Nat := if K = 0 then 4 else if K = 4 then 5 else K
/-- what the text is -/
def txtOK (v : Vw) : Prop := v 0 2 ≤ 200 ∧ ∀ i, i < v 0 2 → v 13 i < 256
theorem run_ge {v : Vw} {lo hi q : Nat} : q ≤ run v lo hi q := runK_ge
theorem run_le {v : Vw} {lo hi q : Nat} (h : q ≤ v 0 2) : run v lo hi q ≤ v 0 2 := by
  have := runK_le (v := v) (lo := lo) (hi := hi) (k := v 0 2 - q) (q := q)
  unfold run
  omega
theorem run_1 {v : Vw} {lo hi q : Nat} (h : q < v 0 2) (hb : byteIn v lo hi q = true) : run v lo hi q = run v lo hi (q + 1) := by
  unfold run
  rw [show v 0 2 - q = v 0 2 - (q + 1) + 1 by omega, runK, if_pos hb]
theorem run_0 {v : Vw} {lo hi q : Nat} (hb : q < v 0 2 → byteIn v lo hi q = false) : run v lo hi q = q := by
  unfold run
  cases h : v 0 2 - q with
  | zero => rfl
  | succ k => rw [runK, hb (by omega), if_neg (by decide)]
theorem tkS_le {v : Vw} {p : Nat} (h : p ≤ v 0 2) : tkS v p ≤ v 0 2 := run_le h
theorem endS_le {v : Vw} {s : Nat} (h : s ≤ v 0 2) : endS v s ≤ v 0 2 := by
  unfold endS
  split
  · split
    · exact run_le h
    · split
      · exact run_le h
      · omega
  · exact h
theorem endS_gt {v : Vw} {s : Nat} (h : kindS v s ≠ 0) : s < endS v s := by
  unfold kindS at h
  unfold endS
  by_cases q : s < v 0 2
  · rw [if_pos q]
    split
    · rename_i hb
      rw [run_1 q hb]
      exact run_ge
    · split
      · rename_i _ hb
        rw [run_1 q hb]
        exact run_ge
      · omega
  · rw [if_neg q] at h
    exact absurd rfl h
theorem tkE_le {v : Vw} {p : Nat} (h : p ≤ v 0 2) : tkE v p ≤ v 0 2 := endS_le (tkS_le h)
theorem tkE_gt {v : Vw} {p : Nat} (h : tkK v p ≠ 0) : p < tkE v p := Nat.lt_of_le_of_lt run_ge (endS_gt h)
/-- what the gathered number says -/
theorem acc_num {v : Vw} (hv : txtOK v) {s : Nat} (h : s < v 0 2) (hb : byteIn v 48 57 s = true) : accK v (v 0 2 - s) s 0 ≤ 999 ∧ ((99 < accK v (v 0 2 - s) s 0 ∨ (v 13 s = 48 ∧ 1 < run v 48 57 s - s)) ↔ numOK v s (run v 48 57 s) = false) ∧ (numOK v s (run v 48 57 s) = true → accK v (v 0 2 - s) s 0 = if run v 48 57 s - s = 1 then v 13 s - 48 else 10 * (v 13 s - 48) + (v 13 (s + 1) - 48)) := by
  have hb' := hb
  unfold byteIn at hb
  rw [Bool.and_eq_true, decide_eq_true_eq, decide_eq_true_eq] at hb
  have e0 : accK v (v 0 2 - s) s 0 = accK v (v 0 2 - (s + 1)) (s + 1) (v 13 s - 48) := by
    rw [show v 0 2 - s = v 0 2 - (s + 1) + 1 by omega, accK, if_pos hb', if_pos (by omega)]
    congr 1
    omega
  have up : ∀ (k q x : Nat), x ≤ 999 → accK v k q x ≤ 999 := by
    intro k
    induction k with
    | zero => intro q x hx; exact hx
    | succ k ih =>
      intro q x hx
      rw [accK]
      split
      · rename_i hd
        unfold byteIn at hd
        rw [Bool.and_eq_true, decide_eq_true_eq, decide_eq_true_eq] at hd
        refine ih _ _ ?_
        split <;> omega
      · exact hx
  refine ⟨up _ _ _ (by omega), ?_⟩
  rw [e0, run_1 h hb']
  by_cases h1 : s + 1 < v 0 2 ∧ byteIn v 48 57 (s + 1) = true
  · obtain ⟨h1, hb1'⟩ := h1
    have hb1 := hb1'
    unfold byteIn at hb1
    rw [Bool.and_eq_true, decide_eq_true_eq, decide_eq_true_eq] at hb1
    have e1 : accK v (v 0 2 - (s + 1)) (s + 1) (v 13 s - 48) = accK v (v 0 2 - (s + 1 + 1)) (s + 1 + 1) (10 * (v 13 s - 48) + (v 13 (s + 1) - 48)) := by
      rw [show v 0 2 - (s + 1) = v 0 2 - (s + 1 + 1) + 1 by omega, accK, if_pos hb1', if_pos (by omega)]
    rw [e1, run_1 h1 hb1']
    by_cases h2 : s + 2 < v 0 2 ∧ byteIn v 48 57 (s + 2) = true
    · obtain ⟨h2, hb2'⟩ := h2
      have hb2 := hb2'
      unfold byteIn at hb2
      rw [Bool.and_eq_true, decide_eq_true_eq, decide_eq_true_eq] at hb2
      have e2 : accK v (v 0 2 - (s + 1 + 1)) (s + 1 + 1) (10 * (v 13 s - 48) + (v 13 (s + 1) - 48)) = accK v (v 0 2 - (s + 3)) (s + 3) (10 * (10 * (v 13 s - 48) + (v 13 (s + 1) - 48)) + (v 13 (s + 2) - 48)) := by
        rw [show v 0 2 - (s + 1 + 1) = v 0 2 - (s + 3) + 1 by omega, accK, if_pos hb2', if_pos (by omega)]
      have hr := run_ge (v := v) (lo := 48) (hi := 57) (q := s + 3)
      have ha := accK_ge (v := v) (k := v 0 2 - (s + 3)) (q := s + 3) (x := 10 * (10 * (v 13 s - 48) + (v 13 (s + 1) - 48)) + (v 13 (s + 2) - 48))
      rw [e2, show run v 48 57 (s + 1 + 1) = run v 48 57 (s + 3) from run_1 h2 hb2']
      have hn : numOK v s (run v 48 57 (s + 3)) = false := by
        unfold numOK
        rw [decide_eq_false (by omega), decide_eq_false (show ¬ run v 48 57 (s + 3) - s = 2 by omega)]
        rfl
      rw [hn]
      refine ⟨⟨fun _ => rfl, fun _ => ?_⟩, fun z => by cases z⟩
      by_cases z : v 13 s = 48
      · exact Or.inr ⟨z, by omega⟩
      · exact Or.inl (by omega)
    · have hr : run v 48 57 (s + 1 + 1) = s + 2 := run_0 (fun q => by
        cases hc : byteIn v 48 57 (s + 1 + 1)
        · rfl
        · exact absurd ⟨q, hc⟩ h2)
      have ha : accK v (v 0 2 - (s + 1 + 1)) (s + 1 + 1) (10 * (v 13 s - 48) + (v 13 (s + 1) - 48)) = 10 * (v 13 s - 48) + (v 13 (s + 1) - 48) := by
        cases hk : v 0 2 - (s + 1 + 1) with
        | zero => rfl
        | succ k =>
          rw [accK, if_neg]
          intro hc
          exact h2 ⟨by omega, hc⟩
      rw [hr, ha]
      unfold numOK
      rw [decide_eq_false (show ¬ s + 2 - s = 1 by omega), decide_eq_true (show s + 2 - s = 2 by omega), Bool.false_or, Bool.true_and, if_neg (show ¬ s + 2 - s = 1 by omega)]
      refine ⟨?_, fun _ => rfl⟩
      rw [decide_eq_false_iff_not]
      constructor
      · rintro (z | z) <;> omega
      · intro z
        exact Or.inr ⟨by omega, by omega⟩
  · have hr : run v 48 57 (s + 1) = s + 1 := run_0 (fun q => by
      cases hc : byteIn v 48 57 (s + 1)
      · rfl
      · exact absurd ⟨q, hc⟩ h1)
    have ha : accK v (v 0 2 - (s + 1)) (s + 1) (v 13 s - 48) = v 13 s - 48 := by
      cases hk : v 0 2 - (s + 1) with
      | zero => rfl
      | succ k =>
        rw [accK, if_neg]
        intro hc
        exact h1 ⟨by omega, hc⟩
    rw [hr, ha]
    unfold numOK
    rw [decide_eq_true (show s + 1 - s = 1 by omega), Bool.true_or, if_pos (show s + 1 - s = 1 by omega)]
    refine ⟨⟨?_, fun z => by cases z⟩, fun _ => rfl⟩
    rintro (z | z) <;> omega
section G
variable {σ μ : Sg} {v : Vw}
theorem out_b {lo hi q : Nat} (h : v 13 q < 256) (h2 : hi < 2 ^ 31) (h3 : lo < 2 ^ 31) : pX10_isOutside (nI (v 13 q)) (nI lo) (nI hi) = if byteIn v lo hi q then 0 else 1 := by
  rw [out_nI (by omega) h2 h3]
  unfold byteIn
  by_cases a : lo ≤ v 13 q
  · by_cases b : v 13 q ≤ hi
    · rw [if_pos ⟨a, b⟩, decide_eq_true a, decide_eq_true b]; rfl
    · rw [if_neg (fun z => b z.2), decide_eq_false b, Bool.and_false]; rfl
  · rw [if_neg (fun z => a z.1), decide_eq_false a, Bool.false_and]; rfl
/-- the class's side of the text -/
def txtC (σ : Sg) (v : Vw) (f : Nat → Int32) : Prop := f 1 = nI (v 0 2) ∧ ∀ i, i < v 0 2 → σ 34 i = nI (v 13 i)
theorem c_run (hv : txtOK v) {f : Nat → Int32} (hT : txtC σ v f) {lo hi p : Nat} (h2 : hi < 2 ^ 31) (h3 : lo < 2 ^ 31) (hp : f 2 = nI p) (hpL : p ≤ v 0 2) : pX7_endOfRun (sA σ 33 f) (nI lo) (nI hi) = some (nI (run v lo hi p)) := by
  obtain ⟨l1, l2⟩ := hv
  have loop : ∀ (k q i n : Nat), q + k = v 0 2 → q = p + i → k < n → pX7_endOfRun_L8 (sA σ 33 f) (nI lo) (nI hi) n (nI q) (nI i) = some (nI (runK v lo hi k q)) := by
    intro k
    induction k with
    | zero =>
      intro q i n hq hi2 hn
      obtain ⟨n, rfl⟩ : ∃ m, n = m + 1 := ⟨n - 1, by omega⟩
      rw [pX7_endOfRun_L8, if_pos (show (sA σ 33 f) 33 1 ≤ nI q by
        show f 1 ≤ nI q
        rw [hT.1]; exact nI_le (by omega) (by omega))]
      split <;> rfl
    | succ k ih =>
      intro q i n hq hi2 hn
      obtain ⟨n, rfl⟩ : ∃ m, n = m + 1 := ⟨n - 1, by omega⟩
      have hb := l2 q (by omega)
      rw [pX7_endOfRun_L8, if_neg (show ¬ (200 : Int32) ≤ nI i from nI_ge (b := 200) (by omega) (by decide)), if_neg (show ¬ (sA σ 33 f) 33 1 ≤ nI q by
        show ¬ f 1 ≤ nI q
        rw [hT.1]; exact nI_ge (by omega) (by omega)), show (sA σ 33 f) 34 = σ 34 from rfl, at_nI (by omega) (by decide), hT.2 q (by omega), out_b hb h2 h3, runK, nI_1, nI_1]
      cases byteIn v lo hi q
      · rfl
      · rw [if_pos (by decide)]
        exact ih (q + 1) (i + 1) n (by omega) (by omega) (by omega)
  unfold pX7_endOfRun
  have key := loop (v 0 2 - p) p 0 2000 (by omega) (by omega) (by omega)
  rw [nI_0] at key
  refine (bnd rfl).trans ?_
  show (pX7_endOfRun_L8 (sA σ 33 f) (nI lo) (nI hi) 2000 (f 2) 0).bind _ = _
  rw [hp]
  exact (bnd key).trans rfl
theorem s33 {f : Nat → Int32} {i : Nat} {x : Int32} : s1 (sA σ 33 f) 33 i x = sA σ 33 (upd f i x) := by rw [s1_sA, sA_eq, sA_sA]
/-- what the class's reader holds behind a token -/
def NT (v : Vw) (p : Nat) (f g : Nat → Int32) : Prop := g 1 = f 1 ∧ g 6 = f 6 ∧ g 2 = nI (tkE v p) ∧ g 4 = nI (tkS v p) ∧ g 3 = nI (tkK v p) ∧ (tkK v p = 1 ∨ tkK v p = 2 → g 5 = nI (tkV v p))
theorem c_next (hv : txtOK v) {f : Nat → Int32} (hT : txtC σ v f) {p : Nat} (hp : f 2 = nI p) (hpL : p ≤ v 0 2) : ∃ g, pX7_nextToken (sA σ 33 f) = some (sA σ 33 g) ∧ NT v p f g := by
  have hv' := hv
  obtain ⟨l1, l2⟩ := hv
  have hs := tkS_le hpL
  have r0 := c_run hv' hT (lo := 32) (hi := 32) (by decide) (by decide) hp hpL
  have r0 : pX7_endOfRun (sA σ 33 f) 32 32 = some (nI (tkS v p)) := r0
  generalize hS : tkS v p = s at r0 hs
  unfold pX7_nextToken NT tkK tkE tkV
  rw [hS]
  have e7 : ∀ (P : Sg → Option Sg), ((pX7_endOfRun (sA σ 33 f) 32 32).bind fun v1 => (some (s1 (sA σ 33 f) 33 2 v1)).bind fun σ3 => (some (s1 σ3 33 4 (σ3 33 2))).bind fun σ5 => (some (s1 σ5 33 5 (pX10_at (σ5 34) 200 (σ5 33 4)))).bind P) = P (sA σ 33 (upd (upd (upd f 2 (nI s)) 4 (nI s)) 5 (pX10_at (σ 34) 200 (nI s)))) := by
    intro P
    rw [r0, Option.bind_some, Option.bind_some, s33, Option.bind_some, s33, Option.bind_some, s33]
    rfl
  rw [e7]
  show ∃ g, (if nI s < f 1 then _ else _) = some (sA σ 33 g) ∧ _
  rw [hT.1]
  by_cases hsL : s < v 0 2
  · have hb := l2 s hsL
    have ea : pX10_at (σ 34) 200 (nI s) = nI (v 13 s) := by rw [at_nI (by omega) (by decide), hT.2 s hsL]
    rw [ea, if_pos (nI_lt hsL (by omega))]
    unfold kindS endS valS
    rw [if_pos hsL, if_pos hsL]
    have hT7 : txtC σ v (upd (upd (upd f 2 (nI s)) 4 (nI s)) 5 (nI (v 13 s))) := ⟨hT.1, hT.2⟩
    have d2 : ∀ g : Nat → Int32, (sA σ 33 g) 33 2 = g 2 := fun _ => rfl
    have oL : pX10_isOutside (nI (v 13 s)) 97 122 = if byteIn v 97 122 s then 0 else 1 := out_b (lo := 97) (hi := 122) hb (by decide) (by decide)
    have oD : pX10_isOutside (nI (v 13 s)) 48 57 = if byteIn v 48 57 s then 0 else 1 := out_b (lo := 48) (hi := 57) hb (by decide) (by decide)
    show ∃ g, (if pX10_isOutside (nI (v 13 s)) 97 122 = 0 then _ else if pX10_isOutside (nI (v 13 s)) 48 57 = 0 then _ else _) = some (sA σ 33 g) ∧ _
    rw [oL, oD]
    have h10 : ((1 : Int32) = 0) = False := eq_false (by decide)
    cases hL : byteIn v 97 122 s
    · simp only [Bool.false_eq_true, ↓reduceIte, h10]
      cases hD : byteIn v 48 57 s
      · simp only [Bool.false_eq_true, ↓reduceIte, h10]
        rw [Option.bind_some, s33]
        by_cases h59 : v 13 s = 59
        · rw [if_pos h59]
          refine ⟨upd (upd (upd (upd (upd f 2 (nI s)) 4 (nI s)) 5 (nI (v 13 s))) 2 (nI (s + 1))) 3 3, ?_, hT.1, rfl, rfl, rfl, rfl, fun z => by rcases z with z | z <;> cases z⟩
          show (if nI (v 13 s) = 59 then _ else _) = _
          rw [if_pos (by rw [h59]; rfl), Option.bind_some, s33]
          show some (sA σ 33 (upd (upd _ 2 (nI s + 1)) 3 3)) = _
          rw [nI_1]
        · rw [if_neg h59]
          refine ⟨upd (upd (upd (upd (upd f 2 (nI s)) 4 (nI s)) 5 (nI (v 13 s))) 2 (nI (s + 1))) 3 4, ?_, hT.1, rfl, rfl, rfl, rfl, fun z => by rcases z with z | z <;> cases z⟩
          show (if nI (v 13 s) = 59 then _ else _) = _
          rw [if_neg (show ¬ nI (v 13 s) = 59 from fun z => h59 ((nI_eq (b := 59) (by omega) (by decide)).mp z)), Option.bind_some, s33]
          show some (sA σ 33 (upd (upd _ 2 (nI s + 1)) 3 4)) = _
          rw [nI_1]
      · simp only [↓reduceIte, eq_self]
        have hbd := hD
        unfold byteIn at hbd
        rw [Bool.and_eq_true, decide_eq_true_eq, decide_eq_true_eq] at hbd
        have r1 : pX7_endOfRun (sA σ 33 (upd (upd (upd f 2 (nI s)) 4 (nI s)) 5 (nI (v 13 s)))) 48 57 = some (nI (run v 48 57 s)) := c_run hv' hT7 (lo := 48) (hi := 57) (by decide) (by decide) rfl (by omega)
        rw [r1, Option.bind_some, Option.bind_some, s33]
        have hre := run_le (v := v) (lo := 48) (hi := 57) hs
        have hrg := run_ge (v := v) (lo := 48) (hi := 57) (q := s)
        have hr1 := run_1 hsL hD
        have hrg1 := run_ge (v := v) (lo := 48) (hi := 57) (q := s + 1)
        generalize hg : upd (upd (upd (upd f 2 (nI s)) 4 (nI s)) 5 (nI (v 13 s))) 2 (nI (run v 48 57 s)) = gg
        have q1 : gg 1 = f 1 := by rw [← hg]; rfl
        have q2 : gg 2 = nI (run v 48 57 s) := by rw [← hg]; rfl
        have q4 : gg 4 = nI s := by rw [← hg]; rfl
        have q6 : gg 6 = f 6 := by rw [← hg]; rfl
        have hvd : pX7_valueOfDigits (sA σ 33 gg) = if numOK v s (run v 48 57 s) then nI (if run v 48 57 s - s = 1 then v 13 s - 48 else 10 * (v 13 s - 48) + (v 13 (s + 1) - 48)) else -1 := by
          unfold pX7_valueOfDigits
          show (if gg 2 - gg 4 = 1 then pX10_at (σ 34) 200 (gg 4) - 48 else if gg 2 - gg 4 = 2 then (if pX10_at (σ 34) 200 (gg 4) - 48 ≤ 0 then -1 else (pX10_at (σ 34) 200 (gg 4) - 48) * 10 + pX10_at (σ 34) 200 (gg 4 + 1) - 48) else -1) = _
          rw [q2, q4, pk_sub hrg, ea, show (48 : Int32) = nI 48 from rfl, pk_sub (show 48 ≤ v 13 s by omega)]
          unfold numOK
          by_cases w1 : run v 48 57 s - s = 1
          · rw [if_pos (by rw [w1]; rfl), decide_eq_true w1, Bool.true_or, if_pos rfl, if_pos w1]
          · rw [if_neg (show ¬ nI (run v 48 57 s - s) = 1 from fun z => w1 ((nI_eq (b := 1) (by omega) (by decide)).mp z)), decide_eq_false w1, Bool.false_or]
            by_cases w2 : run v 48 57 s - s = 2
            · have hs1 : s + 1 < v 0 2 := by omega
              have hd1 : byteIn v 48 57 (s + 1) = true := by
                cases hc : byteIn v 48 57 (s + 1)
                · have := run_0 (v := v) (lo := 48) (hi := 57) (q := s + 1) (fun _ => hc)
                  omega
                · rfl
              unfold byteIn at hd1
              rw [Bool.and_eq_true, decide_eq_true_eq, decide_eq_true_eq] at hd1
              rw [if_pos (by rw [w2]; rfl), decide_eq_true w2, Bool.true_and, nI_1, at_nI (show s + 1 < 200 by omega) (by decide), hT.2 (s + 1) hs1]
              by_cases w3 : 48 < v 13 s
              · rw [if_neg (show ¬ nI (v 13 s - 48) ≤ 0 from nI_nle (by omega) (by omega)), decide_eq_true w3, if_pos rfl, if_neg w1, show nI (v 13 s - 48) * 10 = nI ((v 13 s - 48) * 10) from pk_mul _ 10, nI_add, pk_sub (by omega)]
                congr 1
                omega
              · rw [if_pos (show nI (v 13 s - 48) ≤ 0 by rw [show v 13 s - 48 = 0 by omega]; decide), decide_eq_false w3]
                rfl
            · rw [if_neg (show ¬ nI (run v 48 57 s - s) = 2 from fun z => w2 ((nI_eq (b := 2) (by omega) (by decide)).mp z)), decide_eq_false w2]
              rfl
        rw [hvd, Option.bind_some, s33]
        cases hok : numOK v s (run v 48 57 s)
        · refine ⟨upd (upd gg 5 (-1)) 3 4, ?_, q1.trans hT.1, q6, q2, q4, rfl, fun z => by rcases z with z | z <;> cases z⟩
          show (if (0 : Int32) ≤ -1 then _ else _) = _
          rw [if_neg (by decide), Option.bind_some, s33]
          rfl
        · refine ⟨upd (upd gg 5 (nI (if run v 48 57 s - s = 1 then v 13 s - 48 else 10 * (v 13 s - 48) + (v 13 (s + 1) - 48)))) 3 2, ?_, q1.trans hT.1, q6, q2, q4, rfl, fun _ => rfl⟩
          show (if (0 : Int32) ≤ nI _ then _ else _) = _
          rw [if_pos (nI_pos' (by
            have : v 13 (s + 1) - 48 ≤ v 13 (s + 1) := Nat.sub_le _ _
            unfold numOK at hok
            by_cases w1 : run v 48 57 s - s = 1
            · rw [if_pos w1]; omega
            · rw [if_neg w1]
              rw [decide_eq_false w1, Bool.false_or, Bool.and_eq_true, decide_eq_true_eq] at hok
              have := l2 (s + 1) (by omega)
              omega)), Option.bind_some, s33]
          rfl
    · simp only [↓reduceIte, eq_self]
      have r1 : pX7_endOfRun (sA σ 33 (upd (upd (upd f 2 (nI s)) 4 (nI s)) 5 (nI (v 13 s)))) 97 122 = some (nI (run v 97 122 s)) := c_run hv' hT7 (lo := 97) (hi := 122) (by decide) (by decide) rfl (by omega)
      have hre := run_le (v := v) (lo := 97) (hi := 122) hs
      have hrg := run_ge (v := v) (lo := 97) (hi := 122) (q := s)
      rw [r1, Option.bind_some, Option.bind_some, s33, Option.bind_some, s33]
      generalize hg : upd (upd (upd (upd (upd f 2 (nI s)) 4 (nI s)) 5 (nI (v 13 s))) 2 (nI (run v 97 122 s))) 3 1 = gg
      have q1 : gg 1 = f 1 := by rw [← hg]; rfl
      have q2 : gg 2 = nI (run v 97 122 s) := by rw [← hg]; rfl
      have q3 : gg 3 = nI 1 := by rw [← hg]; rfl
      have q4 : gg 4 = nI s := by rw [← hg]; rfl
      have q5 : gg 5 = nI (v 13 s) := by rw [← hg]; rfl
      have q6 : gg 6 = f 6 := by rw [← hg]; rfl
      show ∃ g, (if gg 2 - gg 4 = 1 then (some (s1 (sA σ 33 gg) 33 5 (gg 5))).bind _ else (some (s1 (sA σ 33 gg) 33 5 0)).bind _) = some (sA σ 33 g) ∧ _
      rw [q2, q4, pk_sub hrg, s33, s33]
      by_cases w1 : run v 97 122 s - s = 1
      · refine ⟨upd gg 5 (gg 5), ?_, q1.trans hT.1, q6, q2, q4, q3, fun _ => ?_⟩
        · rw [if_pos (by rw [w1]; rfl)]; rfl
        · rw [if_pos w1]; exact q5
      · refine ⟨upd gg 5 0, ?_, q1.trans hT.1, q6, q2, q4, q3, fun _ => ?_⟩
        · rw [if_neg (show ¬ nI (run v 97 122 s - s) = 1 from fun z => w1 ((nI_eq (b := 1) (by omega) (by decide)).mp z))]; rfl
        · rw [if_neg w1]; rfl
  · rw [if_neg (nI_nlt (by omega) (by omega)), Option.bind_some, s33]
    unfold kindS endS
    rw [if_neg hsL, if_neg hsL]
    exact ⟨_, rfl, hT.1, rfl, rfl, rfl, rfl, fun z => by rcases z with z | z <;> cases z⟩
end G
