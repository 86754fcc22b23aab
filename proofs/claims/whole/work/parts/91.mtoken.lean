/-! the model's reader, token by token -/
theorem byte_back : ∀ c, c < 256 → (nI c).toInt8.toInt32 &&& 255 = nI c := by decide +kernel
section G
variable {σ μ : Sg} {v : Vw}
theorem s00 {f : Nat → Int32} {i : Nat} {x : Int32} : s1 (sA μ 0 f) 0 i x = sA μ 0 (upd f i x) := by rw [s1_sA, sA_eq, sA_sA]
def txtM (μ : Sg) (v : Vw) (g : Nat → Int32) : Prop := g 1 = nI (v 0 2) ∧ ∀ i, i < v 0 2 → μ 1 i = (nI (v 13 i)).toInt8.toInt32
theorem m_here (hv : txtOK v) {g : Nat → Int32} (hT : txtM μ v g) {q : Nat} (h13 : g 13 = nI q) (hq : q ≤ v 0 2) : pX11_here (sA μ 0 g) = some (if q < v 0 2 then nI (v 13 q) else -9) := by
  obtain ⟨l1, l2⟩ := hv
  unfold pX11_here
  show (if g 1 ≤ g 13 then some (-9) else (rdA (sA μ 0 g) 1 200 (g 13)).bind fun v1 => some (v1 &&& 255)) = _
  rw [hT.1, h13]
  by_cases h : q < v 0 2
  · rw [if_neg (nI_ge h (by omega)), rd_nI (by omega) (by decide), Option.bind_some, show (sA μ 0 g) 1 q = μ 1 q from rfl, hT.2 q h, byte_back _ (l2 q h), if_pos h]
  · rw [if_pos (nI_le (by omega) (by omega)), if_neg h]
theorem in_b {lo hi q : Nat} (h : v 13 q < 256) (h2 : hi < 2 ^ 31) (h3 : lo < 2 ^ 31) : pX11_in (nI (v 13 q)) (nI lo) (nI hi) = if byteIn v lo hi q then 1 else 0 := by
  rw [in_out, out_b h h2 h3]
  cases byteIn v lo hi q <;> rfl
theorem m_blank (hv : txtOK v) : ∀ (k q n : Nat) (g : Nat → Int32), q + k = v 0 2 → k < n → txtM μ v g → g 13 = nI q → ∃ g', pX11_step_L0 n (sA μ 0 g) = some (sA μ 0 g') ∧ g' 13 = nI (runK v 32 32 k q) ∧ ∀ i, i ≠ 13 → g' i = g i := by
  have l1 := hv.1
  intro k
  induction k with
  | zero =>
    intro q n g hq hn hT h13
    obtain ⟨n, rfl⟩ : ∃ m, n = m + 1 := ⟨n - 1, by omega⟩
    refine ⟨g, ?_, h13, fun _ _ => rfl⟩
    rw [pX11_step_L0, m_here hv hT h13 (by omega), Option.bind_some, if_neg (show ¬ q < v 0 2 by omega), if_neg (by decide)]
  | succ k ih =>
    intro q n g hq hn hT h13
    obtain ⟨n, rfl⟩ : ∃ m, n = m + 1 := ⟨n - 1, by omega⟩
    have hb := hv.2 q (by omega)
    rw [pX11_step_L0, m_here hv hT h13 (by omega), Option.bind_some, if_pos (show q < v 0 2 by omega), runK]
    unfold byteIn
    by_cases e : v 13 q = 32
    · rw [if_pos (show nI (v 13 q) = 32 by rw [e]; rfl), decide_eq_true (by omega), decide_eq_true (by omega), if_pos (by decide), Option.bind_some, s00]
      obtain ⟨g', e1, e2, e3⟩ := ih (q + 1) n (upd g 13 (nI (q + 1))) (by omega) (by omega) ⟨hT.1, hT.2⟩ rfl
      refine ⟨g', ?_, e2, fun i hi => by rw [e3 i hi, pk_un hi]⟩
      rw [← e1]
      show pX11_step_L0 n (sA μ 0 (upd g 13 (g 13 + 1))) = _
      rw [h13, nI_1]
    · refine ⟨g, ?_, ?_, fun _ _ => rfl⟩
      · rw [if_neg (show ¬ nI (v 13 q) = 32 from fun z => e ((nI_eq (b := 32) (by omega) (by decide)).mp z))]
      · rw [h13, if_neg]
        rw [Bool.and_eq_true, decide_eq_true_eq, decide_eq_true_eq]
        omega
theorem m_word (hv : txtOK v) (x1 : Int32) : ∀ (k q n : Nat) (g : Nat → Int32), q + k = v 0 2 → k < n → txtM μ v g → g 13 = nI q → ∃ g', pX11_step_L178 x1 n (sA μ 0 g) = some (sA μ 0 g') ∧ g' 13 = nI (runK v 97 122 k q) ∧ ∀ i, i ≠ 13 → g' i = g i := by
  have l1 := hv.1
  intro k
  induction k with
  | zero =>
    intro q n g hq hn hT h13
    obtain ⟨n, rfl⟩ : ∃ m, n = m + 1 := ⟨n - 1, by omega⟩
    refine ⟨g, ?_, h13, fun _ _ => rfl⟩
    rw [pX11_step_L178, m_here hv hT h13 (by omega), Option.bind_some, if_neg (show ¬ q < v 0 2 by omega), if_pos (by decide)]
  | succ k ih =>
    intro q n g hq hn hT h13
    obtain ⟨n, rfl⟩ : ∃ m, n = m + 1 := ⟨n - 1, by omega⟩
    have hb := hv.2 q (by omega)
    have ib : pX11_in (nI (v 13 q)) 97 122 = if byteIn v 97 122 q then 1 else 0 := in_b (lo := 97) (hi := 122) hb (by decide) (by decide)
    rw [pX11_step_L178, m_here hv hT h13 (by omega), Option.bind_some, if_pos (show q < v 0 2 by omega), runK, ib]
    cases byteIn v 97 122 q
    · refine ⟨g, ?_, h13, fun _ _ => rfl⟩
      rw [if_pos (show (if false = true then (1 : Int32) else 0) = 0 from rfl)]
    · rw [if_neg (show ¬ (if true = true then (1 : Int32) else 0) = 0 by decide), if_pos rfl, Option.bind_some, s00]
      obtain ⟨g', e1, e2, e3⟩ := ih (q + 1) n (upd g 13 (nI (q + 1))) (by omega) (by omega) ⟨hT.1, hT.2⟩ rfl
      refine ⟨g', ?_, e2, fun i hi => by rw [e3 i hi, pk_un hi]⟩
      rw [← e1]
      show pX11_step_L178 x1 n (sA μ 0 (upd g 13 (g 13 + 1))) = _
      rw [h13, nI_1]
theorem m_digits (hv : txtOK v) (x1 : Int32) : ∀ (k q n x : Nat) (g : Nat → Int32), q + k = v 0 2 → k < n → txtM μ v g → g 13 = nI q → g 16 = nI x → x ≤ 999 → ∃ g', pX11_step_L65 x1 n (sA μ 0 g) = some (sA μ 0 g') ∧ g' 13 = nI (runK v 48 57 k q) ∧ g' 16 = nI (accK v k q x) ∧ ∀ i, i ≠ 13 → i ≠ 16 → g' i = g i := by
  have l1 := hv.1
  intro k
  induction k with
  | zero =>
    intro q n x g hq hn hT h13 h16 hx
    obtain ⟨n, rfl⟩ : ∃ m, n = m + 1 := ⟨n - 1, by omega⟩
    refine ⟨g, ?_, h13, h16, fun _ _ _ => rfl⟩
    rw [pX11_step_L65, m_here hv hT h13 (by omega), Option.bind_some, if_neg (show ¬ q < v 0 2 by omega), if_pos (by decide)]
  | succ k ih =>
    intro q n x g hq hn hT h13 h16 hx
    obtain ⟨n, rfl⟩ : ∃ m, n = m + 1 := ⟨n - 1, by omega⟩
    have hb := hv.2 q (by omega)
    have ib : pX11_in (nI (v 13 q)) 48 57 = if byteIn v 48 57 q then 1 else 0 := in_b (lo := 48) (hi := 57) hb (by decide) (by decide)
    rw [pX11_step_L65, m_here hv hT h13 (by omega), Option.bind_some, if_pos (show q < v 0 2 by omega), runK, accK, ib]
    cases hd : byteIn v 48 57 q
    · refine ⟨g, ?_, h13, h16, fun _ _ _ => rfl⟩
      rw [if_pos (show (if false = true then (1 : Int32) else 0) = 0 from rfl)]
    · unfold byteIn at hd
      rw [Bool.and_eq_true, decide_eq_true_eq, decide_eq_true_eq] at hd
      rw [if_neg (show ¬ (if true = true then (1 : Int32) else 0) = 0 by decide), if_pos rfl, if_pos rfl]
      show ∃ g', (if g 16 ≤ 99 then _ else _) = _ ∧ _
      rw [h16]
      by_cases w : x ≤ 99
      · rw [if_pos (show nI x ≤ 99 from nI_le (b := 99) w (by decide)), if_pos w, Option.bind_some, Option.bind_some, s00, Option.bind_some, s00]
        obtain ⟨g', e1, e2, e3, e4⟩ := ih (q + 1) n (10 * x + (v 13 q - 48)) (upd (upd g 16 (nI (10 * x + (v 13 q - 48)))) 13 (nI (q + 1))) (by omega) (by omega) ⟨hT.1, hT.2⟩ rfl rfl (by omega)
        refine ⟨g', ?_, e2, e3, fun i h1 h2 => by rw [e4 i h1 h2, pk_un h1, pk_un h2]⟩
        rw [← e1]
        show pX11_step_L65 x1 n (sA μ 0 (upd (upd g 16 (10 * g 16 + nI (v 13 q) - 48)) 13 (g 13 + 1))) = _
        rw [h13, nI_1, h16, show (10 : Int32) * nI x = nI (10 * x) from pk_mul 10 x, nI_add, show (48 : Int32) = nI 48 from rfl, pk_sub (by omega), show 10 * x + v 13 q - 48 = 10 * x + (v 13 q - 48) by omega]
      · rw [if_neg (show ¬ nI x ≤ 99 from nI_ge (a := 99) (by omega) (by omega)), if_neg w, Option.bind_some, s00, Option.bind_some, s00]
        obtain ⟨g', e1, e2, e3, e4⟩ := ih (q + 1) n x (upd (upd g 16 (nI x)) 13 (nI (q + 1))) (by omega) (by omega) ⟨hT.1, hT.2⟩ rfl rfl hx
        refine ⟨g', ?_, e2, e3, fun i h1 h2 => by rw [e4 i h1 h2, pk_un h1, pk_un h2]⟩
        rw [← e1]
        show pX11_step_L65 x1 n (sA μ 0 (upd (upd g 16 (g 16)) 13 (g 13 + 1))) = _
        rw [h13, nI_1, h16]
/-- what the model's reader holds: the token at p -/
def MT (v : Vw) (p : Nat) (g : Nat → Int32) : Prop := g 13 = nI (tkE v p) ∧ g 14 = nI (tkS v p) ∧ g 15 = nI (srt (tkK v p)) ∧ (tkK v p = 1 ∨ tkK v p = 2 → g 16 = nI (tkV v p))
theorem m_step (hv : txtOK v) {f : Nat → Int32} (hT : txtM μ v f) {p : Nat} (hp : f 13 = nI p) (hpL : p ≤ v 0 2) : ∃ g, pX11_step (sA μ 0 f) = some (sA μ 0 g) ∧ MT v p g ∧ ∀ i, i < 13 ∨ 16 < i → g i = f i := by
  have l1 := hv.1
  have hs := tkS_le hpL
  obtain ⟨g0, r1, r2, r3⟩ := m_blank hv (v 0 2 - p) p 2000 f (by omega) (by omega) hT hp
  have r2 : g0 13 = nI (tkS v p) := r2
  generalize hS : tkS v p = s at r2 hs
  unfold pX11_step MT tkK tkE tkV
  rw [hS, r1, Option.bind_some, Option.bind_some, s00, Option.bind_some, s00]
  have ed : (sA μ 0 g0) 0 13 = nI s := r2
  rw [ed]
  generalize hg : upd (upd g0 14 (nI s)) 16 0 = gg
  have q1 : gg 1 = f 1 := by rw [← hg]; exact r3 1 (by decide)
  have q13 : gg 13 = nI s := by rw [← hg]; exact r2
  have q14 : gg 14 = nI s := by rw [← hg]; rfl
  have q16 : gg 16 = nI 0 := by rw [← hg]; rfl
  have qf : ∀ i, i < 13 ∨ 16 < i → gg i = f i := fun i hi => by rw [← hg, pk_un (by omega), pk_un (by omega), r3 i (by omega)]
  have hTg : txtM μ v gg := ⟨q1.trans hT.1, hT.2⟩
  rw [m_here hv hTg q13 hs, Option.bind_some]
  unfold kindS endS valS
  by_cases hsL : s < v 0 2
  · have hb := hv.2 s hsL
    rw [if_pos hsL, if_pos hsL, if_pos hsL, if_neg (m9_ne (by omega))]
    have iL : pX11_in (nI (v 13 s)) 97 122 = if byteIn v 97 122 s then 1 else 0 := in_b (lo := 97) (hi := 122) hb (by decide) (by decide)
    have iD : pX11_in (nI (v 13 s)) 48 57 = if byteIn v 48 57 s then 1 else 0 := in_b (lo := 48) (hi := 57) hb (by decide) (by decide)
    rw [iL, iD]
    have h10 : ((1 : Int32) = 0) = False := eq_false (by decide)
    cases hD : byteIn v 48 57 s
    · simp only [Bool.false_eq_true, ↓reduceIte, eq_self]
      cases hL : byteIn v 97 122 s
      · simp only [Bool.false_eq_true, ↓reduceIte, eq_self]
        rw [Option.bind_some, s00]
        by_cases h59 : v 13 s = 59
        · rw [if_pos h59, if_pos (show nI (v 13 s) = 59 by rw [h59]; rfl)]
          refine ⟨upd (upd gg 13 (nI (s + 1))) 15 3, ?_, ⟨rfl, q14, rfl, fun z => by rcases z with z | z <;> cases z⟩, fun i hi => by rw [pk_un (by omega), pk_un (by omega)]; exact qf i hi⟩
          rw [Option.bind_some, s00]
          show some (sA μ 0 (upd (upd gg 13 (gg 13 + 1)) 15 3)) = _
          rw [q13, nI_1]
        · rw [if_neg h59, if_neg (show ¬ nI (v 13 s) = 59 from fun z => h59 ((nI_eq (b := 59) (by omega) (by decide)).mp z))]
          refine ⟨upd (upd gg 13 (nI (s + 1))) 15 5, ?_, ⟨rfl, q14, rfl, fun z => by rcases z with z | z <;> cases z⟩, fun i hi => by rw [pk_un (by omega), pk_un (by omega)]; exact qf i hi⟩
          rw [Option.bind_some, s00]
          show some (sA μ 0 (upd (upd gg 13 (gg 13 + 1)) 15 5)) = _
          rw [q13, nI_1]
      · simp only [↓reduceIte, eq_self, h10]
        obtain ⟨g1, e1, e2, e3⟩ := m_word hv (nI (v 13 s)) (v 0 2 - s) s 2000 gg (by omega) (by omega) hTg q13
        have e2 : g1 13 = nI (run v 97 122 s) := e2
        have e14 : g1 14 = nI s := (e3 14 (by decide)).trans q14
        have hrg := run_ge (v := v) (lo := 97) (hi := 122) (q := s)
        have hre := run_le (v := v) (lo := 97) (hi := 122) hs
        rw [e1, Option.bind_some]
        have ec : (sA μ 0 g1) 0 13 - (sA μ 0 g1) 0 14 = nI (run v 97 122 s - s) := by
          show g1 13 - g1 14 = _
          rw [e2, e14, pk_sub hrg]
        rw [ec]
        by_cases w1 : run v 97 122 s - s = 1
        · rw [if_pos (show nI (run v 97 122 s - s) = 1 by rw [w1]; rfl), Option.bind_some, s00, Option.bind_some, s00]
          refine ⟨_, rfl, ⟨e2, e14, rfl, fun _ => ?_⟩, fun i hi => by rw [pk_un (by omega), pk_un (by omega), e3 i (by omega)]; exact qf i hi⟩
          rw [if_pos w1]; rfl
        · rw [if_neg (show ¬ nI (run v 97 122 s - s) = 1 from fun z => w1 ((nI_eq (b := 1) (by omega) (by decide)).mp z)), Option.bind_some, s00, Option.bind_some, s00]
          refine ⟨_, rfl, ⟨e2, e14, rfl, fun _ => ?_⟩, fun i hi => by rw [pk_un (by omega), pk_un (by omega), e3 i (by omega)]; exact qf i hi⟩
          rw [if_neg w1]; rfl
    · have hL : byteIn v 97 122 s = false := by
        unfold byteIn at hD ⊢
        rw [Bool.and_eq_true, decide_eq_true_eq, decide_eq_true_eq] at hD
        rw [decide_eq_false (by omega), Bool.false_and]
      rw [hL]
      simp only [Bool.false_eq_true, ↓reduceIte, eq_self, h10]
      obtain ⟨g1, e1, e2, e3, e4⟩ := m_digits hv (nI (v 13 s)) (v 0 2 - s) s 2000 0 gg (by omega) (by omega) hTg q13 q16 (by omega)
      obtain ⟨a1, a2, a3⟩ := acc_num hv hsL hD
      have e2 : g1 13 = nI (run v 48 57 s) := e2
      have e14 : g1 14 = nI s := (e4 14 (by decide) (by decide)).trans q14
      have hrg := run_ge (v := v) (lo := 48) (hi := 57) (q := s)
      have hre := run_le (v := v) (lo := 48) (hi := 57) hs
      rw [e1, Option.bind_some]
      show ∃ g, (if 99 < g1 16 then _ else _) = _ ∧ _
      have ec : (sA μ 0 g1) 0 13 - (sA μ 0 g1) 0 14 = nI (run v 48 57 s - s) := by
        show g1 13 - g1 14 = _
        rw [e2, e14, pk_sub hrg]
      rw [e3, ec]
      have fin : ∀ (K : Nat) (X : Int32), X = nI (srt K) → (K = 2 → numOK v s (run v 48 57 s) = true) → (K = 2 ∨ K = 4) → ∃ g, ((some (s1 (sA μ 0 g1) 0 15 X)).bind fun σ47 => some σ47) = some (sA μ 0 g) ∧ (g 13 = nI (run v 48 57 s) ∧ g 14 = nI s ∧ g 15 = nI (srt K) ∧ (K = 1 ∨ K = 2 → g 16 = nI (if run v 48 57 s - s = 1 then v 13 s - 48 else 10 * (v 13 s - 48) + (v 13 (s + 1) - 48)))) ∧ ∀ i, i < 13 ∨ 16 < i → g i = f i := by
        intro K X hX hK hK2
        refine ⟨upd g1 15 X, ?_, ⟨e2, e14, hX, fun z => ?_⟩, fun i hi => by rw [pk_un (by omega), e4 i (by omega) (by omega)]; exact qf i hi⟩
        · rw [Option.bind_some, s00]
        · have hk : K = 2 := by omega
          rw [← a3 (hK hk)]
          exact e3
      by_cases w1 : 99 < accK v (v 0 2 - s) s 0
      · have hn := a2.mp (Or.inl w1)
        rw [if_pos (show (99 : Int32) < nI _ from nI_lt (a := 99) w1 (by omega)), hn]
        exact fin 4 5 rfl (fun z => by cases z) (Or.inr rfl)
      · rw [if_neg (show ¬ (99 : Int32) < nI _ from nI_nlt (a := 99) (by omega) (by decide))]
        by_cases w2 : v 13 s = 48
        · rw [if_pos (show nI (v 13 s) = 48 by rw [w2]; rfl)]
          by_cases w3 : 1 < run v 48 57 s - s
          · have hn := a2.mp (Or.inr ⟨w2, w3⟩)
            rw [if_neg (show ¬ nI (run v 48 57 s - s) ≤ 1 from nI_ge (a := 1) w3 (by omega)), hn]
            exact fin 4 5 rfl (fun z => by cases z) (Or.inr rfl)
          · have hn : numOK v s (run v 48 57 s) = true := by
              cases hc : numOK v s (run v 48 57 s)
              · rcases a2.mpr hc with z | z
                · exact absurd z w1
                · exact absurd z.2 w3
              · rfl
            rw [if_pos (show nI (run v 48 57 s - s) ≤ 1 from nI_le (b := 1) (by omega) (by decide)), hn]
            exact fin 2 2 rfl (fun _ => hn) (Or.inl rfl)
        · have hn : numOK v s (run v 48 57 s) = true := by
            cases hc : numOK v s (run v 48 57 s)
            · rcases a2.mpr hc with z | z
              · exact absurd z w1
              · exact absurd z.1 w2
            · rfl
          rw [if_neg (show ¬ nI (v 13 s) = 48 from fun z => w2 ((nI_eq (b := 48) (by omega) (by decide)).mp z)), hn]
          exact fin 2 2 rfl (fun _ => hn) (Or.inl rfl)
  · rw [if_neg hsL, if_neg hsL, if_neg hsL, if_pos rfl, Option.bind_some, s00]
    refine ⟨_, rfl, ⟨q13, q14, rfl, fun z => by rcases z with z | z <;> cases z⟩, fun i hi => by rw [pk_un (by omega)]; exact qf i hi⟩
end G
