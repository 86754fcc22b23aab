/-! what holds, and storms -/
def wgR (v : Vw) (f : Nat → Nat) (i x : Nat) : Nat := sumN (fun o => if f (24 + o) == 0 && f o == x then strR v f o else 0) i
def moveB (v : Vw) (f : Nat → Nat) (F a : Nat) : Bool := f (24 + a) == 0 && decide (holdR v f (f a) < F)
def edgeB (f : Nat → Nat) (s a : Nat) : Bool := f a == (if s = 0 then 0 else 9)
def stepN (s x : Nat) : Nat := if s = 0 then x - 1 else x + 1
def blowR (v : Vw) (f : Nat → Nat) (F s : Nat) : Nat → Nat → Nat
  | 0 => f
  | i + 1 => if moveB v f F i then (if edgeB f s i then updN (blowR v f F s i) (24 + i) 2 else updN (blowR v f F s i) i (stepN s (f i))) else blowR v f F s i
def lostN (v : Vw) (f : Nat → Nat) (F s i : Nat) : Nat := sumN (fun a => if moveB v f F a && edgeB f s a then 1 else 0) i
theorem blow_off {v : Vw} {f : Nat → Nat} {F s j : Nat} : ∀ {i : Nat}, (∀ a, a < i → j ≠ a ∧ j ≠ 24 + a) → blowR v f F s i j = f j
  | 0, _ => rfl
  | i + 1, h => by
    have ih := blow_off (v := v) (f := f) (F := F) (s := s) (i := i) (fun a ha => h a (by omega))
    have q := h i (by omega)
    rw [blowR]
    split
    · split
      · rw [updN_n q.2, ih]
      · rw [updN_n q.1, ih]
    · exact ih
theorem blow_ok {v : Vw} (hI : InvN v) {f : Nat → Nat} (hf : rowOK (v 0 0) f) {F s : Nat} : ∀ i, i ≤ v 0 1 → rowOK (v 0 0) (blowR v f F s i)
  | 0, _ => hf
  | i + 1, h => by
    have h8 := hI.2.1
    have ih := blow_ok hI hf (F := F) (s := s) i (by omega)
    have q := (hf.1 i (by omega)).1
    rw [blowR]
    split
    · by_cases e : edgeB f s i = true
      · rw [if_pos e]
        exact row_set ih (by omega) (by omega) (by omega) (fun _ _ => by omega) (by omega) (by omega) (by omega)
      · rw [if_neg e]
        refine row_set ih (fun _ => ?_) (by omega) (by omega) (by omega) (by omega) (by omega) (by omega)
        unfold edgeB at e
        unfold stepN
        by_cases hs : s = 0
        · rw [if_pos hs]; omega
        · rw [if_neg hs]
          rw [if_neg hs] at e
          have : f i ≠ 9 := fun z => e (by rw [z]; rfl)
          omega
    · exact ih
theorem blow_cell {v : Vw} (h8 : v 0 1 ≤ 8) {f : Nat → Nat} {F s a : Nat} : ∀ {i : Nat}, a < i → i ≤ v 0 1 → blowR v f F s i a = (if moveB v f F a && !edgeB f s a then stepN s (f a) else f a)
  | 0, h, _ => absurd h (Nat.not_lt_zero a)
  | i + 1, h, hi => by
    rw [blowR]
    by_cases e : a = i
    · subst e
      have q := blow_off (v := v) (f := f) (F := F) (s := s) (i := a) (j := a) (fun b hb => by omega)
      cases moveB v f F a
      · exact q
      · cases edgeB f s a
        · exact updN_s
        · exact (updN_n (by omega)).trans q
    · have ih := blow_cell h8 (f := f) (F := F) (s := s) (a := a) (i := i) (by omega) (by omega)
      split
      · split
        · rw [updN_n (by omega), ih]
        · rw [updN_n e, ih]
      · exact ih
theorem blow_how {v : Vw} (h8 : v 0 1 ≤ 8) {f : Nat → Nat} {F s a : Nat} : ∀ {i : Nat}, a < i → i ≤ v 0 1 → blowR v f F s i (24 + a) = (if moveB v f F a && edgeB f s a then 2 else f (24 + a))
  | 0, h, _ => absurd h (Nat.not_lt_zero a)
  | i + 1, h, hi => by
    rw [blowR]
    by_cases e : a = i
    · subst e
      have q := blow_off (v := v) (f := f) (F := F) (s := s) (i := a) (j := 24 + a) (fun b hb => by omega)
      cases moveB v f F a
      · exact q
      · cases edgeB f s a
        · exact (updN_n (by omega)).trans q
        · exact updN_s
    · have ih := blow_how h8 (f := f) (F := F) (s := s) (a := a) (i := i) (by omega) (by omega)
      split
      · split
        · rw [updN_n (by omega), ih]
        · rw [updN_n (by omega), ih]
      · exact ih
theorem hold_le {v : Vw} (hI : InvN v) {f : Nat → Nat} (hf : rowOK (v 0 0) f) (x : Nat) : holdR v f x ≤ 768 := by
  have h8 := hI.2.1
  have h := sumN_le (f := fun o => if f (24 + o) == 0 && f o == x then strR v f o else 0) (n := v 0 1) (c := 96) (fun o ho => by
    have q := hf.1 o (by omega)
    have := str_le hI q.1 ho q.2.1
    show (if _ then strR v f o else 0) ≤ 96
    unfold strR
    split <;> omega)
  have h2 : v 0 1 * 96 ≤ 8 * 96 := Nat.mul_le_mul_right _ h8
  exact Nat.le_trans h h2
section G
variable {σ μ : Sg} {v : Vw}
theorem c_strR (hR : RcN σ v) (hI : InvN v) {r : Nat} {f : Nat → Nat} (hr : ∀ i, i < 45 → σ r i = nI (f i)) (hf : rowOK (v 0 0) f) {a : Nat} (ha : a < v 0 1) : pX9_strengthOf r σ (nI a) = some (nI (strR v f a)) := by
  have h8 := hI.2.1
  have q := hf.1 a (by omega)
  unfold pX9_strengthOf
  rw [get_nI hr (k := 0) (K := 0) rfl (by omega), get_nI hr (k := 8) (K := 8) rfl (by omega), Nat.zero_add, c_strAt hR hI q.1 ha q.2.1]
  rfl
theorem c_weighH (hR : RcN σ v) (hI : InvN v) {r : Nat} (h38 : r ≠ 38) {f : Nat → Nat} (hr : ∀ i, i < 45 → σ r i = nI (f i)) (hf : rowOK (v 0 0) f) : ∃ h, pX8_weighHolds r σ = some (sA σ 38 h) ∧ ∀ x, x < 10 → h x = nI (holdR v f x) := by
  have h8 := hI.2.1
  have loop : ∀ (d i n : Nat) (h : Nat → Int32), i + d = v 0 1 → d < n → (∀ x, x < 10 → h x = nI (wgR v f i x)) → ∃ h', pX8_weighHolds_L10 r n (nI i) (sA σ 38 h) = some (sA σ 38 h') ∧ ∀ x, x < 10 → h' x = nI (holdR v f x) := by
    intro d
    induction d with
    | zero =>
      intro i n h hi hn hh
      obtain ⟨n, rfl⟩ : ∃ q, n = q + 1 := ⟨n - 1, by omega⟩
      have e : i = v 0 1 := by omega
      subst e
      refine ⟨h, ?_, hh⟩
      rw [pX8_weighHolds_L10, if_pos (show (sA σ 38 h) 1 8 ≤ nI (v 0 1) by
        show σ 1 8 ≤ _
        rw [hR.2.1]; exact nI_le (Nat.le_refl _) (by omega))]
    | succ d ih =>
      intro i n h hi hn hh
      obtain ⟨n, rfl⟩ : ∃ q, n = q + 1 := ⟨n - 1, by omega⟩
      have hR2 : RcN (sA σ 38 h) v := hR
      have hr2 : ∀ j, j < 45 → (sA σ 38 h) r j = nI (f j) := fun j hj => by rw [sA_ne h38]; exact hr j hj
      have q := hf.1 i (by omega)
      rw [pX8_weighHolds_L10, if_neg (show ¬ (sA σ 38 h) 1 8 ≤ nI i by
        show ¬ σ 1 8 ≤ _
        rw [hR.2.1]; exact nI_ge (by omega) (by omega)), c_lies hr2 (fun a ha => (hf.1 a ha).2.2.2) (by omega), nI_1]
      cases hl : (f (24 + i) == 0)
      · rw [if_pos (by decide)]
        refine ih (i + 1) n h (by omega) (by omega) (fun x hx => ?_)
        rw [hh x hx]
        unfold wgR
        rw [sumN, hl]
        rfl
      · rw [if_neg (by decide), get_nI hr2 (k := 0) (K := 0) rfl (by omega), Nat.zero_add, Option.bind_some, c_strR hR2 hI hr2 hf (by omega), Option.bind_some, sA_eq, sA_sA, at_nI q.1 (by decide), put_nI q.1 (by decide), hh _ q.1, nI_add, Option.bind_some]
        refine ih (i + 1) n _ (by omega) (by omega) (fun x hx => ?_)
        have es : wgR v f (i + 1) x = wgR v f i x + (if f i = x then strR v f i else 0) := by
          unfold wgR
          rw [sumN, hl, Bool.true_and]
          by_cases e : f i = x
          · rw [if_pos e, if_pos (by rw [e]; exact beq_self_eq_true x)]
          · rw [if_neg e, if_neg (by simpa using e)]
        rw [es]
        by_cases e : x = f i
        · subst e
          rw [pk_us, if_pos rfl]
        · rw [pk_un e, if_neg (fun z => e z.symm), hh x hx]
          rfl
  obtain ⟨h, e1, e2⟩ := loop (v 0 1) 0 2000 (pX10_fill (σ 38) 10 0) (by omega) (by omega) (fun x hx => by
    unfold pX10_fill
    rw [if_pos hx]
    rfl)
  refine ⟨h, ?_, e2⟩
  rw [nI_0] at e1
  unfold pX8_weighHolds
  exact (bnd rfl).trans ((bnd e1).trans rfl)
theorem c_blow (hR : RcN σ v) (hI : InvN v) {r : Nat} (h1 : r ≠ 1) (h38 : r ≠ 38) {f : Nat → Nat} (hr : ∀ i, i < 45 → σ r i = nI (f i)) (hf : rowOK (v 0 0) f) {F s : Nat} (hF : F ≤ 99) (hs : s ≤ 1) : ∃ h g, pX8_blowsOver r σ (nI F) (nI s) = some (nI (lostN v f F s (v 0 1)), sA (sA σ 38 h) r g) ∧ ∀ j, j < 45 → g j = nI (blowR v f F s (v 0 1) j) := by
  have h8 := hI.2.1
  obtain ⟨h, w1, w2⟩ := c_weighH hR hI h38 hr hf
  have loop : ∀ (d i n : Nat) (g : Nat → Int32), i + d = v 0 1 → d < n → (∀ j, j < 45 → g j = nI (blowR v f F s i j)) → ∃ g', pX8_blowsOver_L11 r (nI F) (nI s) n (nI (lostN v f F s i)) (nI i) (sA (sA σ 38 h) r g) = some (nI (lostN v f F s (v 0 1)), sA (sA σ 38 h) r g') ∧ ∀ j, j < 45 → g' j = nI (blowR v f F s (v 0 1) j) := by
    intro d
    induction d with
    | zero =>
      intro i n g hi hn hg
      obtain ⟨n, rfl⟩ : ∃ q, n = q + 1 := ⟨n - 1, by omega⟩
      have e : i = v 0 1 := by omega
      subst e
      refine ⟨g, ?_, hg⟩
      rw [pX8_blowsOver_L11, if_pos (show (sA (sA σ 38 h) r g) 1 8 ≤ nI (v 0 1) by
        rw [sA_ne (Ne.symm h1)]
        show σ 1 8 ≤ _
        rw [hR.2.1]; exact nI_le (Nat.le_refl _) (by omega))]
    | succ d ih =>
      intro i n g hi hn hg
      obtain ⟨n, rfl⟩ : ∃ q, n = q + 1 := ⟨n - 1, by omega⟩
      have hr2 : ∀ j, j < 45 → (sA (sA σ 38 h) r g) r j = nI (blowR v f F s i j) := fun j hj => by rw [sA_eq]; exact hg j hj
      have hb := blow_ok hI hf (F := F) (s := s) i (by omega)
      have q := hf.1 i (by omega)
      have c0 : blowR v f F s i i = f i := blow_off (fun b hb => by omega)
      have c1 : blowR v f F s i (24 + i) = f (24 + i) := blow_off (fun b hb => by omega)
      have hl := hold_le hI hf (f i)
      have er : blowR v f F s (i + 1) = if moveB v f F i then (if edgeB f s i then updN (blowR v f F s i) (24 + i) 2 else updN (blowR v f F s i) i (stepN s (f i))) else blowR v f F s i := rfl
      have el : lostN v f F s (i + 1) = lostN v f F s i + if moveB v f F i && edgeB f s i then 1 else 0 := rfl
      rw [pX8_blowsOver_L11, if_neg (show ¬ (sA (sA σ 38 h) r g) 1 8 ≤ nI i by
        rw [sA_ne (Ne.symm h1)]
        show ¬ σ 1 8 ≤ _
        rw [hR.2.1]; exact nI_ge (by omega) (by omega)), get_nI hr2 (k := 0) (K := 0) rfl (by omega), Nat.zero_add, c0, Option.bind_some, c_lies hr2 (fun a ha => (hb.1 a ha).2.2.2) (by omega), c1, nI_1, sA_ne (Ne.symm h38), sA_eq, at_nI q.1 (by decide), w2 _ q.1]
      cases hl1 : (f (24 + i) == 0)
      · have em : moveB v f F i = false := by unfold moveB; rw [hl1]; rfl
        rw [em] at er el
        rw [if_pos (by decide)]
        have := ih (i + 1) n g (by omega) (by omega) (by rw [er]; exact hg)
        rw [el] at this
        exact this
      · rw [if_neg (by decide)]
        by_cases hh : F ≤ holdR v f (f i)
        · have em : moveB v f F i = false := by unfold moveB; rw [decide_eq_false (by omega), Bool.and_false]
          rw [em] at er el
          rw [if_pos (nI_le hh (by omega))]
          have := ih (i + 1) n g (by omega) (by omega) (by rw [er]; exact hg)
          rw [el] at this
          exact this
        · have em : moveB v f F i = true := by unfold moveB; rw [hl1, decide_eq_true (by omega)]; rfl
          rw [em] at er el
          rw [if_neg (nI_ge (by omega) (by omega))]
          have hlost : edgeB f s i = true → pX10_isOutside (if nI s = 0 then nI (f i) - 1 else nI (f i + 1)) 0 9 = 1 → ∃ g', ((pX5_set r (sA (sA σ 38 h) r g) 24 (nI i) 2).bind fun u9 => pX8_blowsOver_L11 r (nI F) (nI s) n (nI (lostN v f F s i) + 1) (nI (i + 1)) u9) = some (nI (lostN v f F s (v 0 1)), sA (sA σ 38 h) r g') ∧ ∀ j, j < 45 → g' j = nI (blowR v f F s (v 0 1) j) := by
            intro ee _
            rw [ee] at er el
            have es : pX5_set r (sA (sA σ 38 h) r g) 24 (nI i) 2 = some (sA (sA σ 38 h) r (upd g (24 + i) (nI 2))) := by
              unfold pX5_set
              rw [sA_eq, sA_sA, show (24 : Int32) = nI 24 from rfl, nI_add, put_nI (by omega) (by decide)]
              rfl
            have := ih (i + 1) n (upd g (24 + i) (nI 2)) (by omega) (by omega) (by rw [er]; exact fun j hj => upd_nI (hg j hj))
            rw [el] at this
            rw [es, Option.bind_some, nI_1]
            exact this
          have hmove : edgeB f s i = false → ∃ g', ((pX5_set r (sA (sA σ 38 h) r g) 0 (nI i) (nI (stepN s (f i)))).bind fun u7 => pX8_blowsOver_L11 r (nI F) (nI s) n (nI (lostN v f F s i)) (nI (i + 1)) u7) = some (nI (lostN v f F s (v 0 1)), sA (sA σ 38 h) r g') ∧ ∀ j, j < 45 → g' j = nI (blowR v f F s (v 0 1) j) := by
            intro ee
            rw [ee] at er el
            have es : pX5_set r (sA (sA σ 38 h) r g) 0 (nI i) (nI (stepN s (f i))) = some (sA (sA σ 38 h) r (upd g i (nI (stepN s (f i))))) := by
              unfold pX5_set
              rw [sA_eq, sA_sA, show (0 : Int32) = nI 0 from rfl, nI_add, Nat.zero_add, put_nI (by omega) (by decide)]
              rfl
            have := ih (i + 1) n (upd g i (nI (stepN s (f i)))) (by omega) (by omega) (by rw [er]; exact fun j hj => upd_nI (hg j hj))
            rw [el] at this
            rw [es, Option.bind_some]
            exact this
          rcases (show s = 0 ∨ s = 1 by omega) with rfl | rfl
          · rw [if_pos (show nI 0 = 0 from rfl), Option.bind_some]
            by_cases e0 : f i = 0
            · have ee : edgeB f 0 i = true := by unfold edgeB; rw [e0]; rfl
              rw [e0, if_neg (show ¬ pX10_isOutside (nI 0 - 1) 0 9 = 0 by decide)]
              exact hlost ee (by rw [e0]; decide)
            · have ee : edgeB f 0 i = false := by unfold edgeB; rw [if_pos rfl]; simpa using e0
              obtain ⟨k, hk⟩ : ∃ k, f i = k + 1 := ⟨f i - 1, by omega⟩
              have hsx : nI (f i) - 1 = nI (stepN 0 (f i)) := by rw [hk, nI_pred]; rfl
              rw [hsx, if_pos (show pX10_isOutside (nI (stepN 0 (f i))) 0 9 = 0 by
                rw [show (9 : Int32) = nI 9 from rfl, show (0 : Int32) = nI 0 from rfl, out_nI (by unfold stepN; rw [if_pos rfl]; omega) (by decide) (by decide), if_pos ⟨Nat.zero_le _, by unfold stepN; rw [if_pos rfl]; omega⟩]
                rfl)]
              exact hmove ee
          · rw [if_neg (show ¬ nI 1 = 0 by decide), Option.bind_some, nI_1 (f i)]
            by_cases e0 : f i = 9
            · have ee : edgeB f 1 i = true := by unfold edgeB; rw [e0]; rfl
              rw [e0, if_neg (show ¬ pX10_isOutside (nI (9 + 1)) 0 9 = 0 by decide)]
              exact hlost ee (by rw [e0]; decide)
            · have ee : edgeB f 1 i = false := by unfold edgeB; rw [if_neg (by omega)]; simpa using e0
              have hsx : f i + 1 = stepN 1 (f i) := rfl
              rw [hsx, if_pos (show pX10_isOutside (nI (stepN 1 (f i))) 0 9 = 0 by
                rw [show (9 : Int32) = nI 9 from rfl, show (0 : Int32) = nI 0 from rfl, out_nI (by unfold stepN; rw [if_neg (by omega)]; omega) (by decide) (by decide), if_pos ⟨Nat.zero_le _, by unfold stepN; rw [if_neg (by omega)]; omega⟩]
                rfl)]
              exact hmove ee
  obtain ⟨g, e1, e2⟩ := loop (v 0 1) 0 2000 (σ r) (by omega) (by omega) hr
  refine ⟨h, g, ?_, e2⟩
  rw [show sA (sA σ 38 h) r (σ r) = sA σ 38 h by
    have := sA_self (σ := sA σ 38 h) (c := r)
    rw [sA_ne h38] at this
    exact this, nI_0, show nI (lostN v f F s 0) = 0 from rfl] at e1
  unfold pX8_blowsOver
  exact (bnd w1).trans ((bnd e1).trans rfl)
theorem m_moves (hR : RmN μ v) (hI : InvN v) {F : Nat} (hF : F ≤ 99) (x2 x4 : Int32) : pX11_blow_L8 μ (nI F) x2 x4 2000 0 0 = some (nI (bitsN (moveB v (v 7) F) (v 0 1))) := by
  have h8 := hI.2.1
  exact loop_up (fun n (s : Int32 × Int32) => pX11_blow_L8 μ (nI F) x2 x4 n s.1 s.2) (fun i => (nI (bitsN (moveB v (v 7) F) i), nI i)) (v 0 1) (some (nI (bitsN (moveB v (v 7) F) (v 0 1))))
    (by
      intro n i hi
      show pX11_blow_L8 μ (nI F) x2 x4 (n + 1) (nI _) (nI i) = pX11_blow_L8 μ (nI F) x2 x4 n (nI _) (nI (i + 1))
      have hl := hold_le hI hI.2.2.2.2.2 (v 7 i)
      have hh : pX11_hold μ (nI i) = some (nI (holdR v (v 7) (v 7 i))) := m_hold hR hI hi
      rw [pX11_blow_L8, m_na hR, Option.bind_some, if_neg (nI_ge hi (by omega)), m_lies hR hI (by omega), Option.bind_some, hh, nI_1]
      have em : moveB v (v 7) F i = (liesV v i && decide (holdR v (v 7) (v 7 i) < F)) := rfl
      cases hl1 : liesV v i
      · rw [hl1] at em
        rw [if_pos (by decide), or_z, Option.bind_some, bitsN_no _ i em]
      · rw [hl1] at em
        rw [if_neg (by decide), Option.bind_some]
        by_cases q : F ≤ holdR v (v 7) (v 7 i)
        · rw [decide_eq_false (by omega)] at em
          rw [if_pos (nI_le q (by omega)), or_z, Option.bind_some, bitsN_no _ i em]
        · rw [decide_eq_true (by omega)] at em
          rw [if_neg (nI_ge (by omega) (by omega)), m_shl (by omega), bitsN_or _ i em, Option.bind_some])
    (by
      intro n
      show pX11_blow_L8 μ (nI F) x2 x4 (n + 1) (nI _) (nI (v 0 1)) = _
      rw [pX11_blow_L8, m_na hR, Option.bind_some, if_pos (nI_le (Nat.le_refl _) (by omega))]) (v 0 1) 0 2000 (by omega) (by omega)
theorem m_blow (hR : RmN μ v) (hI : InvN v) {F s : Nat} (hF : F ≤ 99) (hs : s ≤ 1) : ∃ g, pX11_blow μ (nI F) (nI s) = some (nI (lostN v (v 7) F s (v 0 1)), sA μ 13 g) ∧ ∀ j, j < 45 → g (mq j) = nI (blowR v (v 7) F s (v 0 1) j) := by
  have h8 := hI.2.1
  obtain ⟨r1, r2, r3, r4, r5, r6, r7, r8, r9⟩ := id hR
  have hB := bitsN_lt (moveB v (v 7) F) (v 0 1)
  have hB2 : 2 ^ v 0 1 ≤ 2 ^ 8 := Nat.pow_le_pow_right (by decide) h8
  have loop : ∀ (d i n : Nat) (g : Nat → Int32), i + d = v 0 1 → d < n → (∀ j, j < 45 → g (mq j) = nI (blowR v (v 7) F s i j)) → ∃ g', pX11_blow_L70 (nI s) (nI (bitsN (moveB v (v 7) F) (v 0 1))) (nI (if s = 0 then 0 else 9)) n (nI (lostN v (v 7) F s i)) (nI i) (sA μ 13 g) = some (nI (lostN v (v 7) F s (v 0 1)), sA μ 13 g') ∧ ∀ j, j < 45 → g' (mq j) = nI (blowR v (v 7) F s (v 0 1) j) := by
    intro d
    induction d with
    | zero =>
      intro i n g hi hn hg
      obtain ⟨n, rfl⟩ : ∃ q, n = q + 1 := ⟨n - 1, by omega⟩
      have e : i = v 0 1 := by omega
      subst e
      refine ⟨g, ?_, hg⟩
      have hR2 : RmN (sA μ 13 g) (vs v 7 (blowR v (v 7) F s (v 0 1))) := ⟨r1, r2, r3, r4, r5, r6, r7, r8, hg⟩
      rw [pX11_blow_L70, show rdA (sA μ 13 g) 7 2 0 = some (nI (v 0 1)) by have e := m_na hR2; exact e, Option.bind_some, if_pos (nI_le (Nat.le_refl _) (by omega))]
    | succ d ih =>
      intro i n g hi hn hg
      obtain ⟨n, rfl⟩ : ∃ q, n = q + 1 := ⟨n - 1, by omega⟩
      have hR2 : RmN (sA μ 13 g) (vs v 7 (blowR v (v 7) F s i)) := ⟨r1, r2, r3, r4, r5, r6, r7, r8, hg⟩
      have q := (hI.2.2.2.2.2.1 i (by omega)).1
      have c0 : rdA (sA μ 13 g) 13 45 (0 + nI i) = some (nI (v 7 i)) := by
        rw [m_cel hR2 (by omega)]
        show some (nI (blowR v (v 7) F s i i)) = _
        rw [blow_off (fun b hb => by omega)]
      have er : blowR v (v 7) F s (i + 1) = if moveB v (v 7) F i then (if edgeB (v 7) s i then updN (blowR v (v 7) F s i) (24 + i) 2 else updN (blowR v (v 7) F s i) i (stepN s (v 7 i))) else blowR v (v 7) F s i := rfl
      have el : lostN v (v 7) F s (i + 1) = lostN v (v 7) F s i + if moveB v (v 7) F i && edgeB (v 7) s i then 1 else 0 := rfl
      have hh : pX11_has (nI (bitsN (moveB v (v 7) F) (v 0 1))) (nI i) = if moveB v (v 7) F i then 1 else 0 := by
        rw [m_has (by omega) (by omega), bitsN_bit, show decide (i < v 0 1) = true from decide_eq_true (by omega), Bool.true_and]
      have st : ∀ (k x : Nat), k < 32 → wrA (sA μ 13 g) 13 45 (nI k) (nI x) = some (sA μ 13 (upd g (mq k) (nI x))) := by
        intro k x hk
        rw [wr_nI (by omega) (by decide), s1_sA, sA_eq, sA_sA, mq_lo hk]
      rw [pX11_blow_L70, show rdA (sA μ 13 g) 7 2 0 = some (nI (v 0 1)) by have e := m_na hR2; exact e, Option.bind_some, if_neg (show ¬ nI (v 0 1) ≤ nI i from nI_ge (by omega) (by omega)), hh, c0, nI_1]
      cases em : moveB v (v 7) F i
      · rw [em] at er el
        rw [if_pos (by decide)]
        have := ih (i + 1) n g (by omega) (by omega) (by rw [er]; exact hg)
        rw [el] at this
        exact this
      · rw [em] at er el
        rw [if_neg (by decide), Option.bind_some]
        cases ee : edgeB (v 7) s i
        · rw [ee] at er el
          have hne : ¬ nI (v 7 i) = nI (if s = 0 then 0 else 9) := by
            intro z
            have z2 := (nI_eq (by omega) (by split <;> omega)).mp z
            unfold edgeB at ee
            rw [z2, beq_self_eq_true] at ee
            cases ee
          have fin : ∃ g', ((wrA (sA μ 13 g) 13 45 (0 + nI i) (nI (stepN s (v 7 i)))).bind fun σ23 => pX11_blow_L70 (nI s) (nI (bitsN (moveB v (v 7) F) (v 0 1))) (nI (if s = 0 then 0 else 9)) n (nI (lostN v (v 7) F s i)) (nI (i + 1)) σ23) = some (nI (lostN v (v 7) F s (v 0 1)), sA μ 13 g') ∧ ∀ j, j < 45 → g' (mq j) = nI (blowR v (v 7) F s (v 0 1) j) := by
            have := ih (i + 1) n (upd g (mq i) (nI (stepN s (v 7 i)))) (by omega) (by omega) (by rw [er]; exact mq_upd (by omega) hg)
            rw [el] at this
            rw [show (0 : Int32) = nI 0 from rfl, nI_add, Nat.zero_add, st i _ (by omega), Option.bind_some]
            exact this
          rw [if_neg hne, Option.bind_some]
          rcases (show s = 0 ∨ s = 1 by omega) with rfl | rfl
          · have hx : v 7 i ≠ 0 := fun z => hne (by rw [z]; rfl)
            obtain ⟨k, hk⟩ : ∃ k, v 7 i = k + 1 := ⟨v 7 i - 1, by omega⟩
            rw [if_pos (show nI 0 = 0 from rfl), show nI (v 7 i) + (-1) = nI (stepN 0 (v 7 i)) by rw [hk, pk_m1]; rfl]
            exact fin
          · rw [if_neg (show ¬ nI 1 = 0 by decide), nI_1]
            exact fin
        · rw [ee] at er el
          have heq : nI (v 7 i) = nI (if s = 0 then 0 else 9) := by
            unfold edgeB at ee
            rw [show v 7 i = if s = 0 then 0 else 9 by simpa using ee]
          rw [if_pos heq, show (24 : Int32) + nI i = nI (24 + i) from nI_add 24 i, show wrA (sA μ 13 g) 13 45 (nI (24 + i)) 2 = _ from st (24 + i) 2 (by omega), Option.bind_some, nI_1]
          have := ih (i + 1) n (upd g (mq (24 + i)) (nI 2)) (by omega) (by omega) (by rw [er]; exact mq_upd (by omega) hg)
          rw [el] at this
          exact this
  obtain ⟨g, e1, e2⟩ := loop (v 0 1) 0 2000 (μ 13) (by omega) (by omega) r9
  refine ⟨g, ?_, e2⟩
  rw [sA_self, nI_0, show nI (lostN v (v 7) F s 0) = 0 from rfl] at e1
  unfold pX11_blow
  refine (bnd (m_moves hR hI hF _ _)).trans ?_
  rcases (show s = 0 ∨ s = 1 by omega) with rfl | rfl
  · rw [if_pos (show nI 0 = 0 from rfl)]
    exact (bnd e1).trans rfl
  · rw [if_neg (show ¬ nI 1 = 0 by decide)]
    exact (bnd e1).trans rfl
end G
