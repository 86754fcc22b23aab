/-! place: the two ways to the same cells -/
def anyN (p : Nat → Bool) : Nat → Bool
  | 0 => false
  | n + 1 => anyN p n || p n
theorem anyN_no {p : Nat → Bool} : ∀ {n : Nat}, anyN p n = false ↔ ∀ k, k < n → p k = false
  | 0 => ⟨fun _ k hk => absurd hk (Nat.not_lt_zero k), fun _ => rfl⟩
  | n + 1 => by
    rw [anyN, Bool.or_eq_false_iff, anyN_no (n := n)]
    refine ⟨fun h k hk => ?_, fun h => ⟨fun k hk => h k (by omega), h n (by omega)⟩⟩
    by_cases e : k = n
    · rw [e]; exact h.2
    · exact h.1 k (by omega)
theorem bitsN_0 {p : Nat → Bool} : ∀ {n : Nat}, bitsN p n = 0 ↔ anyN p n = false
  | 0 => ⟨fun _ => rfl, fun _ => rfl⟩
  | n + 1 => by
    have hp := Nat.two_pow_pos n
    rw [bitsN, anyN, Bool.or_eq_false_iff, ← bitsN_0 (p := p) (n := n)]
    cases p n
    · simp
    · rw [if_pos rfl]
      refine ⟨fun h => by omega, fun h => by cases h.2⟩
theorem bits_self {n k : Nat} (h : n < 2 ^ k) : bitsN (fun a => n.testBit a) k = n := by
  apply Nat.eq_of_testBit_eq
  intro i
  rw [bitsN_bit]
  by_cases q : i < k
  · rw [decide_eq_true q, Bool.true_and]
  · rw [decide_eq_false q, Bool.false_and]
    exact (Nat.testBit_lt_two_pow (Nat.lt_of_lt_of_le h (Nat.pow_le_pow_right (by decide) (by omega)))).symm
theorem part_iff (p q : Nat → Bool) (n : Nat) : bitsN (fun a => p a && q a) n = bitsN p n ↔ bitsN (fun a => p a && !q a) n = 0 := by
  rw [bitsN_0, anyN_no]
  constructor
  · intro h k hk
    have h2 := congrArg (fun z => Nat.testBit z k) h
    simp only [bitsN_bit, decide_eq_true hk, Bool.true_and] at h2
    cases hp : p k
    · rfl
    · rw [hp, Bool.true_and] at h2
      show (true && !q k) = false
      rw [h2]; rfl
  · intro h
    exact bitsN_cong (fun k hk => by
      have := h k hk
      cases hp : p k
      · rfl
      · rw [hp] at this
        cases hq : q k
        · rw [hq] at this; cases this
        · rfl)
def otherB (v : Vw) (S x a : Nat) : Bool := (liesV v a && v 7 a == x) && !S.testBit a
def takeV (v : Vw) (S i : Nat) : Nat := bitsN (fun x => anyN (otherB v S x) i) 10
theorem take_s (v : Vw) (S i : Nat) (hc : v 7 i < 10) : takeV v S (i + 1) = if (liesV v i && !S.testBit i) then takeV v S i ||| 2 ^ v 7 i else takeV v S i := by
  apply Nat.eq_of_testBit_eq
  intro x
  have e : ∀ j, (takeV v S j).testBit x = (decide (x < 10) && anyN (otherB v S x) j) := fun j => bitsN_bit _ _ _
  rw [e, anyN]
  unfold otherB
  cases hl : liesV v i
  · rw [Bool.false_and, Bool.false_and, Bool.or_false, if_neg (by decide), e]; rfl
  · cases hs : S.testBit i
    · rw [Bool.not_false, Bool.and_true, if_pos (by decide), Nat.testBit_or, Nat.testBit_two_pow, e, Bool.true_and]
      by_cases hx : v 7 i = x
      · rw [hx] at hc
        rw [decide_eq_true hx, decide_eq_true hc, hx]
        simp
      · rw [decide_eq_false hx, Bool.or_false]
        have : (v 7 i == x) = false := by simpa using hx
        rw [this, Bool.or_false]; rfl
    · rw [Bool.not_true, Bool.and_false, Bool.or_false, if_neg (by decide), e]; rfl
theorem take_lt (v : Vw) (S i : Nat) : takeV v S i < 1024 := bitsN_lt _ 10
section G
variable {σ μ : Sg} {v : Vw}
theorem c_others (hR : RcN σ v) (hI : InvN v) {S : Nat} (hS : S < 2 ^ v 0 1) : pX0_cellsOfOthers σ (nI S) = some (nI (takeV v S (v 0 1))) := by
  have h8 := hI.2.1
  have hS8 : 2 ^ v 0 1 ≤ 2 ^ 8 := Nat.pow_le_pow_right (by decide) h8
  have key := loop_up (fun n (s : Int32 × Int32) => pX0_cellsOfOthers_L4 σ (nI S) n s.1 s.2) (fun i => (nI (bitsN (fun x => anyN (otherB v S x) (v 0 1)) i), nI i)) 10 (some (nI (takeV v S (v 0 1))))
    (by
      intro n i hi
      show pX0_cellsOfOthers_L4 σ (nI S) (n + 1) (nI _) (nI i) = pX0_cellsOfOthers_L4 σ (nI S) n (nI _) (nI (i + 1))
      have hb := bitsN_lt (otherB v S i) (v 0 1)
      have eb : nI (lyingInV v i) &&& (nI S ^^^ (-1)) = nI (bitsN (otherB v S i) (v 0 1)) := by
        have := bitsN_not (fun a => liesV v a && v 7 a == i) (fun a => S.testBit a) (v 0 1)
        rw [bits_self hS] at this
        exact this
      rw [pX0_cellsOfOthers_L4, if_neg (show ¬ (10 : Int32) ≤ nI i from nI_ge (b := 10) hi (by decide)), c_lyingIn hR hI (by omega), Option.bind_some, eb, nI_1]
      cases hany : anyN (otherB v S i) (v 0 1)
      · rw [if_pos (by rw [bitsN_0.mpr hany]; rfl), bitsN_no _ i hany]
      · have hne : bitsN (otherB v S i) (v 0 1) ≠ 0 := fun z => by rw [bitsN_0.mp z] at hany; cases hany
        rw [if_neg (nI_ne0 (by omega) (by omega)), bit_nI (by omega), bitsN_or _ i hany, Option.bind_some])
    (by
      intro n
      show pX0_cellsOfOthers_L4 σ (nI S) (n + 1) (nI _) (nI 10) = _
      rw [pX0_cellsOfOthers_L4, if_pos (show (10 : Int32) ≤ nI 10 from nI_le (Nat.le_refl 10) (by decide))]
      rfl) 10 0 2000 (by omega) (by omega)
  have key : pX0_cellsOfOthers_L4 σ (nI S) 2000 (nI (bitsN (fun x => anyN (otherB v S x) (v 0 1)) 0)) (nI 0) = _ := key
  rw [nI_0, show nI (bitsN (fun x => anyN (otherB v S x) (v 0 1)) 0) = 0 from rfl] at key
  unfold pX0_cellsOfOthers
  exact (bnd key).trans rfl
theorem c_berth (hR : RcN σ v) (hI : InvN v) {S F a : Nat} (hS : S < 2 ^ v 0 1) (hF : F ≤ 99) (ha : a < v 0 1) (hs : S.testBit a = true) : ∃ b h, pX0_berthOf σ (nI S) (nI F) (nI a) = some (if canV v S F (v 0 1) 0 (takeV v S (v 0 1)) then nI (grV v S F (v 0 1) 0 (takeV v S (v 0 1)) a) else -9, sA (sA σ 40 b) 41 h) := by
  have h8 := hI.2.1
  have hR1 : RcN (sA σ 41 (pX10_fill (σ 41) 64 0)) v := hR
  have hh : hopH v S F (takeV v S (v 0 1)) (pX10_fill (σ 41) 64 0) := ⟨fun _ => 0, fun w hw => ⟨by unfold pX10_fill; rw [if_pos hw]; rfl, Nat.two_pow_pos 16⟩, fun t _ z => by rw [Nat.zero_testBit] at z; cases z⟩
  obtain ⟨b, h, e1, -, -, e4⟩ := c_lays hR hI hS hF (v 0 1) 0 20 (takeV v S (v 0 1)) (σ 40) _ (by omega) (by omega) (take_lt _ _ _) (Nat.add_zero _).symm hh
  rw [sA_self, nI_0] at e1
  refine ⟨b, h, ?_⟩
  unfold pX0_berthOf
  refine (bnd rfl).trans ((bnd (c_others hR1 hI hS)).trans ((bnd e1).trans ?_))
  cases hc : canV v S F (v 0 1) 0 (takeV v S (v 0 1))
  · rw [if_pos (show (if false = true then (1 : Int32) else 0) = 0 from rfl)]; rfl
  · rw [if_neg (show ¬ (if true = true then (1 : Int32) else 0) = 0 by decide)]
    show some (pX10_at b 8 (nI a), _) = _
    rw [at_nI (by omega) (by decide), e4 hc a (by omega) ha hs]
    rfl
theorem m_taken (hR : RmN μ v) (hI : InvN v) {S : Nat} (hS : S < 2 ^ v 0 1) (x2 x3 : Int32) : pX11_place_L64 μ (nI S) x2 x3 2000 0 0 = some (nI (takeV v S (v 0 1))) := by
  have h8 := hI.2.1
  have hS8 : 2 ^ v 0 1 ≤ 2 ^ 8 := Nat.pow_le_pow_right (by decide) h8
  have key := loop_up (fun n (s : Int32 × Int32) => pX11_place_L64 μ (nI S) x2 x3 n s.1 s.2) (fun i => (nI (takeV v S i), nI i)) (v 0 1) (some (nI (takeV v S (v 0 1))))
    (by
      intro n i hi
      show pX11_place_L64 μ (nI S) x2 x3 (n + 1) (nI _) (nI i) = pX11_place_L64 μ (nI S) x2 x3 n (nI _) (nI (i + 1))
      have q := (hI.2.2.2.2.2.1 i (by omega)).1
      rw [pX11_place_L64, m_na hR, Option.bind_some, if_neg (nI_ge hi (by omega)), m_lies hR hI (by omega), Option.bind_some, m_cel hR (by omega), take_s v S i q, nI_1, m_has (by omega) (by omega)]
      cases hl : liesV v i
      · rw [if_pos (by decide), or_z, Option.bind_some]; rfl
      · rw [if_neg (by decide)]
        cases hs : S.testBit i
        · rw [if_pos (by decide), Option.bind_some, m_shl (by omega), fa_or, Option.bind_some]; rfl
        · rw [if_neg (by decide), or_z, Option.bind_some]; rfl)
    (by
      intro n
      show pX11_place_L64 μ (nI S) x2 x3 (n + 1) (nI _) (nI (v 0 1)) = _
      rw [pX11_place_L64, m_na hR, Option.bind_some, if_pos (nI_le (Nat.le_refl _) (by omega))]) (v 0 1) 0 2000 (by omega) (by omega)
  have e0 : takeV v S 0 = 0 := bitsN_0.mpr (anyN_no.mpr (fun _ _ => rfl))
  have key : pX11_place_L64 μ (nI S) x2 x3 2000 (nI (takeV v S 0)) (nI 0) = _ := key
  rw [e0, nI_0] at key
  exact key
/-- the table has row c -/
def rowT (v : Vw) (S F c : Nat) (T : Nat → Int32) : Prop := ∀ u, u < 1024 → T (1024 * c + u) = if canV v S F (v 0 1 - c) c u then 1 else 0
theorem m_canLie (hR : RmN μ v) (hI : InvN v) {S F a x t d : Nat} (hF : F ≤ 99) (hd : a + d + 1 = v 0 1) (hx : x < 10) (ht : t < 1024) {T : Nat → Int32} (hT : rowT v S F (a + 1) T) (h19 : μ 19 = T) : pX11_canLie μ (nI a) (nI x) (nI t) (nI F) = some (if clV v S F d a t x then 1 else 0) := by
  have h8 := hI.2.1
  have q := (hI.2.2.2.2.2.1 a (by omega)).2.1
  have hs := str_le hI hx (show a < v 0 1 by omega) q
  have ht2 : t ||| 2 ^ x < 1024 := or_lt (k := 10) ht (Nat.pow_lt_pow_right (by decide) hx)
  unfold pX11_canLie clV okF
  rw [m_has (by omega) (by omega)]
  cases htx : t.testBit x
  · rw [if_pos (by decide), m_strAt hR hI hx (by omega), Option.bind_some]
    by_cases w : F ≤ strAt v x a (v 7 (8 + a))
    · rw [if_neg (nI_nlt w (by omega)), m_shl (by omega), nI_1, fa_or, show (1024 : Int32) * nI (a + 1) = nI (1024 * (a + 1)) from pk_mul 1024 (a + 1), nI_add, rd_nI (by omega) (by decide), h19, hT _ ht2, Option.bind_some, decide_eq_true w, show v 0 1 - (a + 1) = d by omega]
      cases canV v S F d (a + 1) (t ||| 2 ^ x) <;> rfl
    · rw [if_pos (nI_lt (by omega) (by omega)), decide_eq_false w]; rfl
  · rw [if_neg (by decide)]; rfl
theorem m_219 (hR : RmN μ v) (hI : InvN v) {S F a t d : Nat} (hS : S < 2 ^ 31) (hF : F ≤ 99) (hd : a + d + 1 = v 0 1) (ht : t < 1024) {T : Nat → Int32} (hT : rowT v S F (a + 1) T) (h19 : μ 19 = T) (x3 x4 : Int32) : ∀ (k x n : Nat) (b : Bool), x + k = 10 → k < n → pX11_place_L219 μ (nI S) (nI F) x3 x4 (nI a) (nI t) n (if b then 1 else 0) (nI x) = some (if (b || (S.testBit a && anyU (clV v S F d a t) k x)) then 1 else 0) := by
  have h8 := hI.2.1
  intro k
  induction k with
  | zero =>
    intro x n b hx hn
    obtain ⟨n, rfl⟩ : ∃ q, n = q + 1 := ⟨n - 1, by omega⟩
    rw [pX11_place_L219, if_pos (show (10 : Int32) ≤ nI x from nI_le (a := 10) (by omega) (by omega)), anyU, Bool.and_false, Bool.or_false]
  | succ k ih =>
    intro x n b hx hn
    obtain ⟨n, rfl⟩ : ∃ q, n = q + 1 := ⟨n - 1, by omega⟩
    have i0 := ih (x + 1) n false (by omega) (by omega)
    have i1 := ih (x + 1) n true (by omega) (by omega)
    rw [if_neg (by decide)] at i0
    rw [if_pos rfl] at i1
    rw [pX11_place_L219, if_neg (show ¬ (10 : Int32) ≤ nI x from nI_ge (b := 10) (by omega) (by decide)), m_has hS (by omega), nI_1, anyU]
    cases hs : S.testBit a
    · rw [if_pos (by decide), Bool.false_and, Bool.or_false]
    · rw [if_neg (by decide)]
      rw [hs] at i0 i1
      cases b
      · rw [if_pos (by decide), m_canLie hR hI hF hd (by omega) ht hT h19, Option.bind_some]
        cases hc : clV v S F d a t x
        · rw [if_pos (by decide), i0]; rfl
        · rw [if_neg (by decide), i1]; rfl
      · rw [if_neg (by decide), i1]; rfl
theorem bool01 (b : Bool) : vp_nar .boolean (if b then 1 else 0) = if b then 1 else 0 := by cases b <;> rfl
theorem m_173 (hR : RmN μ v) (hI : InvN v) {S F a d : Nat} (hS : S < 2 ^ 31) (hF : F ≤ 99) (hd : a + d + 1 = v 0 1) {T0 : Nat → Int32} (hT0 : rowT v S F (a + 1) T0) (x3 x4 : Int32) : ∀ (j t n : Nat) (T : Nat → Int32), t + j = 1024 → j < n → (∀ u, u < t → T (1024 * a + u) = if canV v S F (d + 1) a u then 1 else 0) → (∀ i, 1024 * (a + 1) ≤ i → T i = T0 i) → ∃ T', pX11_place_L173 (nI S) (nI F) x3 x4 (nI a) n (nI t) (sA μ 19 T) = some (sA μ 19 T') ∧ (∀ u, u < 1024 → T' (1024 * a + u) = if canV v S F (d + 1) a u then 1 else 0) ∧ (∀ i, 1024 * (a + 1) ≤ i → T' i = T0 i) := by
  have h8 := hI.2.1
  intro j
  induction j with
  | zero =>
    intro t n T ht hn h1 h2
    obtain ⟨n, rfl⟩ : ∃ q, n = q + 1 := ⟨n - 1, by omega⟩
    refine ⟨T, ?_, fun u hu => h1 u (by omega), h2⟩
    rw [pX11_place_L173, if_pos (show (1024 : Int32) ≤ nI t from nI_le (a := 1024) (by omega) (by omega))]
  | succ j ih =>
    intro t n T ht hn h1 h2
    obtain ⟨n, rfl⟩ : ∃ q, n = q + 1 := ⟨n - 1, by omega⟩
    have hR2 : RmN (sA μ 19 T) v := hR
    have hT : rowT v S F (a + 1) T := fun u hu => by rw [h2 _ (by omega)]; exact hT0 u hu
    have val : ∀ b : Bool, (if b || (S.testBit a && anyU (clV v S F d a t) 10 0) then (1 : Int32) else 0) = (if canV v S F (d + 1) a t then 1 else 0) → ((pX11_place_L219 (sA μ 19 T) (nI S) (nI F) x3 x4 (nI a) (nI t) 2000 (if b then 1 else 0) 0).bind fun w => (wrA (sA μ 19 T) 19 9216 ((1024 * nI a) + nI t) (vp_nar .boolean w)).bind fun σ' => pX11_place_L173 (nI S) (nI F) x3 x4 (nI a) n (nI t + 1) σ') = pX11_place_L173 (nI S) (nI F) x3 x4 (nI a) n (nI (t + 1)) (sA μ 19 (upd T (1024 * a + t) (if canV v S F (d + 1) a t then 1 else 0))) := by
      intro b hb
      have k1 := m_219 hR2 hI hS hF hd (show t < 1024 by omega) hT rfl x3 x4 10 0 2000 b rfl (by omega)
      rw [hb, nI_0] at k1
      refine (bnd k1).trans ?_
      rw [bool01, show (1024 : Int32) * nI a = nI (1024 * a) from pk_mul 1024 a, nI_add, wr_nI (by omega) (by decide), Option.bind_some, nI_1, s1_sA, sA_eq, sA_sA]
    obtain ⟨T', g1, g2, g3⟩ := ih (t + 1) n (upd T (1024 * a + t) (if canV v S F (d + 1) a t then 1 else 0)) (by omega) (by omega) (fun u hu => by
      by_cases e : u = t
      · rw [e, pk_us]
      · rw [pk_un (by omega), h1 u (by omega)]) (fun i hi => by rw [pk_un (by omega), h2 i hi])
    refine ⟨T', ?_, g2, g3⟩
    rw [pX11_place_L173, if_neg (show ¬ (1024 : Int32) ≤ nI t from nI_ge (b := 1024) (by omega) (by decide)), m_has hS (by omega)]
    have v0 := val false
    have v1 := val true
    rw [if_neg (show ¬ false = true by decide)] at v0
    rw [if_pos rfl] at v1
    cases hs : S.testBit a
    · rw [if_pos (show (if false = true then (1 : Int32) else 0) = 0 from rfl), show (1024 : Int32) * (nI a + 1) = nI (1024 * (a + 1)) by rw [nI_1]; exact pk_mul 1024 (a + 1), nI_add, rd_nI (by omega) (by decide), sA_eq, hT t (by omega), show v 0 1 - (a + 1) = d by omega]
      rw [hs] at v0 v1
      rw [can_no hs] at v0 v1
      rw [← can_no hs] at v0 v1
      rw [Option.bind_some]
      cases hc : canV v S F d (a + 1) t
      · rw [if_pos (show (if false = true then (1 : Int32) else 0) = 0 from rfl), v0 (by rw [can_no hs, hc]; rfl)]
        exact g1
      · rw [if_neg (show ¬ (if true = true then (1 : Int32) else 0) = 0 by decide), v1 (by rw [can_no hs, hc]; rfl)]
        exact g1
    · rw [if_neg (show ¬ (if true = true then (1 : Int32) else 0) = 0 by decide), v0 (by rw [can_yes hs, hs]; rfl)]
      exact g1
theorem m_165 (hR : RmN μ v) (hI : InvN v) {S F : Nat} (hS : S < 2 ^ 31) (hF : F ≤ 99) (x3 x4 : Int32) : ∀ (k n : Nat) (T : Nat → Int32), k ≤ v 0 1 → k < n → (∀ c, k ≤ c → c ≤ v 0 1 → rowT v S F c T) → ∃ T', pX11_place_L165 (nI S) (nI F) x3 x4 n (nI k - 1) (sA μ 19 T) = some (sA μ 19 T') ∧ ∀ c, c ≤ v 0 1 → rowT v S F c T' := by
  have h8 := hI.2.1
  intro k
  induction k with
  | zero =>
    intro n T hk hn hT
    obtain ⟨n, rfl⟩ : ∃ q, n = q + 1 := ⟨n - 1, by omega⟩
    refine ⟨T, ?_, fun c hc => hT c (Nat.zero_le c) hc⟩
    rw [pX11_place_L165, if_pos (by decide)]
  | succ k ih =>
    intro n T hk hn hT
    obtain ⟨n, rfl⟩ : ∃ q, n = q + 1 := ⟨n - 1, by omega⟩
    obtain ⟨T1, e1, e2, e3⟩ := m_173 hR hI hS hF (a := k) (d := v 0 1 - (k + 1)) (by omega) (hT (k + 1) (Nat.le_refl _) hk) x3 x4 1024 0 2000 T (by omega) (by omega) (fun u hu => absurd hu (Nat.not_lt_zero u)) (fun _ _ => rfl)
    obtain ⟨T', g1, g2⟩ := ih n T1 (by omega) (by omega) (fun c hc1 hc2 => by
      by_cases e : c = k
      · intro u hu
        rw [e, e2 u hu, show v 0 1 - k = v 0 1 - (k + 1) + 1 by omega]
      · intro u hu
        rw [e3 _ (by omega)]
        exact hT c (by omega) hc2 u hu)
    refine ⟨T', ?_, g2⟩
    rw [nI_0] at e1
    rw [pX11_place_L165, nI_pred, if_neg (nI_pos (by omega))]
    refine (bnd e1).trans ?_
    rw [← Int32.sub_eq_add_neg]
    exact g1
theorem m_122 (hR : RmN μ v) (hI : InvN v) {S F : Nat} (x1 x2 x3 x4 : Int32) : ∃ T, pX11_place_L122 x1 x2 x3 x4 2000 0 μ = some (sA μ 19 T) ∧ rowT v S F (v 0 1) T := by
  have h8 := hI.2.1
  have loop : ∀ (j t n : Nat) (T : Nat → Int32), t + j = 1024 → j < n → (∀ u, u < t → T (1024 * v 0 1 + u) = 1) → ∃ T', pX11_place_L122 x1 x2 x3 x4 n (nI t) (sA μ 19 T) = some (sA μ 19 T') ∧ ∀ u, u < 1024 → T' (1024 * v 0 1 + u) = 1 := by
    intro j
    induction j with
    | zero =>
      intro t n T ht hn h1
      obtain ⟨n, rfl⟩ : ∃ q, n = q + 1 := ⟨n - 1, by omega⟩
      refine ⟨T, ?_, fun u hu => h1 u (by omega)⟩
      rw [pX11_place_L122, if_pos (show (1024 : Int32) ≤ nI t from nI_le (a := 1024) (by omega) (by omega))]
    | succ j ih =>
      intro t n T ht hn h1
      obtain ⟨n, rfl⟩ : ∃ q, n = q + 1 := ⟨n - 1, by omega⟩
      have hR2 : RmN (sA μ 19 T) v := hR
      obtain ⟨T', g1, g2⟩ := ih (t + 1) n (upd T (1024 * v 0 1 + t) 1) (by omega) (by omega) (fun u hu => by
        by_cases e : u = t
        · rw [e, pk_us]
        · rw [pk_un (by omega), h1 u (by omega)])
      refine ⟨T', ?_, g2⟩
      rw [pX11_place_L122, if_neg (show ¬ (1024 : Int32) ≤ nI t from nI_ge (b := 1024) (by omega) (by decide)), m_na hR2, Option.bind_some, show (1024 : Int32) * nI (v 0 1) = nI (1024 * v 0 1) from pk_mul 1024 (v 0 1), nI_add, show vp_nar .boolean 1 = 1 from rfl, wr_nI (by omega) (by decide), Option.bind_some, nI_1, s1_sA, sA_eq, sA_sA]
      exact g1
  obtain ⟨T, e1, e2⟩ := loop 1024 0 2000 (μ 19) (by omega) (by omega) (fun u hu => absurd hu (Nat.not_lt_zero u))
  rw [sA_self, nI_0] at e1
  refine ⟨T, e1, fun u hu => ?_⟩
  rw [e2 u hu, Nat.sub_self]
  rfl
theorem m_337 (hR : RmN μ v) (hI : InvN v) {S F a t d : Nat} (hF : F ≤ 99) (hd : a + d + 1 = v 0 1) (ht : t < 1024) {T : Nat → Int32} (hT : rowT v S F (a + 1) T) (h19 : μ 19 = T) (x1 x3 : Int32) : ∀ (k x n : Nat), x + k = 10 → k < n → anyU (clV v S F d a t) k x = true → pX11_place_L337 μ x1 (nI F) x3 (nI t) (nI a) n (nI x) = some (nI (firstU (clV v S F d a t) k x)) := by
  intro k
  induction k with
  | zero => intro x n _ _ h; cases h
  | succ k ih =>
    intro x n hx hn h
    obtain ⟨n, rfl⟩ : ∃ q, n = q + 1 := ⟨n - 1, by omega⟩
    rw [anyU] at h
    rw [pX11_place_L337, m_canLie hR hI hF hd (by omega) ht hT h19, Option.bind_some, firstU, nI_1]
    cases hc : clV v S F d a t x
    · rw [hc, Bool.false_or] at h
      rw [if_pos (by decide), ih (x + 1) n (by omega) (by omega) h]
      rfl
    · rw [if_neg (by decide)]
      rfl
theorem m_319 (hR : RmN μ v) (hI : InvN v) {S F A : Nat} (hS : S < 2 ^ 31) (hF : F ≤ 99) (hA : A < v 0 1) (hSA : S.testBit A = true) {T : Nat → Int32} (hT : ∀ c, c ≤ v 0 1 → rowT v S F c T) (h19 : μ 19 = T) : ∀ (j a t n : Nat) (x6 : Int32), a + j = A → j + 1 < n → t < 1024 → canV v S F (v 0 1 - a) a t = true → pX11_place_L319 μ (nI S) (nI F) (nI A) n (nI t) x6 (nI a) = some (nI (grV v S F (v 0 1 - a) a t A)) := by
  have h8 := hI.2.1
  intro j
  induction j with
  | zero =>
    intro a t n x6 ha hn ht hc
    obtain ⟨n, rfl⟩ : ∃ q, n = q + 1 := ⟨n - 1, by omega⟩
    obtain ⟨n, rfl⟩ : ∃ q, n = q + 1 := ⟨n - 1, by omega⟩
    have e : a = A := by omega
    subst e
    have hd : a + (v 0 1 - (a + 1)) + 1 = v 0 1 := by omega
    rw [show v 0 1 - a = v 0 1 - (a + 1) + 1 by omega] at hc ⊢
    rw [can_yes hSA] at hc
    rw [pX11_place_L319, if_neg (nI_nlt (by omega) (by omega)), m_has hS (by omega), hSA, if_neg (by decide)]
    have k1 := m_337 hR hI hF hd ht (hT (a + 1) (by omega)) h19 (nI S) (nI a) 10 0 2000 rfl (by omega) hc
    rw [nI_0] at k1
    refine (bnd k1).trans ?_
    rw [Option.bind_some, nI_1, pX11_place_L319, if_pos (nI_lt (by omega) (by omega)), grV, if_pos hSA, if_pos rfl]
  | succ j ih =>
    intro a t n x6 ha hn ht hc
    obtain ⟨n, rfl⟩ : ∃ q, n = q + 1 := ⟨n - 1, by omega⟩
    have hd : a + (v 0 1 - (a + 1)) + 1 = v 0 1 := by omega
    rw [show v 0 1 - a = v 0 1 - (a + 1) + 1 by omega] at hc ⊢
    rw [pX11_place_L319, if_neg (nI_nlt (by omega) (by omega)), m_has hS (by omega), grV]
    cases hs : S.testBit a
    · rw [can_no hs] at hc
      rw [if_pos (by decide), nI_1, if_neg (by decide)]
      exact ih (a + 1) t n x6 (by omega) (by omega) ht hc
    · rw [can_yes hs] at hc
      have k1 := m_337 hR hI hF hd ht (hT (a + 1) (by omega)) h19 (nI S) (nI A) 10 0 2000 rfl (by omega) hc
      rw [nI_0] at k1
      obtain ⟨f1, f2, f3⟩ := first_yes hc
      have ht2 : t ||| 2 ^ firstU (clV v S F (v 0 1 - (a + 1)) a t) 10 0 < 1024 := or_lt (k := 10) ht (Nat.pow_lt_pow_right (by decide) (by omega))
      rw [if_neg (by decide), if_pos rfl, if_neg (show ¬ A = a by omega)]
      refine (bnd k1).trans ?_
      rw [m_shl (by omega), fa_or, Option.bind_some, nI_1]
      refine ih (a + 1) _ n _ (by omega) (by omega) ht2 ?_
      unfold clV at f1
      rw [Bool.and_eq_true] at f1
      exact f1.2
theorem eq_place : EQ_place := by
  intro v σ μ a1 a2 a3 hI hRc hRm
  have hN := hI.1
  have hc := hRc.1
  have hm := hRm.1
  have h8 := hN.2.1
  have hp := Nat.two_pow_pos (v 0 1)
  have hS8 : 2 ^ v 0 1 ≤ 2 ^ 8 := Nat.pow_le_pow_right (by decide) h8
  have eC : pX10_bit (σ 1 8) - 1 = nI (2 ^ v 0 1 - 1) := by
    rw [hc.2.1, bit_nI (by omega), show (1 : Int32) = nI 1 from rfl, pk_sub (by omega)]
  have eM : (1 : Int32) <<< (nI (v 0 1) &&& 31) - 1 = nI (2 ^ v 0 1 - 1) := by
    rw [m_shl (by omega), show (1 : Int32) = nI 1 from rfl, pk_sub (by omega)]
  unfold pX10_place pX10_isNoForce
  rw [eC, c_noAnchor hc]
  have um : pX11_place μ a1 a2 a3 = _ := rfl
  rcases o0 a1 (H := nI (2 ^ v 0 1 - 1)) (2 ^ v 0 1 - 1) rfl (by omega) with ⟨h1, S, rfl, hS⟩ | ⟨h1, -⟩
  · have hS : S < 2 ^ v 0 1 := by omega
    have g1 : ¬ pX11_in (nI S) 0 ((1 : Int32) <<< (nI (v 0 1) &&& 31) - 1) = 0 := by rw [eM, in_yes h1]; decide
    rcases o1 a2 (H := 99) 99 rfl (by decide) with ⟨h2, F, rfl, hF1, hF⟩ | ⟨h2, -⟩
    · have g2 : ¬ pX11_isStorm (nI F) = 0 := by unfold pX11_isStorm; rw [in_yes h2]; decide
      rcases out_lt a3 (n := v 0 1) (by omega) with ⟨h3, a, rfl, ha⟩ | ⟨h3, -⟩
      · have ha' : pX11_isAnchor μ (nI a) = some 1 := by rw [m_isAnchor hm, h3]; rfl
        cases hs : S.testBit a
        · refine same hI hRc hRm (o := -1) ?_ ?_
          · rw [if_pos h1, if_pos h2, h3, if_pos rfl, has_nI (by omega) (by omega), hs, if_pos (by decide)]
          · unfold pX11_place
            refine (bnd (m_na hm)).trans ?_
            rw [if_neg g1, if_neg g2]
            refine (bnd ha').trans ?_
            rw [if_neg (by decide), m_has (by omega) (by omega), hs, if_pos (by decide)]
        · have eA : nI S &&& nI (thoseV v 0) = nI (bitsN (fun a => S.testBit a && (v 7 (24 + a) == 0)) (v 0 1)) := by
            have := bitsN_and (fun a => S.testBit a) (fun a => v 7 (24 + a) == 0) (v 0 1)
            rw [bits_self hS] at this
            exact this
          have eB : nI S &&& (nI (thoseV v 0) ^^^ (-1)) = nI (bitsN (fun a => S.testBit a && !(v 7 (24 + a) == 0)) (v 0 1)) := by
            have := bitsN_not (fun a => S.testBit a) (fun a => v 7 (24 + a) == 0) (v 0 1)
            rw [bits_self hS] at this
            exact this
          have pi := part_iff (fun a => S.testBit a) (fun a => v 7 (24 + a) == 0) (v 0 1)
          rw [bits_self hS] at pi
          have b1 := bitsN_lt (fun a => S.testBit a && (v 7 (24 + a) == 0)) (v 0 1)
          have b2 := bitsN_lt (fun a => S.testBit a && !(v 7 (24 + a) == 0)) (v 0 1)
          have hth := c_those hc hN (h := 0) (by omega)
          have htm := m_those hm hN (h := 0) (by omega)
          rw [nI_0] at hth htm
          by_cases hz : bitsN (fun a => S.testBit a && !(v 7 (24 + a) == 0)) (v 0 1) = 0
          · have he := pi.mpr hz
            obtain ⟨b, h, cb⟩ := c_berth hc hN hS hF ha hs
            obtain ⟨T1, t1, t2⟩ := m_122 hm hN (S := S) (F := F) (nI S) (nI F) (nI a) (nI (takeV v S (v 0 1)))
            have hm1 : RmN (sA μ 19 T1) v := hm
            obtain ⟨T2, t3, t4⟩ := m_165 hm hN (S := S) (F := F) (by omega) hF (nI a) (nI (takeV v S (v 0 1))) (v 0 1) 2000 T1 (Nat.le_refl _) (by omega) (fun c hc1 hc2 => by
              rw [show c = v 0 1 by omega]; exact t2)
            have hm2 : RmN (sA μ 19 T2) v := hm
            have htl := take_lt v S (v 0 1)
            have hrd : rdA (sA μ 19 T2) 19 9216 (nI (takeV v S (v 0 1))) = some (if canV v S F (v 0 1) 0 (takeV v S (v 0 1)) then 1 else 0) := by
              rw [rd_nI (by omega) (by decide), sA_eq]
              have := t4 0 (Nat.zero_le _) _ htl
              rw [Nat.mul_zero, Nat.zero_add, Nat.sub_zero] at this
              rw [this]
            refine diff (v' := v) (σ' := sA (sA σ 40 b) 41 h) (μ' := sA μ 19 T2) (o := if canV v S F (v 0 1) 0 (takeV v S (v 0 1)) then nI (grV v S F (v 0 1) 0 (takeV v S (v 0 1)) a) else -9) ?_ ?_ hI hRc hRm
            · rw [if_pos h1, if_pos h2, h3, if_pos rfl, has_nI (by omega) (by omega), hs, if_neg (by decide)]
              refine (bnd hth).trans ?_
              rw [eA, he, if_pos rfl]
              exact (bnd cb).trans rfl
            · unfold pX11_place
              refine (bnd (m_na hm)).trans ?_
              rw [if_neg g1, if_neg g2]
              refine (bnd ha').trans ?_
              rw [if_neg (by decide), m_has (by omega) (by omega), hs, if_neg (by decide)]
              refine (bnd htm).trans ?_
              rw [eB, hz, if_pos (by decide)]
              refine (bnd (m_taken hm hN hS (nI F) (nI a))).trans ((bnd t1).trans ((bnd (m_na hm1)).trans ((bnd rfl).trans ((bnd t3).trans ((bnd hrd).trans ?_)))))
              cases hcan : canV v S F (v 0 1) 0 (takeV v S (v 0 1))
              · rw [if_pos (show (if false = true then (1 : Int32) else 0) = 0 from rfl)]; rfl
              · have k1 := m_319 hm2 hN (S := S) (F := F) (A := a) (by omega) hF ha hs t4 rfl a 0 (takeV v S (v 0 1)) 2000 (-9) (by omega) (by omega) htl (by rw [Nat.sub_zero]; exact hcan)
                rw [nI_0, Nat.sub_zero] at k1
                rw [if_neg (show ¬ (if true = true then (1 : Int32) else 0) = 0 by decide)]
                refine (bnd k1).trans ?_
                rw [if_pos rfl]
          · have he : ¬ bitsN (fun a => S.testBit a && (v 7 (24 + a) == 0)) (v 0 1) = S := fun z => hz (pi.mp z)
            refine same hI hRc hRm (o := -2) ?_ ?_
            · rw [if_pos h1, if_pos h2, h3, if_pos rfl, has_nI (by omega) (by omega), hs, if_neg (by decide)]
              refine (bnd hth).trans ?_
              rw [eA, if_neg (fun z => he ((nI_eq (by omega) (by omega)).mp z))]
            · unfold pX11_place
              refine (bnd (m_na hm)).trans ?_
              rw [if_neg g1, if_neg g2]
              refine (bnd ha').trans ?_
              rw [if_neg (by decide), m_has (by omega) (by omega), hs, if_neg (by decide)]
              refine (bnd htm).trans ?_
              rw [eB, if_neg (nI_ne0 (by omega) (by omega))]
      · refine same hI hRc hRm (o := -1) ?_ ?_
        · rw [if_pos h1, if_pos h2, h3, if_neg (by decide)]
        · have ha' : pX11_isAnchor μ a3 = some 0 := by rw [m_isAnchor hm, h3]; rfl
          unfold pX11_place
          refine (bnd (m_na hm)).trans ?_
          rw [if_neg g1, if_neg g2]
          refine (bnd ha').trans ?_
          rw [if_pos rfl]
    · refine same hI hRc hRm (o := -1) ?_ ?_
      · rw [if_pos h1, h2, if_neg (by decide)]
      · unfold pX11_place
        refine (bnd (m_na hm)).trans ?_
        rw [if_neg g1, if_pos (show pX11_isStorm a2 = 0 from in_no h2)]
  · refine same hI hRc hRm (o := -1) ?_ ?_
    · rw [h1, if_neg (by decide)]
    · unfold pX11_place
      refine (bnd (m_na hm)).trans ?_
      rw [if_pos (show pX11_in a1 0 ((1 : Int32) <<< (nI (v 0 1) &&& 31) - 1) = 0 by rw [eM]; exact in_no h1)]
end G
