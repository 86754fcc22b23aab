/-! plain facts on numbers, bits, counted loops -/
theorem loop_up {S R : Type} (F : Nat → S → Option R) (st : Nat → S) (N : Nat) (out : Option R) (step : ∀ n i, i < N → F (n + 1) (st i) = F n (st (i + 1))) (stop : ∀ n, F (n + 1) (st N) = out) : ∀ d i n, i + d = N → d < n → F n (st i) = out := by
  intro d
  induction d with
  | zero =>
    intro i n hi hn
    obtain ⟨n, rfl⟩ : ∃ k, n = k + 1 := ⟨n - 1, by omega⟩
    rw [show i = N by omega]
    exact stop n
  | succ d ih =>
    intro i n hi hn
    obtain ⟨n, rfl⟩ : ∃ k, n = k + 1 := ⟨n - 1, by omega⟩
    rw [step n i (by omega)]
    exact ih (i + 1) n (by omega) (by omega)
theorem fa_or (a b : Nat) : nI a ||| nI b = nI (a ||| b) := by
  apply Int32.toBitVec_inj.1
  show BitVec.ofNat 32 a ||| BitVec.ofNat 32 b = BitVec.ofNat 32 (a ||| b)
  apply BitVec.eq_of_getLsbD_eq
  intro i hi
  simp [hi]
theorem fa_and (a b : Nat) : nI a &&& nI b = nI (a &&& b) := by
  apply Int32.toBitVec_inj.1
  show BitVec.ofNat 32 a &&& BitVec.ofNat 32 b = BitVec.ofNat 32 (a &&& b)
  apply BitVec.eq_of_getLsbD_eq
  intro i hi
  simp [hi]
theorem fa_or_sum {a k : Nat} (b : Nat) (h : a < 2 ^ k) : nI (2 ^ k * b) ||| nI a = nI (2 ^ k * b + a) := by rw [fa_or, Nat.two_pow_add_eq_or_of_lt h]
/-- a set of small numbers, as a number -/
def bitsN (p : Nat → Bool) : Nat → Nat
  | 0 => 0
  | n + 1 => bitsN p n + if p n then 2 ^ n else 0
theorem bitsN_lt (p : Nat → Bool) : ∀ n, bitsN p n < 2 ^ n
  | 0 => by simp [bitsN]
  | n + 1 => by
    have h := bitsN_lt p n
    rw [bitsN, Nat.pow_succ]
    split <;> omega
theorem bitsN_cong {p q : Nat → Bool} : ∀ {n : Nat}, (∀ k, k < n → p k = q k) → bitsN p n = bitsN q n
  | 0, _ => rfl
  | n + 1, h => by rw [bitsN, bitsN, bitsN_cong (fun k hk => h k (by omega)), h n (by omega)]
theorem bitsN_bit (p : Nat → Bool) : ∀ n k, (bitsN p n).testBit k = (decide (k < n) && p k)
  | 0, k => by simp [bitsN]
  | n + 1, k => by
    have hlt := bitsN_lt p n
    rw [bitsN]
    by_cases hp : p n = true
    · rw [if_pos hp, Nat.add_comm, show 2 ^ n + bitsN p n = 2 ^ n * 1 + bitsN p n by omega, Nat.two_pow_add_eq_or_of_lt hlt, Nat.testBit_or, bitsN_bit p n k, Nat.mul_one, Nat.testBit_two_pow]
      by_cases h1 : k = n
      · subst h1; simp [hp]
      · by_cases h2 : k < n
        · simp [h2, show k < n + 1 by omega, show ¬ n = k by omega]
        · simp [h2, show ¬ k < n + 1 by omega, show ¬ n = k by omega]
    · rw [if_neg hp, Nat.add_zero, bitsN_bit p n k]
      by_cases h1 : k = n
      · subst h1; simp [hp]
      · by_cases h2 : k < n
        · simp [h2, show k < n + 1 by omega]
        · simp [h2, show ¬ k < n + 1 by omega]
theorem bitsN_or (p : Nat → Bool) (n : Nat) (hp : p n = true) : nI (bitsN p n) ||| nI (2 ^ n) = nI (bitsN p (n + 1)) := by
  have h := fa_or_sum (k := n) 1 (bitsN_lt p n)
  rw [Nat.mul_one] at h
  rw [bitsN, if_pos hp, Nat.add_comm, ← h, fa_or, fa_or, Nat.or_comm]
theorem bitsN_no (p : Nat → Bool) (n : Nat) (hp : p n = false) : bitsN p (n + 1) = bitsN p n := by
  rw [bitsN, hp]; simp
def sumN (f : Nat → Nat) : Nat → Nat
  | 0 => 0
  | n + 1 => sumN f n + f n
theorem sumN_le {f : Nat → Nat} {c : Nat} : ∀ {n : Nat}, (∀ k, k < n → f k ≤ c) → sumN f n ≤ n * c
  | 0, _ => by simp [sumN]
  | n + 1, h => by
    have h1 := sumN_le (n := n) (fun k hk => h k (by omega))
    have h2 := h n (by omega)
    rw [sumN, Nat.succ_mul]
    omega
theorem sumN_cong {f g : Nat → Nat} : ∀ {n : Nat}, (∀ k, k < n → f k = g k) → sumN f n = sumN g n
  | 0, _ => rfl
  | n + 1, h => by rw [sumN, sumN, sumN_cong (fun k hk => h k (by omega)), h n (by omega)]
/-- answers that are no number of the town -/
theorem nI_m {n k : Nat} (h : k ≤ n) : nI n - nI k = nI (n - k) := pk_sub h
theorem bit_nI {a : Nat} (h : a < 31) : pX10_bit (nI a) = nI (2 ^ a) := by
  unfold pX10_bit
  rw [if_neg (nI_pos (by omega)), if_neg (show ¬ (31 : Int32) ≤ nI a from nI_ge (b := 31) h (by decide))]
  rcases (show a = 0 ∨ a = 1 ∨ a = 2 ∨ a = 3 ∨ a = 4 ∨ a = 5 ∨ a = 6 ∨ a = 7 ∨ a = 8 ∨ a = 9 ∨ a = 10 ∨ a = 11 ∨ a = 12 ∨ a = 13 ∨ a = 14 ∨ a = 15 ∨ a = 16 ∨ a = 17 ∨ a = 18 ∨ a = 19 ∨ a = 20 ∨ a = 21 ∨ a = 22 ∨ a = 23 ∨ a = 24 ∨ a = 25 ∨ a = 26 ∨ a = 27 ∨ a = 28 ∨ a = 29 ∨ a = 30 by omega) with rfl | rfl | rfl | rfl | rfl | rfl | rfl | rfl | rfl | rfl | rfl | rfl | rfl | rfl | rfl | rfl | rfl | rfl | rfl | rfl | rfl | rfl | rfl | rfl | rfl | rfl | rfl | rfl | rfl | rfl | rfl <;> rfl
theorem and_bit (n a : Nat) : n &&& 2 ^ a = if n.testBit a then 2 ^ a else 0 := by
  apply Nat.eq_of_testBit_eq
  intro i
  rw [Nat.testBit_and, Nat.testBit_two_pow]
  by_cases h : a = i
  · subst h
    cases hb : n.testBit a
    · simp
    · simp [Nat.testBit_two_pow_self]
  · cases hb : n.testBit a
    · simp [h]
    · simp [h, Nat.testBit_two_pow]
theorem has_nI {n a : Nat} (hn : n < 2 ^ 31) (h : a < 31) : pX10_has (nI n) (nI a) = if n.testBit a then 1 else 0 := by
  have h2 : 2 ^ a < 2 ^ 31 := Nat.pow_lt_pow_right (by decide) h
  unfold pX10_has
  rw [bit_nI h, fa_and, and_bit]
  cases hb : n.testBit a
  · rfl
  · rw [if_pos rfl, if_pos rfl, if_neg (nI_ne0 (Nat.two_pow_pos a) h2)]
theorem out_nI {n lo hi : Nat} (h : n < 2 ^ 31) (h2 : hi < 2 ^ 31) (h3 : lo < 2 ^ 31) : pX10_isOutside (nI n) (nI lo) (nI hi) = if lo ≤ n ∧ n ≤ hi then 0 else 1 := by
  unfold pX10_isOutside
  by_cases a : lo ≤ n
  · rw [if_neg (nI_nlt a h)]
    by_cases b : n ≤ hi
    · rw [if_pos (nI_le b h2), if_pos ⟨a, b⟩]
    · rw [if_neg (nI_ge (by omega) h), if_neg (fun z => b z.2)]
  · rw [if_pos (nI_lt (by omega) h3), if_neg (fun z => a z.1)]
/-- what is asked lies between two numbers: then it is a number -/
theorem out_is {x : Int32} {lo hi : Nat} (h2 : hi < 2 ^ 31) (h3 : lo < 2 ^ 31) : (pX10_isOutside x (nI lo) (nI hi) = 0 ∧ ∃ n, x = nI n ∧ lo ≤ n ∧ n ≤ hi) ∨ (pX10_isOutside x (nI lo) (nI hi) = 1 ∧ ¬ ∃ n, x = nI n ∧ lo ≤ n ∧ n ≤ hi) := by
  unfold pX10_isOutside
  by_cases a : x < nI lo
  · refine Or.inr ⟨if_pos a, ?_⟩
    rintro ⟨n, rfl, h4, h5⟩
    exact nI_nlt h4 (by omega) a
  · rw [if_neg a]
    have hx : ¬ x < 0 := by
      rw [Int32.lt_iff_toInt_lt] at a ⊢
      rw [nI_toInt h3] at a
      rw [show (0 : Int32).toInt = 0 from rfl]
      omega
    obtain ⟨n, hn, rfl⟩ := nI_of hx
    have hlo : lo ≤ n := by
      rcases Nat.lt_or_ge n lo with q | q
      · exact absurd (nI_lt q h3) a
      · exact q
    by_cases b : nI n ≤ nI hi
    · rw [if_pos b]
      exact Or.inl ⟨rfl, n, rfl, hlo, (nI_leI hn h2).mp b⟩
    · rw [if_neg b]
      refine Or.inr ⟨rfl, ?_⟩
      rintro ⟨k, hk, h4, h5⟩
      exact b (by rw [hk]; exact nI_le h5 h2)
theorem at_nI {f : Nat → Int32} {n a : Nat} (h : a < n) (hn : n < 2 ^ 31) : pX10_at f n (nI a) = f a := by
  unfold pX10_at
  rw [if_neg (nI_pos (by omega)), if_neg (nI_ge h hn), nI_clamp (by omega)]
theorem put_nI {f : Nat → Int32} {n a : Nat} {v : Int32} (h : a < n) (hn : n < 2 ^ 31) : pX10_put f n (nI a) v = upd f a v := by
  unfold pX10_put
  rw [if_neg (nI_pos (by omega)), if_neg (nI_ge h hn), nI_clamp (by omega)]
theorem copy_nI {f g : Nat → Int32} {nf ng a b n : Nat} (ha : a + n ≤ nf) (hb : b + n ≤ ng) (hf : nf < 2 ^ 31) (hg : ng < 2 ^ 31) : pX10_copy f nf (nI a) g ng (nI b) (nI n) = va_cpy f g a b n := by
  unfold pX10_copy
  rw [if_neg (nI_pos (by omega)), if_neg (nI_pos (by omega)), if_neg (nI_pos (by omega)), pk_sub (by omega), if_neg (nI_nlt (by omega) (by omega)), pk_sub (by omega), if_neg (nI_nlt (by omega) (by omega)), nI_clamp (by omega), nI_clamp (by omega), nI_clamp (by omega)]
theorem rd_nI {σ : Sg} {c n a : Nat} (h : a < n) (hn : n < 2 ^ 31) : rdA σ c n (nI a) = some (σ c a) := by
  unfold rdA
  rw [if_neg (nI_in h hn), nI_clamp (by omega)]
theorem wr_nI {σ : Sg} {c n a : Nat} {x : Int32} (h : a < n) (hn : n < 2 ^ 31) : wrA σ c n (nI a) x = some (s1 σ c a x) := by
  unfold wrA
  rw [if_neg (nI_in h hn), nI_clamp (by omega)]
  rfl
theorem div_nI {a d : Nat} (ha : a < 2 ^ 31) (h0 : 0 < d) (hd : d < 2 ^ 31) : dvI (nI a) (nI d) = some (nI (a / d)) := by
  unfold dvI
  rw [if_neg (nI_ne0 h0 hd), pk_div ha h0 hd]
theorem rem_nI {a d : Nat} (ha : a < 2 ^ 31) (h0 : 0 < d) (hd : d < 2 ^ 31) : rmI (nI a) (nI d) = some (nI (a % d)) := by
  unfold rmI
  rw [if_neg (nI_ne0 h0 hd), pk_rem ha h0 hd]
theorem divided_nI {a d : Nat} (ha : a < 2 ^ 31) (h0 : 0 < d) (hd : d < 2 ^ 31) : pX10_divided (nI a) (nI d) = some (nI (a / d)) := by
  unfold pX10_divided
  simp only [div_nI ha h0 hd]
  rw [if_neg (fun z => by have := (nI_leI (b := 0) hd (by decide)).mp z; omega)]
  rfl
