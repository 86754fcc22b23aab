/-! place: where they could lie -/
def anyU (p : Nat → Bool) : Nat → Nat → Bool
  | 0, _ => false
  | k + 1, x => p x || anyU p k (x + 1)
def firstU (p : Nat → Bool) : Nat → Nat → Nat
  | 0, _ => 0
  | k + 1, x => if p x then x else firstU p k (x + 1)
theorem first_yes {p : Nat → Bool} : ∀ {k x : Nat}, anyU p k x = true → p (firstU p k x) = true ∧ firstU p k x < x + k ∧ x ≤ firstU p k x
  | 0, _, h => by cases h
  | k + 1, x, h => by
    rw [anyU] at h
    rw [firstU]
    cases hp : p x
    · rw [hp, Bool.false_or] at h
      obtain ⟨h1, h2, h3⟩ := first_yes h
      rw [if_neg (by decide)]
      exact ⟨h1, by omega, by omega⟩
    · rw [if_pos rfl]
      exact ⟨hp, by omega, by omega⟩
def okF (v : Vw) (F a x : Nat) : Bool := decide (F ≤ strAt v x a (v 7 (8 + a)))
def canV (v : Vw) (S F : Nat) : Nat → Nat → Nat → Bool
  | 0, _, _ => true
  | d + 1, a, t => if S.testBit a then anyU (fun x => !t.testBit x && okF v F a x && canV v S F d (a + 1) (t ||| 2 ^ x)) 10 0 else canV v S F d (a + 1) t
def clV (v : Vw) (S F d a t x : Nat) : Bool := !t.testBit x && okF v F a x && canV v S F d (a + 1) (t ||| 2 ^ x)
def grV (v : Vw) (S F : Nat) : Nat → Nat → Nat → Nat → Nat
  | 0, _, _, _ => 0
  | d + 1, a, t, c => if S.testBit a then (if c = a then firstU (clV v S F d a t) 10 0 else grV v S F d (a + 1) (t ||| 2 ^ firstU (clV v S F d a t) 10 0) c) else grV v S F d (a + 1) t c
theorem can_yes {v : Vw} {S F d a t : Nat} (h : S.testBit a = true) : canV v S F (d + 1) a t = anyU (clV v S F d a t) 10 0 := by rw [canV, if_pos h]; rfl
theorem can_no {v : Vw} {S F d a t : Nat} (h : S.testBit a = false) : canV v S F (d + 1) a t = canV v S F d (a + 1) t := by rw [canV, h, if_neg (by decide)]
def popT (t : Nat) : Nat := sumN (fun k => if t.testBit k then 1 else 0) 10
def cntS (S a : Nat) : Nat := sumN (fun b => if S.testBit b then 1 else 0) a
theorem sumN_one {f g : Nat → Nat} {x : Nat} (h : ∀ k, k ≠ x → g k = f k) (hx : g x = f x + 1) : ∀ {n : Nat}, x < n → sumN g n = sumN f n + 1
  | 0, hn => absurd hn (Nat.not_lt_zero x)
  | n + 1, hn => by
    rw [sumN, sumN]
    by_cases e : x = n
    · subst e
      rw [hx, sumN_cong (f := g) (g := f) (fun k hk => h k (by omega))]
      omega
    · rw [sumN_one h hx (show x < n by omega), h n (fun z => e z.symm)]
      omega
theorem pop_or {t x : Nat} (hx : x < 10) (h : t.testBit x = false) : popT (t ||| 2 ^ x) = popT t + 1 := by
  refine sumN_one (x := x) (fun k hk => ?_) ?_ hx
  · rw [Nat.testBit_or, Nat.testBit_two_pow, decide_eq_false (fun z => hk z.symm), Bool.or_false]
  · rw [Nat.testBit_or, Nat.testBit_two_pow, h]
    simp
theorem cnt_lt {S a : Nat} (h : S.testBit a = true) : ∀ {b : Nat}, a < b → cntS S a < cntS S b
  | 0, hb => absurd hb (Nat.not_lt_zero a)
  | b + 1, hb => by
    have e : cntS S (b + 1) = cntS S b + (if S.testBit b then 1 else 0) := rfl
    rcases Nat.lt_or_ge a b with q | q
    · have := cnt_lt h q
      omega
    · have e2 : a = b := by omega
      subst e2
      rw [e, if_pos h]
      omega
/-- from t the rest can't be laid, whosever turn it is -/
def badT (v : Vw) (S F t0 t : Nat) : Prop := ∀ a, a < v 0 1 → S.testBit a = true → popT t = popT t0 + cntS S a → canV v S F (v 0 1 - a) a t = false
def hopH (v : Vw) (S F t0 : Nat) (h : Nat → Int32) : Prop := ∃ hw : Nat → Nat, (∀ w, w < 64 → h w = nI (hw w) ∧ hw w < 2 ^ 16) ∧ ∀ t, t < 1024 → (hw (t / 16)).testBit (t % 16) = true → badT v S F t0 t
theorem hop_add {v : Vw} {S F t0 t : Nat} {h : Nat → Int32} (hh : hopH v S F t0 h) (ht : t < 1024) (hb : badT v S F t0 t) : ∃ y : Nat, h (t / 16) = nI y ∧ hopH v S F t0 (upd h (t / 16) (nI (y ||| 2 ^ (t % 16)))) := by
  obtain ⟨hw, h1, h2⟩ := hh
  have q := h1 (t / 16) (by omega)
  refine ⟨hw (t / 16), q.1, updN hw (t / 16) (hw (t / 16) ||| 2 ^ (t % 16)), fun w hw' => ⟨upd_nI (h1 w hw').1, ?_⟩, fun u hu hbit => ?_⟩
  · by_cases e : w = t / 16
    · rw [e, updN_s]
      exact or_lt q.2 (Nat.pow_lt_pow_right (by decide) (by omega))
    · rw [updN_n e]
      exact (h1 w hw').2
  · by_cases e : u / 16 = t / 16
    · rw [e, updN_s, Nat.testBit_or, Nat.testBit_two_pow] at hbit
      by_cases e2 : t % 16 = u % 16
      · have : u = t := by omega
        rw [this]
        exact hb
      · rw [decide_eq_false e2, Bool.or_false, ← e] at hbit
        exact h2 u hu hbit
    · rw [updN_n e] at hbit
      exact h2 u hu hbit
section G
variable {σ μ : Sg} {v : Vw}
theorem c_would (hR : RcN σ v) (hI : InvN v) {x a F : Nat} (hx : x < 10) (ha : a < v 0 1) (hF : F ≤ 99) : pX0_wouldHold σ (nI x) (nI a) (nI F) = some (if okF v F a x then 1 else 0) := by
  have h8 := hI.2.1
  have q := (hI.2.2.2.2.2.1 a (by omega)).2.1
  have hs := str_le hI hx ha q
  unfold pX0_wouldHold okF
  rw [c_get hR (k := 8) (K := 8) rfl (by omega), c_strAt hR hI hx ha q, Option.bind_some]
  by_cases w : F ≤ strAt v x a (v 7 (8 + a))
  · rw [if_neg (nI_nlt w (by omega)), decide_eq_true w]; rfl
  · rw [if_pos (nI_lt (by omega) (by omega)), decide_eq_false w]; rfl
theorem c_hopeless {S F t0 t : Nat} {h : Nat → Int32} (hh : hopH v S F t0 h) (ht : t < 1024) (h41 : σ 41 = h) : ∃ y : Int32, pX0_isHopeless σ (nI t) = some y ∧ (y = 0 ∨ badT v S F t0 t) := by
  obtain ⟨hw, h1, h2⟩ := hh
  have q := h1 (t / 16) (by omega)
  unfold pX0_isHopeless
  rw [show (16 : Int32) = nI 16 from rfl, div_nI (by omega) (by decide) (by decide), Option.bind_some, rem_nI (by omega) (by decide) (by decide), Option.bind_some, at_nI (by omega) (by decide), h41, q.1, has_nI (by omega) (by omega)]
  cases hb : (hw (t / 16)).testBit (t % 16)
  · exact ⟨0, rfl, Or.inl rfl⟩
  · exact ⟨1, rfl, Or.inr (h2 t ht hb)⟩
theorem c_calls {S F t0 t : Nat} {h : Nat → Int32} (hh : hopH v S F t0 h) (ht : t < 1024) (hb : badT v S F t0 t) (b : Nat → Int32) : ∃ h', pX0_callsHopeless (sA (sA σ 40 b) 41 h) (nI t) = some (sA (sA σ 40 b) 41 h') ∧ hopH v S F t0 h' := by
  obtain ⟨y, e1, e2⟩ := hop_add hh ht hb
  refine ⟨_, ?_, e2⟩
  unfold pX0_callsHopeless
  rw [show (16 : Int32) = nI 16 from rfl, div_nI (by omega) (by decide) (by decide), Option.bind_some, rem_nI (by omega) (by decide) (by decide), Option.bind_some, sA_eq, at_nI (by omega) (by decide), e1, bit_nI (by omega), fa_or, put_nI (by omega) (by decide), sA_sA]
  rfl
theorem c_lays (hR : RcN σ v) (hI : InvN v) {S F t0 : Nat} (hS : S < 2 ^ v 0 1) (hF : F ≤ 99) : ∀ (k a d t : Nat) (b h : Nat → Int32), a + k = v 0 1 → k < d → t < 1024 → popT t = popT t0 + cntS S a → hopH v S F t0 h → ∃ b' h', pX0_lays d (sA (sA σ 40 b) 41 h) (nI S) (nI F) (nI a) (nI t) = some (if canV v S F k a t then 1 else 0, sA (sA σ 40 b') 41 h') ∧ hopH v S F t0 h' ∧ (∀ c, c < a → b' c = b c) ∧ (canV v S F k a t = true → ∀ c, a ≤ c → c < v 0 1 → S.testBit c = true → b' c = nI (grV v S F k a t c)) := by
  have h8 := hI.2.1
  have hS8 : 2 ^ v 0 1 ≤ 2 ^ 8 := Nat.pow_le_pow_right (by decide) h8
  intro k
  induction k with
  | zero =>
    intro a d t b h ha hd ht hp hh
    obtain ⟨d, rfl⟩ : ∃ q, d = q + 1 := ⟨d - 1, by omega⟩
    refine ⟨b, h, ?_, hh, fun _ _ => rfl, fun _ c h1 h2 => by omega⟩
    rw [pX0_lays, if_neg (show ¬ nI a < (sA (sA σ 40 b) 41 h) 1 8 by
      show ¬ nI a < σ 1 8
      rw [hR.2.1]
      exact nI_nlt (by omega) (by omega))]
    rfl
  | succ k ih =>
    intro a d t b h ha hd ht hp hh
    obtain ⟨d, rfl⟩ : ∃ q, d = q + 1 := ⟨d - 1, by omega⟩
    have hlt : nI a < (sA (sA σ 40 b) 41 h) 1 8 := by
      show nI a < σ 1 8
      rw [hR.2.1]
      exact nI_lt (by omega) (by omega)
    have ecnt : cntS S (a + 1) = cntS S a + (if S.testBit a then 1 else 0) := rfl
    rw [pX0_lays, if_pos hlt, has_nI (by omega) (by omega), nI_1]
    cases hs : S.testBit a
    · rw [hs] at ecnt
      obtain ⟨b', h', e1, e2, e3, e4⟩ := ih (a + 1) d t b h (by omega) (by omega) ht (by rw [ecnt]; exact hp) hh
      refine ⟨b', h', ?_, e2, fun c hc => e3 c (by omega), ?_⟩
      · rw [if_pos (by decide)]
        refine (bnd e1).trans ?_
        rw [can_no hs]
        cases canV v S F k (a + 1) t <;> rfl
      · rw [can_no hs]
        intro hcan c hc1 hc2 hc3
        have hne : c ≠ a := fun z => by rw [z, hs] at hc3; cases hc3
        rw [grV, hs, if_neg (by decide)]
        exact e4 hcan c (by omega) hc2 hc3
    · rw [hs] at ecnt
      have ecnt : cntS S (a + 1) = cntS S a + 1 := ecnt
      rw [if_neg (by decide)]
      obtain ⟨y, f1, f2⟩ := c_hopeless (σ := sA (sA σ 40 b) 41 h) hh ht rfl
      have hbad : badT v S F t0 t ↔ canV v S F (k + 1) a t = false := by
        constructor
        · intro hb
          have := hb a (by omega) hs hp
          rw [show v 0 1 - a = k + 1 by omega] at this
          exact this
        · intro hc a' ha' hs' hp'
          have : a' = a := by
            rcases Nat.lt_trichotomy a' a with q | q | q
            · have := cnt_lt hs' q; omega
            · exact q
            · have := cnt_lt hs q; omega
          rw [this, show v 0 1 - a = k + 1 by omega]
          exact hc
      refine (fun P => (f1 ▸ P : _)) (show ∃ b' h', Option.bind (some y) (fun v1 => if v1 = 0 then pX0_lays_L47 (pX0_lays d) (nI S) (nI F) (nI a) (nI t) 2000 0 (sA (sA σ 40 b) 41 h) else some (0, sA (sA σ 40 b) 41 h)) = some (if canV v S F (k + 1) a t then 1 else 0, sA (sA σ 40 b') 41 h') ∧ hopH v S F t0 h' ∧ (∀ c, c < a → b' c = b c) ∧ (canV v S F (k + 1) a t = true → ∀ c, a ≤ c → c < v 0 1 → S.testBit c = true → b' c = nI (grV v S F (k + 1) a t c)) from ?_)
      have loop : ∀ (j x n : Nat) (b h : Nat → Int32), x + j = 10 → j < n → hopH v S F t0 h → (anyU (clV v S F k a t) j x = false → badT v S F t0 t) → ∃ b' h', pX0_lays_L47 (pX0_lays d) (nI S) (nI F) (nI a) (nI t) n (nI x) (sA (sA σ 40 b) 41 h) = some (if anyU (clV v S F k a t) j x then 1 else 0, sA (sA σ 40 b') 41 h') ∧ hopH v S F t0 h' ∧ (∀ c, c < a → b' c = b c) ∧ (anyU (clV v S F k a t) j x = true → b' a = nI (firstU (clV v S F k a t) j x) ∧ ∀ c, a + 1 ≤ c → c < v 0 1 → S.testBit c = true → b' c = nI (grV v S F k (a + 1) (t ||| 2 ^ firstU (clV v S F k a t) j x) c)) := by
        intro j
        induction j with
        | zero =>
          intro x n b h hx hn hh hb
          obtain ⟨n, rfl⟩ : ∃ q, n = q + 1 := ⟨n - 1, by omega⟩
          obtain ⟨h', g1, g2⟩ := c_calls (σ := σ) hh ht (hb rfl) b
          refine ⟨b, h', ?_, g2, fun _ _ => rfl, fun z => by cases z⟩
          rw [pX0_lays_L47, if_pos (show (10 : Int32) ≤ nI x from nI_le (a := 10) (by omega) (by omega))]
          exact (bnd g1).trans rfl
        | succ j ihj =>
          intro x n b h hx hn hh hb
          obtain ⟨n, rfl⟩ : ∃ q, n = q + 1 := ⟨n - 1, by omega⟩
          have hR2 : RcN (sA (sA σ 40 b) 41 h) v := hR
          rw [pX0_lays_L47, if_neg (show ¬ (10 : Int32) ≤ nI x from nI_ge (b := 10) (by omega) (by decide)), has_nI (by omega) (by omega), nI_1, nI_1]
          rw [anyU] at hb ⊢
          rw [firstU]
          cases htx : t.testBit x
          · rw [if_pos (by decide)]
            cases hok : okF v F a x
            · have hcl : clV v S F k a t x = false := by unfold clV; rw [hok, Bool.and_false]; rfl
              rw [hcl, Bool.false_or] at hb ⊢
              simp only [Bool.false_eq_true, ↓reduceIte]
              obtain ⟨b', h', g1, g2, g3, g4⟩ := ihj (x + 1) n b h (by omega) (by omega) hh hb
              refine ⟨b', h', ?_, g2, g3, g4⟩
              refine (bnd (c_would hR2 hI (by omega) (by omega) hF)).trans ?_
              rw [hok, if_pos (by decide)]
              exact g1
            · have ht2 : t ||| 2 ^ x < 1024 := or_lt (k := 10) ht (Nat.pow_lt_pow_right (by decide) (by omega))
              obtain ⟨b1, h1, r1, r2, r3, r4⟩ := ih (a + 1) d (t ||| 2 ^ x) (upd b a (nI x)) h (by omega) (by omega) ht2 (by rw [pop_or (by omega) htx, ecnt]; omega) hh
              have hcl : clV v S F k a t x = canV v S F k (a + 1) (t ||| 2 ^ x) := by unfold clV; rw [htx, hok]; rfl
              have eput : sA (sA (sA σ 40 b) 41 h) 40 (pX10_put ((sA (sA σ 40 b) 41 h) 40) 8 (nI a) (nI x)) = sA (sA σ 40 (upd b a (nI x))) 41 h := by
                rw [show (sA (sA σ 40 b) 41 h) 40 = b from rfl, put_nI (by omega) (by decide)]
                funext c
                unfold sA
                by_cases c1 : c = 40
                · subst c1; rfl
                · by_cases c2 : c = 41
                  · subst c2; rfl
                  · rw [if_neg c1, if_neg c2, if_neg c1, if_neg c2, if_neg c1]
              have hb1 : b1 a = nI x := by rw [r3 a (by omega), pk_us]
              cases hc : canV v S F k (a + 1) (t ||| 2 ^ x)
              · rw [hc] at hcl r1
                rw [hcl, Bool.false_or] at hb ⊢
                simp only [Bool.false_eq_true, ↓reduceIte]
                obtain ⟨b', h', g1, g2, g3, g4⟩ := ihj (x + 1) n b1 h1 (by omega) (by omega) r2 hb
                refine ⟨b', h', ?_, g2, fun c hc => by rw [g3 c hc, r3 c (by omega), pk_un (by omega)], g4⟩
                refine (bnd (c_would hR2 hI (by omega) (by omega) hF)).trans ?_
                rw [hok, if_neg (by decide), Option.bind_some, eput, bit_nI (by omega), fa_or]
                refine (bnd r1).trans ?_
                rw [if_pos (show (if false = true then (1 : Int32) else 0) = 0 from rfl)]
                exact g1
              · rw [hc] at hcl r1
                rw [hcl, Bool.true_or, if_pos rfl]
                refine ⟨b1, h1, ?_, r2, fun c hc => by rw [r3 c (by omega), pk_un (by omega)], fun _ => ⟨hb1, fun c h1 h2 h3 => r4 hc c h1 h2 h3⟩⟩
                refine (bnd (c_would hR2 hI (by omega) (by omega) hF)).trans ?_
                rw [hok, if_neg (by decide), Option.bind_some, eput, bit_nI (by omega), fa_or]
                refine (bnd r1).trans ?_
                rw [if_neg (show ¬ (if true = true then (1 : Int32) else 0) = 0 by decide)]
          · have hcl : clV v S F k a t x = false := by unfold clV; rw [htx]; rfl
            rw [hcl, Bool.false_or] at hb ⊢
            rw [if_neg (show ¬ (if true = true then (1 : Int32) else 0) = 0 by decide)]
            simp only [Bool.false_eq_true, ↓reduceIte]
            exact ihj (x + 1) n b h (by omega) (by omega) hh hb
      rcases f2 with rfl | hb
      · obtain ⟨b', h', g1, g2, g3, g4⟩ := loop 10 0 2000 b h rfl (by omega) hh (fun z => hbad.mpr (by rw [can_yes hs]; exact z))
        rw [can_yes hs]
        refine ⟨b', h', ?_, g2, g3, fun hcan c hc1 hc2 hc3 => ?_⟩
        · rw [Option.bind_some, if_pos rfl, ← g1, nI_0]
        · obtain ⟨q1, q2⟩ := g4 hcan
          rw [grV, if_pos hs]
          by_cases e : c = a
          · rw [if_pos e, e]; exact q1
          · rw [if_neg e]; exact q2 c (by omega) hc2 hc3
      · by_cases hy : y = 0
        · obtain ⟨b', h', g1, g2, g3, g4⟩ := loop 10 0 2000 b h rfl (by omega) hh (fun _ => hb)
          rw [can_yes hs]
          refine ⟨b', h', ?_, g2, g3, fun hcan c hc1 hc2 hc3 => ?_⟩
          · rw [Option.bind_some, if_pos hy, ← g1, nI_0]
          · obtain ⟨q1, q2⟩ := g4 hcan
            rw [grV, if_pos hs]
            by_cases e : c = a
            · rw [if_pos e, e]; exact q1
            · rw [if_neg e]; exact q2 c (by omega) hc2 hc3
        · have hc := hbad.mp hb
          rw [hc]
          exact ⟨b, h, by rw [Option.bind_some, if_neg hy]; rfl, hh, fun _ _ => rfl, fun z => by cases z⟩
end G
