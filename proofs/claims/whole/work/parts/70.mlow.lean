/-! the model's small methods, over the state as numbers; ranges of what is asked -/
theorem s_l : ∀ n, n < 32 → ((nI n &&& 31).toBitVec.smod 32).toNat = n := by decide +kernel
theorem m_shl {k : Nat} (h : k < 31) : (1 : Int32) <<< (nI k &&& 31) = nI (2 ^ k) := by
  have h2 : (2 : Nat) ^ k < 2 ^ 31 := Nat.pow_lt_pow_right (by decide) h
  have := pk_shlN (n := 1) (nI k &&& 31) k (s_l k (by omega)) (by omega)
  rw [Nat.one_mul] at this
  exact this
theorem m_has {n k : Nat} (hn : n < 2 ^ 31) (h : k < 31) : pX11_has (nI n) (nI k) = if n.testBit k then 1 else 0 := by
  unfold pX11_has
  rw [pk_shrN hn (nI k &&& 31) k (s_l k (by omega)), show (1 : Int32) = nI 1 from rfl, fa_and, Nat.and_one_is_mod, Nat.testBit_eq_decide_div_mod_eq]
  by_cases q : n / 2 ^ k % 2 = 1
  · rw [q]; rfl
  · rw [if_neg (fun z => q ((nI_eq (by omega) (by decide)).mp z))]
    simp [q]
theorem in_out (x l h : Int32) : pX11_in x l h = if pX10_isOutside x l h = 0 then 1 else 0 := by
  unfold pX11_in pX10_isOutside
  by_cases a : x < l
  · rw [if_pos a, if_pos a]; rfl
  · rw [if_neg a, if_neg a]
    by_cases b : h < x
    · rw [if_pos b, if_neg (fun z => Int32.not_le.mpr b z)]; rfl
    · rw [if_neg b, if_pos (Int32.not_lt.mp b)]; rfl
theorem out_lt (x : Int32) {n : Nat} (hn : n < 2 ^ 31) : (pX10_isOutside x 0 (nI n - 1) = 0 ∧ ∃ k, x = nI k ∧ k < n) ∨ (pX10_isOutside x 0 (nI n - 1) = 1 ∧ ¬ ∃ k, x = nI k ∧ k < n) := by
  cases n with
  | zero =>
    refine Or.inr ⟨?_, fun ⟨k, _, h⟩ => Nat.not_lt_zero k h⟩
    unfold pX10_isOutside
    by_cases a : x < 0
    · rw [if_pos a]
    · rw [if_neg a, if_neg]
      intro z
      rw [Int32.lt_iff_toInt_lt, show (0 : Int32).toInt = 0 from rfl] at a
      rw [Int32.le_iff_toInt_le, show (nI 0 - 1).toInt = -1 from rfl] at z
      omega
  | succ n =>
    rw [nI_pred]
    rcases out_is (x := x) (lo := 0) (hi := n) (by omega) (by decide) with ⟨h, k, h1, h2, h3⟩ | ⟨h, h1⟩
    · exact Or.inl ⟨h, k, h1, by omega⟩
    · exact Or.inr ⟨h, fun ⟨k, h2, h3⟩ => h1 ⟨k, h2, Nat.zero_le k, by omega⟩⟩
theorem mq_lo {i : Nat} (h : i < 32) : mq i = i := by unfold mq; rw [if_pos h]
theorem mq_mid {i : Nat} (h : 32 ≤ i) (h2 : i < 44) : mq i = i + 1 := by unfold mq; rw [if_neg (by omega), if_pos h2]
theorem mq_lt {i : Nat} (h : i < 45) : mq i < 45 := by unfold mq; split <;> (try split) <;> omega
theorem mq_inj {i j : Nat} (hi : i < 45) (hj : j < 45) (h : mq i = mq j) : i = j := by
  unfold mq at h
  split at h <;> split at h <;> (try split at h) <;> (try split at h) <;> omega
section M
variable {μ : Sg} {v : Vw}
theorem m_row {g : Nat → Int32} {f : Nat → Nat} (h : ∀ i, i < 45 → g (mq i) = nI (f i)) {k : Int32} {K a i : Nat} (hk : k = nI K) (hi : i < 45) (he : K + a = mq i) (μ : Sg) (hg : μ 13 = g) : rdA μ 13 45 (k + nI a) = some (nI (f i)) := by
  rw [hk, nI_add, he, rd_nI (mq_lt hi) (by decide), hg, h i hi]
theorem m_rd (hR : RmN μ v) {k : Int32} {K a i : Nat} (hk : k = nI K) (hi : i < 45) (he : K + a = mq i) : rdA μ 13 45 (k + nI a) = some (nI (v 7 i)) :=
  m_row (g := μ 13) hR.2.2.2.2.2.2.2.2 hk hi he μ rfl
theorem m_cel (hR : RmN μ v) {a : Nat} (h : a < 8) : rdA μ 13 45 (0 + nI a) = some (nI (v 7 a)) := m_rd hR (K := 0) rfl (by omega) (by rw [mq_lo (by omega)]; omega)
theorem m_lnk (hR : RmN μ v) {a : Nat} (h : a < 8) : rdA μ 13 45 (8 + nI a) = some (nI (v 7 (8 + a))) := m_rd hR (K := 8) rfl (by omega) (by rw [mq_lo (by omega)])
theorem m_age (hR : RmN μ v) {a : Nat} (h : a < 8) : rdA μ 13 45 (16 + nI a) = some (nI (v 7 (16 + a))) := m_rd hR (K := 16) rfl (by omega) (by rw [mq_lo (by omega)])
theorem m_how (hR : RmN μ v) {a : Nat} (h : a < 8) : rdA μ 13 45 (24 + nI a) = some (nI (v 7 (24 + a))) := m_rd hR (K := 24) rfl (by omega) (by rw [mq_lo (by omega)])
theorem m_nxt (hR : RmN μ v) {a : Nat} (h : a < 6) : rdA μ 13 45 (33 + nI a) = some (nI (v 7 (32 + a))) := m_rd hR (K := 33) rfl (by omega) (by rw [mq_mid (by omega) (by omega)]; omega)
theorem m_wlt (hR : RmN μ v) {a : Nat} (h : a < 6) : rdA μ 13 45 (39 + nI a) = some (nI (v 7 (38 + a))) := m_rd hR (K := 39) rfl (by omega) (by rw [mq_mid (by omega) (by omega)]; omega)
theorem m_gon (hR : RmN μ v) : rdA μ 13 45 32 = some (nI (v 7 44)) := m_rd hR (k := 32) (K := 32) (a := 0) rfl (by omega) (by decide)
theorem m_nr (hR : RmN μ v) : rdA μ 4 2 0 = some (nI (v 0 0)) := by
  rw [show (0 : Int32) = nI 0 from rfl, rd_nI (by decide) (by decide), hR.1]
theorem m_na (hR : RmN μ v) : rdA μ 7 2 0 = some (nI (v 0 1)) := by
  rw [show (0 : Int32) = nI 0 from rfl, rd_nI (by decide) (by decide), hR.2.1]
theorem m_deep (hR : RmN μ v) {x : Nat} (h : x < 10) : rdA μ 2 20 (nI x) = some (nI (v 1 x)) := by rw [rd_nI (by omega) (by decide), hR.2.2.1 x h]
theorem m_grip (hR : RmN μ v) {x : Nat} (h : x < 10) : rdA μ 3 20 (nI x) = some (nI (v 2 x)) := by rw [rd_nI (by omega) (by decide), hR.2.2.2.1 x h]
theorem m_own (hR : RmN μ v) {a : Nat} (h : a < v 0 1) (h8 : v 0 1 ≤ 8) : rdA μ 8 16 (nI a) = some (nI (v 3 a)) := by rw [rd_nI (by omega) (by decide), hR.2.2.2.2.1 a h]
theorem m_wgt (hR : RmN μ v) {a : Nat} (h : a < v 0 1) (h8 : v 0 1 ≤ 8) : rdA μ 10 16 (nI a) = some (nI (v 4 a)) := by rw [rd_nI (by omega) (by decide), hR.2.2.2.2.2.1 a h]
theorem m_wth (hR : RmN μ v) {a : Nat} (h : a < v 0 1) (h8 : v 0 1 ≤ 8) : rdA μ 12 16 (nI a) = some (nI (v 5 a)) := by rw [rd_nI (by omega) (by decide), hR.2.2.2.2.2.2.1 a h]
theorem m_isRaft (hR : RmN μ v) (x : Int32) : pX11_isRaft μ x = some (if pX10_isOutside x 0 (nI (v 0 0) - 1) = 0 then 1 else 0) := by
  unfold pX11_isRaft
  simp only [m_nr hR, Option.bind_some, in_out]
theorem m_isAnchor (hR : RmN μ v) (x : Int32) : pX11_isAnchor μ x = some (if pX10_isOutside x 0 (nI (v 0 1) - 1) = 0 then 1 else 0) := by
  unfold pX11_isAnchor
  simp only [m_na hR, Option.bind_some, in_out]
theorem m_lies (hR : RmN μ v) (hI : InvN v) {a : Nat} (h : a < 8) : pX11_isLying μ (nI a) = some (if liesV v a then 1 else 0) := by
  have q := (hI.2.2.2.2.2.1 a h).2.2.2
  unfold pX11_isLying
  simp only [m_how hR h, Option.bind_some]
  by_cases e : v 7 (24 + a) = 0
  · rw [e]
    simp [liesV, e, nI_0]
  · rw [if_neg (nI_ne0 (by omega) (by omega))]
    simp [liesV, e]
theorem m_strAt (hR : RmN μ v) (hI : InvN v) {x a : Nat} (hx : x < 10) (ha : a < v 0 1) : pX11_strengthAt μ (nI a) (nI x) = some (nI (strAt v x a (v 7 (8 + a)))) := by
  have h8 := hI.2.1
  have d := hI.2.2.1 x hx
  have q := hI.2.2.2.2.2.1 a (by omega)
  unfold pX11_strengthAt
  simp only [m_wgt hR ha h8, m_grip hR hx, m_lnk hR (show a < 8 by omega), m_deep hR hx, Option.bind_some]
  rw [div_nI (by omega) (by omega) (by omega)]
  simp only [Option.bind_some]
  rw [nI_1, pk_mul, nI_add]
  rfl
theorem m_str (hR : RmN μ v) (hI : InvN v) {a : Nat} (ha : a < v 0 1) : pX11_strength μ (nI a) = some (nI (strV v a)) := by
  have h8 := hI.2.1
  have q := hI.2.2.2.2.2.1 a (by omega)
  unfold pX11_strength
  simp only [m_cel hR (show a < 8 by omega), Option.bind_some, m_strAt hR hI q.1 ha]
  rfl
theorem m_those (hR : RmN μ v) (hI : InvN v) {h : Nat} (hh : h ≤ 2) : pX11_those μ (nI h) = some (nI (thoseV v h)) := by
  have h8 := hI.2.1
  unfold pX11_those
  have key := loop_up (fun n (s : Int32 × Int32) => pX11_those_L4 μ (nI h) n s.1 s.2) (fun i => (nI (bitsN (fun a => v 7 (24 + a) == h) i), nI i)) (v 0 1) (some (nI (thoseV v h)))
    (by
      intro n i hi
      show pX11_those_L4 μ (nI h) (n + 1) (nI _) (nI i) = pX11_those_L4 μ (nI h) n (nI _) (nI (i + 1))
      have q := (hI.2.2.2.2.2.1 i (by omega)).2.2.2
      rw [pX11_those_L4]
      simp only [m_na hR, Option.bind_some, m_how hR (show i < 8 by omega)]
      rw [if_neg (nI_ge hi (by omega)), nI_1]
      by_cases e : v 7 (24 + i) = h
      · rw [if_pos (by rw [e])]
        rw [m_shl (by omega), bitsN_or (fun a => v 7 (24 + a) == h) i (by simp [e])]
      · rw [if_neg (fun z => e ((nI_eq (by omega) (by omega)).mp z))]
        rw [bitsN_no (fun a => v 7 (24 + a) == h) i (by simp [e]), show (0 : Int32) = nI 0 from rfl, fa_or, Nat.or_zero])
    (by
      intro n
      show pX11_those_L4 μ (nI h) (n + 1) (nI _) (nI (v 0 1)) = _
      rw [pX11_those_L4]
      simp only [m_na hR, Option.bind_some]
      rw [if_pos (nI_le (Nat.le_refl _) (by omega))]
      rfl) (v 0 1) 0 2000 (by omega) (by omega)
  have key : pX11_those_L4 μ (nI h) 2000 0 0 = some (nI (thoseV v h)) := key
  rw [key]
  rfl
end M
