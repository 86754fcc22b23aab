/-! the class's small methods, over the state as numbers -/
theorem get_nI {σ : Sg} {r : Nat} {f : Nat → Nat} (h : ∀ i, i < 45 → σ r i = nI (f i)) {k : Int32} {K a : Nat} (hk : k = nI K) (ha : K + a < 45) : pX5_get r σ k (nI a) = nI (f (K + a)) := by
  unfold pX5_get
  rw [hk, nI_add, at_nI ha (by decide), h _ ha]
theorem c_lies {σ : Sg} {r : Nat} {f : Nat → Nat} (h : ∀ i, i < 45 → σ r i = nI (f i)) (hf : ∀ a, a < 8 → f (24 + a) ≤ 2) {a : Nat} (ha : a < 8) : pX5_lies r σ (nI a) = if f (24 + a) == 0 then 1 else 0 := by
  unfold pX5_lies
  rw [get_nI h (k := 24) (K := 24) rfl (by omega)]
  by_cases q : f (24 + a) = 0
  · rw [q]; rfl
  · have := hf a ha
    rw [if_neg (nI_ne0 (by omega) (by omega))]
    simp [q]
section C
variable {σ : Sg} {v : Vw}
theorem c_get (hR : RcN σ v) {k : Int32} {K a : Nat} (hk : k = nI K) (ha : K + a < 45) : pX5_get 20 σ k (nI a) = nI (v 7 (K + a)) := get_nI hR.2.2.2.2.2.2.2.2.2 hk ha
theorem c_liesV (hR : RcN σ v) (hI : InvN v) {a : Nat} (ha : a < 8) : pX5_lies 20 σ (nI a) = if liesV v a then 1 else 0 := c_lies hR.2.2.2.2.2.2.2.2.2 (fun a h => (hI.2.2.2.2.2.1 a h).2.2.2) ha
theorem c_strAt (hR : RcN σ v) (hI : InvN v) {x a k : Nat} (hx : x < 10) (ha : a < v 0 1) (hk : k ≤ 60) : pX9_strengthIn σ (nI x) (nI a) (nI k) = some (nI (strAt v x a k)) := by
  obtain ⟨i1, i2, i3, i4, i5, i6⟩ := id hI
  obtain ⟨r1, r2, r3, r4, r5, r6, r7, r8, r9, r10⟩ := id hR
  obtain ⟨d1, d2, d3⟩ := i3 x hx
  unfold pX9_strengthIn
  rw [at_nI hx (by decide), r4 x hx, divided_nI (by omega) (by omega) (by omega)]
  simp only [Option.bind_some]
  rw [at_nI (show a < 8 by omega) (by decide), at_nI hx (by decide), r7 a ha, r5 x hx, nI_1, pk_mul, nI_add]
  rfl
theorem c_str (hR : RcN σ v) (hI : InvN v) {a : Nat} (ha : a < v 0 1) : pX9_strengthOf 20 σ (nI a) = some (nI (strV v a)) := by
  obtain ⟨i1, i2, i3, i4, i5, i6⟩ := id hI
  have q := i6.1 a (by omega)
  unfold pX9_strengthOf
  rw [c_get hR (k := 0) (K := 0) rfl (by omega), c_get hR (k := 8) (K := 8) rfl (by omega), Nat.zero_add, c_strAt hR hI q.1 ha q.2.1]
  rfl
theorem c_those (hR : RcN σ v) (hI : InvN v) {h : Nat} (hh : h ≤ 2) : pX10_thoseThatAre 20 σ (nI h) = some (nI (thoseV v h)) := by
  obtain ⟨i1, i2, i3, i4, i5, i6⟩ := id hI
  obtain ⟨r1, r2, r3, r4, r5, r6, r7, r8, r9, r10⟩ := id hR
  unfold pX10_thoseThatAre
  have key := loop_up (fun n (s : Int32 × Int32) => pX10_thoseThatAre_L5 20 σ (nI h) n s.1 s.2) (fun i => (nI (bitsN (fun a => v 7 (24 + a) == h) i), nI i)) (v 0 1) (some (nI (thoseV v h)))
    (by
      intro n i hi
      show pX10_thoseThatAre_L5 20 σ (nI h) (n + 1) (nI _) (nI i) = pX10_thoseThatAre_L5 20 σ (nI h) n (nI _) (nI (i + 1))
      rw [pX10_thoseThatAre_L5, r2, if_neg (nI_ge hi (by omega)), c_get hR (k := 24) (K := 24) rfl (by omega), nI_1]
      have q := (i6.1 i (by omega)).2.2.2
      by_cases e : v 7 (24 + i) = h
      · rw [if_pos (by rw [e]), bit_nI (by omega)]
        simp only [Option.bind_some]
        rw [bitsN_or (fun a => v 7 (24 + a) == h) i (by simp [e])]
      · rw [if_neg (fun z => e ((nI_eq (by omega) (by omega)).mp z)), bitsN_no (fun a => v 7 (24 + a) == h) i (by simp [e])])
    (by
      intro n
      show pX10_thoseThatAre_L5 20 σ (nI h) (n + 1) (nI _) (nI (v 0 1)) = _
      rw [pX10_thoseThatAre_L5, r2, if_pos (nI_le (Nat.le_refl _) (by omega))]
      rfl) (v 0 1) 0 2000 (by omega) (by omega)
  have key : pX10_thoseThatAre_L5 20 σ (nI h) 2000 0 0 = some (nI (thoseV v h)) := key
  rw [key]
  rfl
theorem c_lyingIn (hR : RcN σ v) (hI : InvN v) {x : Nat} (hx : x < 2 ^ 31) : pX10_lyingIn 20 σ (nI x) = some (nI (lyingInV v x)) := by
  obtain ⟨i1, i2, i3, i4, i5, i6⟩ := id hI
  obtain ⟨r1, r2, r3, r4, r5, r6, r7, r8, r9, r10⟩ := id hR
  unfold pX10_lyingIn
  have key := loop_up (fun n (s : Int32 × Int32) => pX10_lyingIn_L5 20 σ (nI x) n s.1 s.2) (fun i => (nI (bitsN (fun a => liesV v a && v 7 a == x) i), nI i)) (v 0 1) (some (nI (lyingInV v x)))
    (by
      intro n i hi
      show pX10_lyingIn_L5 20 σ (nI x) (n + 1) (nI _) (nI i) = pX10_lyingIn_L5 20 σ (nI x) n (nI _) (nI (i + 1))
      rw [pX10_lyingIn_L5, r2, if_neg (nI_ge hi (by omega)), c_liesV hR hI (by omega), c_get hR (k := 0) (K := 0) rfl (by omega), Nat.zero_add, nI_1]
      have q := (i6.1 i (by omega)).1
      cases hl : liesV v i
      · rw [if_pos (by decide), bitsN_no (fun a => liesV v a && v 7 a == x) i (by simp [hl])]
      · rw [if_neg (by decide)]
        by_cases e : v 7 i = x
        · rw [if_pos (by rw [e]), bit_nI (by omega)]
          simp only [Option.bind_some]
          rw [bitsN_or (fun a => liesV v a && v 7 a == x) i (by simp [e, hl])]
        · rw [if_neg (fun z => e ((nI_eq (by omega) hx).mp z)), bitsN_no (fun a => liesV v a && v 7 a == x) i (by simp [e])])
    (by
      intro n
      show pX10_lyingIn_L5 20 σ (nI x) (n + 1) (nI _) (nI (v 0 1)) = _
      rw [pX10_lyingIn_L5, r2, if_pos (nI_le (Nat.le_refl _) (by omega))]
      rfl) (v 0 1) 0 2000 (by omega) (by omega)
  have key : pX10_lyingIn_L5 20 σ (nI x) 2000 0 0 = some (nI (lyingInV v x)) := key
  rw [key]
  rfl
end C
