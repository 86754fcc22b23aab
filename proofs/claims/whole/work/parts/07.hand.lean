def PAt (q n : Nat) (f : Nat → Int32) (U : State) : Prop := va_T .int q n (fun j => .int (f j)) (fun _ => False) U U.heap
theorem PAt.blind {av : List Value} {q n : Nat} {f : Nat → Int32} : FrameBlind (va_Pc av (PAt q n f)) := fun a U g mk h => ⟨h.1, va_T.moved (u := U) (U := U.calling g mk a) (Vm.Alike.refl U.vm) h.2⟩
theorem PAt.mk {av : List Value} {q n : Nat} {f : Nat → Int32} {s : State} {H : Heap} (hT : va_T .int q n (fun j => .int (f j)) (fun _ => False) s H) : ∀ U : State, U.heap = H → s.WarmedH U.vm → va_Pc av (PAt q n f) av.toArray U := fun U hU hW => ⟨rfl, by
  show va_T _ _ _ _ _ U U.heap
  rw [hU]
  exact va_T.moved hW.alike hT⟩
theorem vp_of {i : Int32} {n : Nat} (hn : n < 2 ^ 31) (h0 : ¬ i < 0) (h1 : ¬ nI n ≤ i) : vp_in i n := by
  rw [vp_in_iff]
  rw [Int32.lt_iff_toInt_lt] at h0
  rw [Int32.le_iff_toInt_le, nI_toInt hn] at h1
  rw [show (0 : Int32).toInt = 0 from rfl] at h0
  omega
def pX10_at (f : Nat → Int32) (n : Nat) (i : Int32) : Int32 := if i < 0 then 0 else if nI n ≤ i then 0 else f i.toNatClampNeg
def pX10_put (f : Nat → Int32) (n : Nat) (i v : Int32) : Nat → Int32 := if i < 0 then f else if nI n ≤ i then f else upd f i.toNatClampNeg v
def pX10_fill (f : Nat → Int32) (n : Nat) (v : Int32) : Nat → Int32 := fun j => if j < n then v else f j
def pX10_copy (f : Nat → Int32) (nf : Nat) (fa : Int32) (g : Nat → Int32) (ng : Nat) (ta n : Int32) : Nat → Int32 := if n < 0 then g else if fa < 0 then g else if ta < 0 then g else if nI nf - n < fa then g else if nI ng - n < ta then g else va_cpy f g fa.toNatClampNeg ta.toNatClampNeg n.toNatClampNeg
set_option maxHeartbeats 4000000 in
set_option maxRecDepth 100000 in
theorem kX10_at (l : Launch) (q n : Nat) (f : Nat → Int32) (i : Int32) (hn : n < 2 ^ 31) : Met l yX10_at wsX10_at rmX10_at (va_Pc [.ref q, .int i] (PAt q n f)) (QcRead (pX10_at f n i)) 0 0 (fun _ => False) := by
  obtain ⟨o, h⟩ : ∃ o, pX10_at f n i = o := ⟨_, rfl⟩
  rw [h]
  refine Met.ofW (cc := cX10_at) (maxL := 2) (ret := (some .int)) (by decide) rfl ?_
  intro p e s m args below meth c s₁ B hml hv
  obtain ⟨rfl, hT⟩ := hv
  have hT : va_T .int q n (fun j => .int (f j)) (fun _ => False) s s.heap := hT
  have hx := B.exec
  have hb := B.bytes
  have hr := B.returns
  have hlk := B.notSynchronized
  have hS : va_S (fun _ => False) s.heap s.heap [] := va_S.rf
  have hl := lv_entry ([.ref q, .int i]) (n := 2) (Nat.le_of_ble_eq_true rfl)
  rw [lg_entry_eq]
  generalize (lg_sl ([.ref q, .int i]) ++ List.replicate (2 - (lg_sl ([.ref q, .int i])).length) Slot.unset).toArray = ls at hl ⊢
  have hl : lv_has ls 2 [(0, .ref q), (1, .int i)] := hl
  rw [pX10_at] at h
  refine lv_aload_n hx hb dX10_at_0 rfl (lv_at hl 0 rfl) ?_
  refine lv_ifnull hx hb dX10_at_1 ?_
  refine lv_iload_n hx hb dX10_at_4 rfl (lv_at hl 1 rfl) ?_
  refine lv_if_lt (tgt := 20) hx hb dX10_at_5 (by decide) (fun c5 => ?_) (fun c5 => ?_)
  · replace h := k_ip c5 h
    subst h
    refine lv_iconst (v := 0) hx hb dX10_at_20 (by decide) ?_
    exact W.iret hx hb hr (fun t ht hW => ⟨rfl, ht⟩) (fun _ h => by cases h) dX10_at_21
  · replace h := k_in c5 h
    refine lv_iload_n hx hb dX10_at_8 rfl (lv_at hl 1 rfl) ?_
    refine lv_aload_n hx hb dX10_at_9 rfl (lv_at hl 0 rfl) ?_
    refine va_tlen hx hb hT hS (v := nI n) rfl dX10_at_10 ?_
    refine lv_icmp_ge (tgt := 20) hx hb dX10_at_11 (by decide) (fun c11 => ?_) (fun c11 => ?_)
    · replace h := k_ip c11 h
      subst h
      refine lv_iconst (v := 0) hx hb dX10_at_20 (by decide) ?_
      exact W.iret hx hb hr (fun t ht hW => ⟨rfl, ht⟩) (fun _ h => by cases h) dX10_at_21
    · replace h := k_in c11 h
      subst h
      refine lv_aload_n hx hb dX10_at_14 rfl (lv_at hl 0 rfl) ?_
      refine lv_iload_n hx hb dX10_at_15 rfl (lv_at hl 1 rfl) ?_
      refine va_ti hx hb hT hS (vp_of hn c5 c11) (v := .int (f i.toNatClampNeg)) rfl dX10_at_16 ?_
      refine lv_goto (tgt := 21) hx hb dX10_at_17 (by decide) ?_
      exact W.iret hx hb hr (fun t ht hW => ⟨rfl, ht⟩) (fun _ h => by cases h) dX10_at_21
set_option maxHeartbeats 4000000 in
set_option maxRecDepth 100000 in
theorem kX10_put (l : Launch) {D : va_G} {cI cB cZ : ClassId} {A : Nat → Prop} {ws : va_W} (hD : va_D A ws) (k : Nat) {q n : Nat} {f : Nat → Int32} (he : ws[k]? = some (q, .inl (cI, n, .inl f))) (hn : n < 2 ^ 31) (i v : Int32) : Met l yX10_put wsX10_put rmX10_put (va_Pc [.ref q, .int i, .int v] (PW D cI cB cZ ws)) (QV D (fun (_ : Unit) => ws.set k (q, .inl (cI, n, .inl (pX10_put f n i v)))) A ()) 0 0 A := by
  obtain ⟨o, h⟩ : ∃ o, pX10_put f n i v = o := ⟨_, rfl⟩
  rw [h]
  refine Met.ofW (cc := cX10_put) (maxL := 3) (ret := none) (by decide) rfl ?_
  intro p e s m args below meth c s₁ B hml hv
  obtain ⟨rfl, hP, hK, hN⟩ := hv
  have hx := B.exec
  have hb := B.bytes
  have hr := B.returns
  have hlk := B.notSynchronized
  have hS : va_S A s.heap s.heap [] := va_S.rf
  have hl := lv_entry ([.ref q, .int i, .int v]) (n := 3) (Nat.le_of_ble_eq_true rfl)
  rw [lg_entry_eq]
  generalize (lg_sl ([.ref q, .int i, .int v]) ++ List.replicate (3 - (lg_sl ([.ref q, .int i, .int v])).length) Slot.unset).toArray = ls at hl ⊢
  have hl : lv_has ls 3 [(0, .ref q), (1, .int i), (2, .int v)] := hl
  have hsame : ws.set k (q, .inl (cI, n, .inl f)) = ws := by
    apply List.ext_getElem?
    intro j
    by_cases hj : j = k
    · subst hj
      rw [List.getElem?_set_self (List.getElem?_eq_some_iff.mp he).1, he]
    · rw [List.getElem?_set_ne (Ne.symm hj)]
  rw [pX10_put] at h
  refine lv_aload_n hx hb dX10_put_0 rfl (lv_at hl 0 rfl) ?_
  refine lv_ifnull hx hb dX10_put_1 ?_
  refine lv_iload_n hx hb dX10_put_4 rfl (lv_at hl 1 rfl) ?_
  refine lv_if_lt (tgt := 18) hx hb dX10_put_5 (by decide) (fun c5 => ?_) (fun c5 => ?_)
  · replace h := k_ip c5 h
    subst h
    exact W.vret hx hb hr (fun t ht hW => ⟨⟨_, rfl, rfl, pw_end ht (by show va_P _ _ (List.set _ _ _) _; rw [hsame]; exact hP)⟩, hS.F ht⟩) hS.2.2 dX10_put_18
  · replace h := k_in c5 h
    refine lv_iload_n hx hb dX10_put_8 rfl (lv_at hl 1 rfl) ?_
    refine lv_aload_n hx hb dX10_put_9 rfl (lv_at hl 0 rfl) ?_
    refine va_alen hx hb hK hP k 0 he (ty := .int) rfl (v := nI n) rfl dX10_put_10 ?_
    refine lv_icmp_ge (tgt := 18) hx hb dX10_put_11 (by decide) (fun c11 => ?_) (fun c11 => ?_)
    · replace h := k_ip c11 h
      subst h
      exact W.vret hx hb hr (fun t ht hW => ⟨⟨_, rfl, rfl, pw_end ht (by show va_P _ _ (List.set _ _ _) _; rw [hsame]; exact hP)⟩, hS.F ht⟩) hS.2.2 dX10_put_18
    · replace h := k_in c11 h
      subst h
      refine lv_aload_n hx hb dX10_put_14 rfl (lv_at hl 0 rfl) ?_
      refine lv_iload_n hx hb dX10_put_15 rfl (lv_at hl 1 rfl) ?_
      refine lv_iload_n hx hb dX10_put_16 rfl (lv_at hl 2 rfl) ?_
      refine va_iast hx hb hK hP hD hS k 0 he rfl (vp_of hn c5 c11) dX10_put_17 (fun H locs hP _ hS => ?_)
      exact W.vret hx hb hr (fun t ht hW => ⟨⟨_, rfl, rfl, pw_end ht hP⟩, hS.F ht⟩) hS.2.2 dX10_put_18
theorem set_same {ws : va_W} {k : Nat} {e : Nat × va_E} (he : ws[k]? = some e) : ws.set k e = ws := by
  apply List.ext_getElem?
  intro j
  by_cases hj : j = k
  · subst hj
    rw [List.getElem?_set_self (List.getElem?_eq_some_iff.mp he).1, he]
  · rw [List.getElem?_set_ne (Ne.symm hj)]
theorem fill_0 {f : Nat → Int32} {v : Int32} : pX10_fill f 0 v = f := by
  funext j
  simp [pX10_fill]
theorem fill_s {f : Nat → Int32} {i : Nat} {v : Int32} : upd (pX10_fill f i v) i v = pX10_fill f (i + 1) v := by
  funext j
  simp only [pX10_fill, upd]
  by_cases h : j = i
  · subst h; simp
  · rw [if_neg h]
    by_cases h2 : j < i
    · rw [if_pos h2, if_pos (by omega)]
    · rw [if_neg h2, if_neg (by omega)]
set_option maxHeartbeats 4000000 in
set_option maxRecDepth 100000 in
theorem kX10_fill (l : Launch) {D : va_G} {cI cB cZ : ClassId} {A : Nat → Prop} {ws : va_W} (hD : va_D A ws) (k : Nat) {q n : Nat} {f : Nat → Int32} (he : ws[k]? = some (q, .inl (cI, n, .inl f))) (hn : n < 2 ^ 31) (v : Int32) : Met l yX10_fill wsX10_fill rmX10_fill (va_Pc [.ref q, .int v] (PW D cI cB cZ ws)) (QV D (fun (_ : Unit) => ws.set k (q, .inl (cI, n, .inl (pX10_fill f n v)))) A ()) 0 0 A := by
  refine Met.ofW (cc := cX10_fill) (maxL := 3) (ret := none) (by decide) rfl ?_
  intro p e s m args below meth c s₁ B hml hv
  obtain ⟨rfl, hP, hK, hN⟩ := hv
  have hx := B.exec
  have hb := B.bytes
  have hr := B.returns
  have hlk := B.notSynchronized
  have hS : va_S A s.heap s.heap [] := va_S.rf
  have hl := lv_entry ([.ref q, .int v]) (n := 3) (Nat.le_of_ble_eq_true rfl)
  rw [lg_entry_eq]
  generalize (lg_sl ([.ref q, .int v]) ++ List.replicate (3 - (lg_sl ([.ref q, .int v])).length) Slot.unset).toArray = ls at hl ⊢
  have hl : lv_has ls 3 [(0, .ref q), (1, .int v)] := hl
  have hk := (List.getElem?_eq_some_iff.mp he).1
  refine lv_aload_n hx hb dX10_fill_0 rfl (lv_at hl 0 rfl) ?_
  refine lv_ifnull hx hb dX10_fill_1 ?_
  refine lv_iconst (v := 0) hx hb dX10_fill_4 (by decide) ?_
  refine lv_istore_n (lv' := [(2, .int 0), (0, .ref q), (1, .int v)]) hx hb dX10_fill_5 rfl hl (by decide) rfl (fun ls hl => ?_)
  have loop : ∀ (d i : Nat), i + d = n → ∀ (H : Heap) (locs : List Loc) (ls : Array Slot), va_P D vwCl (ws.set k (q, .inl (cI, n, .inl (pX10_fill f i v)))) H → va_S A s.heap H locs → lv_has ls 3 [(2, .int (nI i)), (0, .ref q), (1, .int v)] →
      W p l e rmX10_fill s m [Value.ref q, Value.int v].toArray below meth c H locs 0 0 (MQ below (QV D (fun (_ : Unit) => ws.set k (q, .inl (cI, n, .inl (pX10_fill f n v)))) A ()) [Value.ref q, Value.int v].toArray s 0 0 A) (F0 m 6 ls []) := by
    intro d
    induction d with
    | zero =>
      intro i hi H locs ls hP hS hl
      obtain rfl : i = n := by omega
      refine lv_iload_n hx hb dX10_fill_6 rfl (lv_at hl 0 rfl) ?_
      refine lv_aload_n hx hb dX10_fill_7 rfl (lv_at hl 1 rfl) ?_
      refine va_alen hx hb hK hP k 0 (List.getElem?_set_self hk) (ty := .int) rfl (v := nI i) rfl dX10_fill_8 ?_
      refine lv_icmp_ge (tgt := 22) hx hb dX10_fill_9 (by decide) (fun c9 => ?_) (fun c9 => absurd (nI_le (Nat.le_refl i) hn) c9)
      exact W.vret hx hb hr (fun t ht hW => ⟨⟨_, rfl, rfl, pw_end ht hP⟩, hS.F ht⟩) hS.2.2 dX10_fill_22
    | succ d ih =>
      intro i hi H locs ls hP hS hl
      have hD2 : va_D A (ws.set k (q, .inl (cI, n, .inl (pX10_fill f i v)))) := hD.set he
      refine lv_iload_n hx hb dX10_fill_6 rfl (lv_at hl 0 rfl) ?_
      refine lv_aload_n hx hb dX10_fill_7 rfl (lv_at hl 1 rfl) ?_
      refine va_alen hx hb hK hP k 0 (List.getElem?_set_self hk) (ty := .int) rfl (v := nI n) rfl dX10_fill_8 ?_
      refine lv_icmp_ge (tgt := 22) hx hb dX10_fill_9 (by decide) (fun c9 => absurd c9 (nI_ge (by omega) hn)) (fun c9 => ?_)
      refine lv_aload_n hx hb dX10_fill_12 rfl (lv_at hl 1 rfl) ?_
      refine lv_iload_n hx hb dX10_fill_13 rfl (lv_at hl 0 rfl) ?_
      refine lv_iload_n hx hb dX10_fill_14 rfl (lv_at hl 2 rfl) ?_
      refine va_iast hx hb hK hP hD2 hS k 0 (List.getElem?_set_self hk) rfl (vp_in_nI (by omega) hn) dX10_fill_15 (fun H locs hP _ hS => ?_)
      rw [nI_clamp (by omega), fill_s, List.set_set] at hP
      refine lv_iinc (v := nI (i + 1)) (lv' := [(2, .int (nI (i + 1))), (0, .ref q), (1, .int v)]) hx hb dX10_fill_16 hl (k := 0) rfl (nI_1 i) (by decide) rfl (fun ls hl => ?_)
      refine lv_goto (tgt := 6) hx hb dX10_fill_19 (by decide) ?_
      exact ih (i + 1) (by omega) H locs ls hP hS hl
  exact loop n 0 (by omega) _ _ ls (by rw [fill_0, set_same he]; exact hP) hS hl
theorem cpy_room {nf : Nat} {fa n : Int32} (hn : nf < 2 ^ 31) (h0 : ¬ n < 0) (h1 : ¬ fa < 0) (h2 : ¬ nI nf - n < fa) : fa.toNatClampNeg + n.toNatClampNeg ≤ nf := by
  obtain ⟨a, ha, rfl⟩ := nI_of h0
  obtain ⟨b, hb, rfl⟩ := nI_of h1
  rw [nI_clamp ha, nI_clamp hb]
  rw [Int32.lt_iff_toInt_lt, Int32.toInt_sub, nI_toInt hn, nI_toInt ha, nI_toInt hb] at h2
  rw [Int.bmod_eq_of_le (by omega) (by omega)] at h2
  omega
set_option maxHeartbeats 4000000 in
set_option maxRecDepth 100000 in
theorem kX10_copy (l : Launch) {D : va_G} {cI cB cZ : ClassId} {A : Nat → Prop} {ws : va_W} (hD : va_D A ws) (k0 k : Nat) {q0 q nf ng : Nat} {f g : Nat → Int32} (he0 : ws[k0]? = some (q0, .inl (cI, nf, .inl f))) (he : ws[k]? = some (q, .inl (cI, ng, .inl g))) (hn0 : nf < 2 ^ 31) (hn : ng < 2 ^ 31) (fa ta n : Int32) : Met l yX10_copy wsX10_copy rmX10_copy (va_Pc [.ref q0, .int fa, .ref q, .int ta, .int n] (PW D cI cB cZ ws)) (QV D (fun (_ : Unit) => ws.set k (q, .inl (cI, ng, .inl (pX10_copy f nf fa g ng ta n)))) A ()) 0 0 A := by
  obtain ⟨o, h⟩ : ∃ o, pX10_copy f nf fa g ng ta n = o := ⟨_, rfl⟩
  rw [h]
  refine Met.ofW (cc := cX10_copy) (maxL := 5) (ret := none) (by decide) rfl ?_
  intro p e s m args below meth c s₁ B hml hv
  obtain ⟨rfl, hP, hK, hN⟩ := hv
  have hx := B.exec
  have hb := B.bytes
  have hr := B.returns
  have hlk := B.notSynchronized
  have hown : s.vm.findClass RX10 = some m.cls := findClass_of_methodNamed B.named
  have hts := atoms_spec (ws := wsX10_copy) B.pre
  have hS : va_S A s.heap s.heap [] := va_S.rf
  have hl := lv_entry ([.ref q0, .int fa, .ref q, .int ta, .int n]) (n := 5) (Nat.le_of_ble_eq_true rfl)
  rw [lg_entry_eq]
  generalize (lg_sl ([.ref q0, .int fa, .ref q, .int ta, .int n]) ++ List.replicate (5 - (lg_sl ([.ref q0, .int fa, .ref q, .int ta, .int n])).length) Slot.unset).toArray = ls at hl ⊢
  have hl : lv_has ls 5 [(0, .ref q0), (1, .int fa), (2, .ref q), (3, .int ta), (4, .int n)] := hl
  have hsame := set_same he
  rw [pX10_copy] at h
  refine lv_aload_n hx hb dX10_copy_0 rfl (lv_at hl 0 rfl) ?_
  refine lv_ifnull hx hb dX10_copy_1 ?_
  refine lv_aload_n hx hb dX10_copy_4 rfl (lv_at hl 2 rfl) ?_
  refine lv_ifnull hx hb dX10_copy_5 ?_
  refine lv_iload hx hb dX10_copy_8 (lv_at hl 4 rfl) ?_
  refine lv_if_lt (tgt := 21) hx hb dX10_copy_10 (by decide) (fun c10 => ?_) (fun c10 => ?_)
  · replace h := k_ip c10 h
    subst h
    exact W.vret hx hb hr (fun t ht hW => ⟨⟨_, rfl, rfl, pw_end ht (by show va_P _ _ (List.set _ _ _) _; rw [hsame]; exact hP)⟩, hS.F ht⟩) hS.2.2 dX10_copy_21
  replace h := k_in c10 h
  refine lv_iload_n hx hb dX10_copy_13 rfl (lv_at hl 1 rfl) ?_
  refine lv_if_lt (tgt := 21) hx hb dX10_copy_14 (by decide) (fun c14 => ?_) (fun c14 => ?_)
  · replace h := k_ip c14 h
    subst h
    exact W.vret hx hb hr (fun t ht hW => ⟨⟨_, rfl, rfl, pw_end ht (by show va_P _ _ (List.set _ _ _) _; rw [hsame]; exact hP)⟩, hS.F ht⟩) hS.2.2 dX10_copy_21
  replace h := k_in c14 h
  refine lv_iload_n hx hb dX10_copy_17 rfl (lv_at hl 3 rfl) ?_
  refine lv_if_ge (tgt := 22) hx hb dX10_copy_18 (by decide) (fun c18 => ?_) (fun c18 => ?_)
  · replace h := k_in (show ¬ ta < 0 from fun z => Int32.not_le.mpr z c18) h
    refine lv_iload_n hx hb dX10_copy_22 rfl (lv_at hl 1 rfl) ?_
    refine lv_aload_n hx hb dX10_copy_23 rfl (lv_at hl 0 rfl) ?_
    refine va_alen hx hb hK hP k0 0 he0 (ty := .int) rfl (v := nI nf) rfl dX10_copy_24 ?_
    refine lv_iload hx hb dX10_copy_25 (lv_at hl 4 rfl) ?_
    refine lv_isub hx hb dX10_copy_27 ?_
    refine lv_icmp_gt (tgt := 49) hx hb dX10_copy_28 (by decide) (fun c28 => ?_) (fun c28 => ?_)
    · replace h := k_ip c28 h
      subst h
      exact W.vret hx hb hr (fun t ht hW => ⟨⟨_, rfl, rfl, pw_end ht (by show va_P _ _ (List.set _ _ _) _; rw [hsame]; exact hP)⟩, hS.F ht⟩) hS.2.2 dX10_copy_49
    · replace h := k_in c28 h
      refine lv_iload_n hx hb dX10_copy_31 rfl (lv_at hl 3 rfl) ?_
      refine lv_aload_n hx hb dX10_copy_32 rfl (lv_at hl 2 rfl) ?_
      refine va_alen hx hb hK hP k 0 he (ty := .int) rfl (v := nI ng) rfl dX10_copy_33 ?_
      refine lv_iload hx hb dX10_copy_34 (lv_at hl 4 rfl) ?_
      refine lv_isub hx hb dX10_copy_36 ?_
      refine lv_icmp_gt (tgt := 49) hx hb dX10_copy_37 (by decide) (fun c37 => ?_) (fun c37 => ?_)
      · replace h := k_ip c37 h
        subst h
        exact W.vret hx hb hr (fun t ht hW => ⟨⟨_, rfl, rfl, pw_end ht (by show va_P _ _ (List.set _ _ _) _; rw [hsame]; exact hP)⟩, hS.F ht⟩) hS.2.2 dX10_copy_49
      · replace h := k_in c37 h
        subst h
        refine lv_aload_n hx hb dX10_copy_40 rfl (lv_at hl 0 rfl) ?_
        refine lv_iload_n hx hb dX10_copy_41 rfl (lv_at hl 1 rfl) ?_
        refine lv_aload_n hx hb dX10_copy_42 rfl (lv_at hl 2 rfl) ?_
        refine lv_iload_n hx hb dX10_copy_43 rfl (lv_at hl 3 rfl) ?_
        refine lv_iload hx hb dX10_copy_44 (lv_at hl 4 rfl) ?_
        have c18' : ¬ ta < 0 := fun z => Int32.not_le.mpr z c18
        refine va_copyi hx hb (hml.trans hl.1.symm) hown (hts (.methodLink RX10 290 arraycopyName) (by decide +kernel)) (hts (.native arraycopyName) (by decide +kernel)) (hts (.static arraycopyName) (by decide +kernel)) (hts (.initialized "java/lang/System") (by decide +kernel)) hK hP hD hS k0 k 0 0 he0 he rfl rfl rfl c14 c18' c10 (cpy_room hn0 c10 c14 c28) (cpy_room hn c10 c18' c37) (fun _ _ => rfl) (Nat.le_of_ble_eq_true rfl) (Nat.le_of_ble_eq_true rfl) dX10_copy_46 (fun H locs hP _ hS => ?_)
        exact W.vret hx hb hr (fun t ht hW => ⟨⟨_, rfl, rfl, pw_end ht hP⟩, hS.F ht⟩) hS.2.2 dX10_copy_49
  · have hc : ta < 0 := Int32.not_le.mp c18
    replace h := k_ip hc h
    subst h
    exact W.vret hx hb hr (fun t ht hW => ⟨⟨_, rfl, rfl, pw_end ht (by show va_P _ _ (List.set _ _ _) _; rw [hsame]; exact hP)⟩, hS.F ht⟩) hS.2.2 dX10_copy_21
def uhI (x k : Int32) : Int32 := (x.toUInt32 >>> (k.toUInt32 &&& Int32.toUInt32 31)).toInt32
def bcA (x : Int32) : Int32 := x - (uhI x 1 &&& 1431655765)
def bcB (x : Int32) : Int32 := (x &&& 858993459) + (uhI x 2 &&& 858993459)
def bcC (x : Int32) : Int32 := (x + uhI x 4) &&& 252645135
def bcD (x : Int32) : Int32 := x + uhI x 8
def bcE (x : Int32) : Int32 := x + uhI x 16
def pJ6_bitCount (x : Int32) : Int32 := bcE (bcD (bcC (bcB (bcA x)))) &&& 63
set_option maxHeartbeats 4000000 in
set_option maxRecDepth 100000 in
theorem kJ6_bitCount (l : Launch) (x0 : Int32) : Met l yJ6_bitCount_0f7a4 wsJ6_bitCount_0f7a4 rmJ6_bitCount (va_Pc [.int x0] (fun _ => True)) (QcRead (pJ6_bitCount x0)) 0 0 (fun _ => False) := by
  obtain ⟨o, h⟩ : ∃ o, pJ6_bitCount x0 = o := ⟨_, rfl⟩
  rw [h]
  refine Met.ofW (cc := cJ6_bitCount_0f7a4) (maxL := 1) (ret := (some .int)) (by decide) rfl ?_
  intro p e s m args below meth c s₁ B hml hv
  obtain ⟨rfl, -⟩ := hv
  have hx := B.exec
  have hb := B.bytes
  have hr := B.returns
  have hlk := B.notSynchronized
  have hown : s.vm.findClass RJ6 = some m.cls := findClass_of_methodNamed B.named
  have hts := atoms_spec (ws := wsJ6_bitCount_0f7a4) B.pre
  have hl := lv_entry ([.int x0]) (n := 1) (Nat.le_of_ble_eq_true rfl)
  rw [lg_entry_eq]
  generalize (lg_sl ([.int x0]) ++ List.replicate (1 - (lg_sl ([.int x0])).length) Slot.unset).toArray = ls at hl ⊢
  have hl : lv_has ls 1 [(0, .int x0)] := hl
  unfold pJ6_bitCount at h
  refine lv_iload_n hx hb dJ6_bitCount_0f7a4_0 rfl (lv_at hl 0 rfl) ?_
  refine lv_iload_n hx hb dJ6_bitCount_0f7a4_1 rfl (lv_at hl 0 rfl) ?_
  refine lv_iconst (v := 1) hx hb dJ6_bitCount_0f7a4_2 (by decide) ?_
  refine lv_iushr (v := uhI x0 1) hx hb dJ6_bitCount_0f7a4_3 rfl ?_
  refine lv_ldcw (v := 1431655765) hx hb hown (hts (.constant RJ6 265 1431655765) (by decide +kernel)) dJ6_bitCount_0f7a4_4 ?_
  refine lv_iand hx hb dJ6_bitCount_0f7a4_7 ?_
  refine lv_isub hx hb dJ6_bitCount_0f7a4_8 ?_
  obtain ⟨x1, e1⟩ : ∃ y, bcA x0 = y := ⟨_, rfl⟩
  rw [e1] at h
  refine lv_nmi e1 ?_
  refine lv_istore_n (lv' := [(0, .int x1)]) hx hb dJ6_bitCount_0f7a4_9 rfl hl (by decide) rfl (fun ls hl => ?_)
  refine lv_iload_n hx hb dJ6_bitCount_0f7a4_10 rfl (lv_at hl 0 rfl) ?_
  refine lv_ldcw (v := 858993459) hx hb hown (hts (.constant RJ6 266 858993459) (by decide +kernel)) dJ6_bitCount_0f7a4_11 ?_
  refine lv_iand hx hb dJ6_bitCount_0f7a4_14 ?_
  refine lv_iload_n hx hb dJ6_bitCount_0f7a4_15 rfl (lv_at hl 0 rfl) ?_
  refine lv_iconst (v := 2) hx hb dJ6_bitCount_0f7a4_16 (by decide) ?_
  refine lv_iushr (v := uhI x1 2) hx hb dJ6_bitCount_0f7a4_17 rfl ?_
  refine lv_ldcw (v := 858993459) hx hb hown (hts (.constant RJ6 266 858993459) (by decide +kernel)) dJ6_bitCount_0f7a4_18 ?_
  refine lv_iand hx hb dJ6_bitCount_0f7a4_21 ?_
  refine lv_iadd hx hb dJ6_bitCount_0f7a4_22 ?_
  obtain ⟨x2, e2⟩ : ∃ y, bcB x1 = y := ⟨_, rfl⟩
  rw [e2] at h
  refine lv_nmi e2 ?_
  refine lv_istore_n (lv' := [(0, .int x2)]) hx hb dJ6_bitCount_0f7a4_23 rfl hl (by decide) rfl (fun ls hl => ?_)
  refine lv_iload_n hx hb dJ6_bitCount_0f7a4_24 rfl (lv_at hl 0 rfl) ?_
  refine lv_iload_n hx hb dJ6_bitCount_0f7a4_25 rfl (lv_at hl 0 rfl) ?_
  refine lv_iconst (v := 4) hx hb dJ6_bitCount_0f7a4_26 (by decide) ?_
  refine lv_iushr (v := uhI x2 4) hx hb dJ6_bitCount_0f7a4_27 rfl ?_
  refine lv_iadd hx hb dJ6_bitCount_0f7a4_28 ?_
  refine lv_ldcw (v := 252645135) hx hb hown (hts (.constant RJ6 267 252645135) (by decide +kernel)) dJ6_bitCount_0f7a4_29 ?_
  refine lv_iand hx hb dJ6_bitCount_0f7a4_32 ?_
  obtain ⟨x3, e3⟩ : ∃ y, bcC x2 = y := ⟨_, rfl⟩
  rw [e3] at h
  refine lv_nmi e3 ?_
  refine lv_istore_n (lv' := [(0, .int x3)]) hx hb dJ6_bitCount_0f7a4_33 rfl hl (by decide) rfl (fun ls hl => ?_)
  refine lv_iload_n hx hb dJ6_bitCount_0f7a4_34 rfl (lv_at hl 0 rfl) ?_
  refine lv_iload_n hx hb dJ6_bitCount_0f7a4_35 rfl (lv_at hl 0 rfl) ?_
  refine lv_bipush (v := 8) hx hb dJ6_bitCount_0f7a4_36 (by decide) ?_
  refine lv_iushr (v := uhI x3 8) hx hb dJ6_bitCount_0f7a4_38 rfl ?_
  refine lv_iadd hx hb dJ6_bitCount_0f7a4_39 ?_
  obtain ⟨x4, e4⟩ : ∃ y, bcD x3 = y := ⟨_, rfl⟩
  rw [e4] at h
  refine lv_nmi e4 ?_
  refine lv_istore_n (lv' := [(0, .int x4)]) hx hb dJ6_bitCount_0f7a4_40 rfl hl (by decide) rfl (fun ls hl => ?_)
  refine lv_iload_n hx hb dJ6_bitCount_0f7a4_41 rfl (lv_at hl 0 rfl) ?_
  refine lv_iload_n hx hb dJ6_bitCount_0f7a4_42 rfl (lv_at hl 0 rfl) ?_
  refine lv_bipush (v := 16) hx hb dJ6_bitCount_0f7a4_43 (by decide) ?_
  refine lv_iushr (v := uhI x4 16) hx hb dJ6_bitCount_0f7a4_45 rfl ?_
  refine lv_iadd hx hb dJ6_bitCount_0f7a4_46 ?_
  obtain ⟨x5, e5⟩ : ∃ y, bcE x4 = y := ⟨_, rfl⟩
  rw [e5] at h
  refine lv_nmi e5 ?_
  refine lv_istore_n (lv' := [(0, .int x5)]) hx hb dJ6_bitCount_0f7a4_47 rfl hl (by decide) rfl (fun ls hl => ?_)
  refine lv_iload_n hx hb dJ6_bitCount_0f7a4_48 rfl (lv_at hl 0 rfl) ?_
  refine lv_bipush (v := 63) hx hb dJ6_bitCount_0f7a4_49 (by decide) ?_
  refine lv_iand hx hb dJ6_bitCount_0f7a4_51 ?_
  subst h
  exact W.iret hx hb hr (fun t ht hW => ⟨rfl, ht⟩) (fun _ h => by cases h) dJ6_bitCount_0f7a4_52
def f_ABOVE : Nat → Int32 := fun j => [0, 0, 0, 1, 2, 0].getD j 0
def f_LEAVES : Nat → Int32 := fun j => [1, 10, 100, 1000, 10000, 100000].getD j 0
/-- the two rows of numbers that the class keeps for all its objects -/
def SZ (ad : Nat → Nat) (t_ABOVE t_LEAVES : Nat) (U : State) : Prop := va_Z RX4 "ABOVE" "[I" (.ref t_ABOVE) (cwA ad) U U.heap ∧ va_Z RX4 "LEAVES" "[I" (.ref t_LEAVES) (cwA ad) U U.heap ∧ va_T .int t_ABOVE 6 (fun j => .int (f_ABOVE j)) (cwA ad) U U.heap ∧ va_T .int t_LEAVES 6 (fun j => .int (f_LEAVES j)) (cwA ad) U U.heap
theorem SZ_at {A : Nat → Prop} {s : State} {H : Heap} {locs : List Loc} {t n : Nat} {f : Nat → Value} (h : va_T .int t n f A s s.heap) (hS : va_S A s.heap H locs) : va_T .int t n f (fun _ => False) s H := (h.kept (fun a h1 h2 => hS.2.1 a h1 h2)).narrow (fun q h => h.elim)
theorem SZ_mv {ad : Nat → Nat} {tA tL : Nat} {s U : State} {H : Heap} (hU : U.heap = H) (hW : s.vm.Alike U.vm) {locs : List Loc} (hS : va_S (cwA ad) s.heap H locs) (h : SZ ad tA tL s) : SZ ad tA tL U := by
  obtain ⟨h1, h2, h3, h4⟩ := h
  unfold SZ
  rw [hU]
  exact ⟨va_Z.moved hW (h1.kept (fun a z1 z2 => hS.2.1 a z1 z2)), va_Z.moved hW (h2.kept (fun a z1 z2 => hS.2.1 a z1 z2)), va_T.moved hW (h3.kept (fun a z1 z2 => hS.2.1 a z1 z2)), va_T.moved hW (h4.kept (fun a z1 z2 => hS.2.1 a z1 z2))⟩
theorem PWS.blind {D : va_G} {cI cB cZ : ClassId} {ws : va_W} {av : List Value} {ad : Nat → Nat} {tA tL : Nat} : FrameBlind (va_Pc av (fun U => PW D cI cB cZ ws U ∧ SZ ad tA tL U)) := fun a U g mk q => by
  obtain ⟨q0, ⟨qP, qK, qN⟩, qZ⟩ := q
  exact ⟨q0, ⟨qP, va_K.moved (u := U) (U := U.calling g mk a) (Vm.Alike.refl U.vm) qK, NW.same (u := U) (U := U.calling g mk a) rfl qN⟩, SZ_mv (s := U) (U := U.calling g mk a) (H := U.heap) rfl (Vm.Alike.refl U.vm) (locs := []) va_S.rf qZ⟩
theorem PWS.mk {D : va_G} {cI cB cZ : ClassId} {ws : va_W} {av : List Value} {ad : Nat → Nat} {tA tL : Nat} {s : State} {H : Heap} {locs : List Loc} (hP : va_P D vwCl ws H) (hK : va_K D vwCl (tysA cI cB cZ) s) (hN : NW s) (hZ : SZ ad tA tL s) (hS : va_S (cwA ad) s.heap H locs) : ∀ U : State, U.heap = H → s.WarmedH U.vm → va_Pc av (fun U => PW D cI cB cZ ws U ∧ SZ ad tA tL U) av.toArray U :=
  fun U hU hW => ⟨rfl, (PW.mk (av := av) hP hK hN U hU hW).2, SZ_mv hU hW.alike hS hZ⟩
