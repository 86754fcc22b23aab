set_option maxHeartbeats 4000000 in
set_option maxRecDepth 100000 in
theorem kX11_in (l : Launch) (x0 : Int32) (x1 : Int32) (x2 : Int32) : Met l yX11_in wsX11_in rmX11_in (va_Pc [.int x0, .int x1, .int x2] (fun _ => True)) (QcRead (pX11_in x0 x1 x2)) 0 0 (fun _ => False) := by
  obtain ⟨o, h⟩ : ∃ o, pX11_in x0 x1 x2 = o := ⟨_, rfl⟩
  rw [h]
  refine Met.ofW (cc := cX11_in) (maxL := 3) (ret := (some .boolean)) (by decide) rfl ?_
  intro p e s m args below meth c s₁ B hml hv
  obtain ⟨rfl, -⟩ := hv
  have C0 : Cx p s m _ meth c cX11_in 3 (some .boolean) RX11 wsX11_in := ⟨⟨B.exec, B.bytes, hml, findClass_of_methodNamed B.named, atoms_spec B.pre⟩, B.returns, B.notSynchronized⟩
  obtain ⟨⟨hx, hb, -, hown, hts⟩, hr, hlk⟩ := id C0
  have hl := lv_entry ([.int x0, .int x1, .int x2]) (n := 3) (Nat.le_of_ble_eq_true rfl)
  rw [lg_entry_eq]
  generalize (lg_sl ([.int x0, .int x1, .int x2]) ++ List.replicate (3 - (lg_sl ([.int x0, .int x1, .int x2])).length) Slot.unset).toArray = ls at hl ⊢
  have hl : lv_has ls 3 [(0, .int x0), (1, .int x1), (2, .int x2)] := hl
  rw [pX11_in] at h
  refine lv_iload_n hx hb dX11_in_0 rfl (lv_at hl 0 rfl) ?_
  refine lv_iload_n hx hb dX11_in_1 rfl (lv_at hl 1 rfl) ?_
  refine lv_icmp_lt (tgt := 14) hx hb dX11_in_2 (by decide) (fun c2 => ?_) (fun c2 => ?_)
  · replace h := k_ip c2 h
    refine lv_iconst (v := 0) hx hb dX11_in_14 (by decide) ?_
    subst h
    exact W.zret hx hb hr rfl (fun t ht hW => ⟨rfl, ht⟩) (fun _ h => by cases h) dX11_in_15
  · replace h := k_in c2 h
    refine lv_iload_n hx hb dX11_in_5 rfl (lv_at hl 0 rfl) ?_
    refine lv_iload_n hx hb dX11_in_6 rfl (lv_at hl 2 rfl) ?_
    refine lv_icmp_gt (tgt := 14) hx hb dX11_in_7 (by decide) (fun c7 => ?_) (fun c7 => ?_)
    · replace h := k_ip c7 h
      refine lv_iconst (v := 0) hx hb dX11_in_14 (by decide) ?_
      subst h
      exact W.zret hx hb hr rfl (fun t ht hW => ⟨rfl, ht⟩) (fun _ h => by cases h) dX11_in_15
    · replace h := k_in c7 h
      refine lv_iconst (v := 1) hx hb dX11_in_10 (by decide) ?_
      refine lv_goto (tgt := 15) hx hb dX11_in_11 (by decide) ?_
      subst h
      exact W.zret hx hb hr rfl (fun t ht hW => ⟨rfl, ht⟩) (fun _ h => by cases h) dX11_in_15
set_option maxHeartbeats 4000000 in
set_option maxRecDepth 100000 in
theorem kX11_has (l : Launch) (x0 : Int32) (x1 : Int32) : Met l yX11_has wsX11_has rmX11_has (va_Pc [.int x0, .int x1] (fun _ => True)) (QcRead (pX11_has x0 x1)) 0 0 (fun _ => False) := by
  obtain ⟨o, h⟩ : ∃ o, pX11_has x0 x1 = o := ⟨_, rfl⟩
  rw [h]
  refine Met.ofW (cc := cX11_has) (maxL := 2) (ret := (some .boolean)) (by decide) rfl ?_
  intro p e s m args below meth c s₁ B hml hv
  obtain ⟨rfl, -⟩ := hv
  have C0 : Cx p s m _ meth c cX11_has 2 (some .boolean) RX11 wsX11_has := ⟨⟨B.exec, B.bytes, hml, findClass_of_methodNamed B.named, atoms_spec B.pre⟩, B.returns, B.notSynchronized⟩
  obtain ⟨⟨hx, hb, -, hown, hts⟩, hr, hlk⟩ := id C0
  have hl := lv_entry ([.int x0, .int x1]) (n := 2) (Nat.le_of_ble_eq_true rfl)
  rw [lg_entry_eq]
  generalize (lg_sl ([.int x0, .int x1]) ++ List.replicate (2 - (lg_sl ([.int x0, .int x1])).length) Slot.unset).toArray = ls at hl ⊢
  have hl : lv_has ls 2 [(0, .int x0), (1, .int x1)] := hl
  rw [pX11_has] at h
  refine lv_iload_n hx hb dX11_has_0 rfl (lv_at hl 0 rfl) ?_
  refine lv_iload_n hx hb dX11_has_1 rfl (lv_at hl 1 rfl) ?_
  refine lv_ishr hx hb dX11_has_2 ?_
  refine lv_iconst (v := 1) hx hb dX11_has_3 (by decide) ?_
  refine lv_iand hx hb dX11_has_4 ?_
  refine lv_iconst (v := 1) hx hb dX11_has_5 (by decide) ?_
  refine lv_icmp_ne (tgt := 13) hx hb dX11_has_6 (by decide) (fun c6 => ?_) (fun c6 => ?_)
  · replace h := k_in c6 h
    refine lv_iconst (v := 0) hx hb dX11_has_13 (by decide) ?_
    subst h
    exact W.zret hx hb hr rfl (fun t ht hW => ⟨rfl, ht⟩) (fun _ h => by cases h) dX11_has_14
  · replace h := k_ip c6 h
    refine lv_iconst (v := 1) hx hb dX11_has_9 (by decide) ?_
    refine lv_goto (tgt := 14) hx hb dX11_has_10 (by decide) ?_
    subst h
    exact W.zret hx hb hr rfl (fun t ht hW => ⟨rfl, ht⟩) (fun _ h => by cases h) dX11_has_14
set_option maxHeartbeats 4000000 in
set_option maxRecDepth 100000 in
theorem kX11_here (l : Launch) {D : va_G} {cI cB cZ : ClassId} {am : Nat → Nat} {τ : Int64} (σ : Sg) (o : Int32) (h : pX11_here σ = some o) : Met l yX11_here wsX11_here rmX11_here (va_Pc [.ref (am 0)] (PW D cI cB cZ (MW cI cB cZ am τ σ))) (QcRead o) 0 0 (fun _ => False) := by
  refine Met.ofW (cc := cX11_here) (maxL := 1) (ret := (some .int)) (by decide) rfl ?_
  intro p e s m args below meth c s₁ B hml hv
  obtain ⟨rfl, hP, hK, hN⟩ := hv
  have C0 : Cx p s m _ meth c cX11_here 1 (some .int) RX11 wsX11_here := ⟨⟨B.exec, B.bytes, hml, findClass_of_methodNamed B.named, atoms_spec B.pre⟩, B.returns, B.notSynchronized⟩
  obtain ⟨⟨hx, hb, -, hown, hts⟩, hr, hlk⟩ := id C0
  have hl := lv_entry ([.ref (am 0)]) (n := 1) (Nat.le_of_ble_eq_true rfl)
  rw [lg_entry_eq]
  generalize (lg_sl ([.ref (am 0)]) ++ List.replicate (1 - (lg_sl ([.ref (am 0)])).length) Slot.unset).toArray = ls at hl ⊢
  have hl : lv_has ls 1 [(0, .ref (am 0))] := hl
  rw [pX11_here] at h
  refine lv_aload_n hx hb dX11_here_0 rfl (lv_at hl 0 rfl) ?_
  refine va_get (D := D) (ci := 11) (v := .int (σ 0 13)) (C := RX11) (T := TX11) (N := 30) hx hb hts iX11_here_X11 hown hK hP 0 mw_0 rfl 13 (by decide) (hts (.fieldLink RX11 83 RX11 "at" "I") (by decide +kernel)) (fun _ h9 => h9) rfl dX11_here_1 ?_
  refine lv_aload_n hx hb dX11_here_4 rfl (lv_at hl 0 rfl) ?_
  refine va_get (D := D) (ci := 11) (v := .int (σ 0 1)) (C := RX11) (T := TX11) (N := 30) hx hb hts iX11_here_X11 hown hK hP 0 mw_0 rfl 1 (by decide) (hts (.fieldLink RX11 79 RX11 "typed" "I") (by decide +kernel)) (fun _ h9 => h9) rfl dX11_here_5 ?_
  refine lv_icmp_ge (tgt := 27) hx hb dX11_here_8 (by decide) (fun c8 => ?_) (fun c8 => ?_)
  · replace h := k_ip c8 h
    refine lv_bipush (v := (-9)) hx hb dX11_here_27 (by decide) ?_
    obtain rfl := k_sm h
    exact W.iret hx hb hr (fun t ht hW => ⟨rfl, ht⟩) (fun _ h => by cases h) dX11_here_29
  · replace h := k_in c8 h
    refine lv_aload_n hx hb dX11_here_11 rfl (lv_at hl 0 rfl) ?_
    refine va_get (D := D) (ci := 11) (v := .ref (am 1)) (C := RX11) (T := TX11) (N := 30) hx hb hts iX11_here_X11 hown hK hP 0 mw_0 rfl 0 (by decide) (hts (.fieldLink RX11 7 RX11 "text" "[B") (by decide +kernel)) (fun _ h9 => h9) rfl dX11_here_12 ?_
    refine lv_aload_n hx hb dX11_here_15 rfl (lv_at hl 0 rfl) ?_
    refine va_get (D := D) (ci := 11) (v := .int (σ 0 13)) (C := RX11) (T := TX11) (N := 30) hx hb hts iX11_here_X11 hown hK hP 0 mw_0 rfl 13 (by decide) (hts (.fieldLink RX11 83 RX11 "at" "I") (by decide +kernel)) (fun _ h9 => h9) rfl dX11_here_16 ?_
    obtain ⟨v1, e2, h⟩ := k_bd h
    refine va_bald hx hb hK hP 1 1 mw_1 rfl (k_rd e2).1 dX11_here_19 ?_
    refine lv_nmi (k_rd e2).2 ?_
    refine lv_sipush (v := 255) hx hb dX11_here_20 (by decide) ?_
    refine lv_iand hx hb dX11_here_23 ?_
    refine lv_goto (tgt := 29) hx hb dX11_here_24 (by decide) ?_
    obtain rfl := k_sm h
    exact W.iret hx hb hr (fun t ht hW => ⟨rfl, ht⟩) (fun _ h => by cases h) dX11_here_29
set_option maxHeartbeats 4000000 in
set_option maxRecDepth 100000 in
theorem bX11_step_L0 {p : Program} {l : Launch} {e : Env} {s : State} {m : MethodId} {args : Array Value} {below : List Frame} {meth : Method} {c : Code} {Q : State → Prop} {D : va_G} {cI cB cZ : ClassId} {am : Nat → Nat} (C0 : Cx p s m args meth c cX11_step 2 none RX11 wsX11_step) (hK : va_K D vwCl (tysA cI cB cZ) s) (hN : NW s) (hap : mwX am) {τ : Int64}  : ∀ (n : Nat) (σ : Sg) (v : Sg) (H : Heap) (locs : List Loc) (ls : Array Slot), va_P D vwCl (MW cI cB cZ am τ σ) H → va_S (mwA am) s.heap H locs → lv_has ls 2 [(0, .ref (am 0))] → pX11_step_L0  n σ = some v → (∀ (H1 : Heap) (locs1 : List Loc) (ls1 : Array Slot), va_P D vwCl (MW cI cB cZ am τ v) H1 → va_S (mwA am) s.heap H1 locs1 → lv_has ls1 2 [(0, .ref (am 0))] → W p l e rmX11_step s m args below meth c H1 locs1 0 0 Q (F0 m 22 ls1 [])) → W p l e rmX11_step s m args below meth c H locs 0 0 Q (F0 m 0 ls []) := by
  obtain ⟨⟨hx, hb, hml, hown, hts⟩, hr, hlk⟩ := id C0
  intro n
  induction n with
  | zero =>
    intro σ v H locs ls hP hS hl h kk
    exact absurd h (by simp [pX11_step_L0])
  | succ n ih =>
    intro σ v H locs ls hP hS hl h kk
    rw [pX11_step_L0] at h
    refine lv_aload_n hx hb dX11_step_0 rfl (lv_at hl 0 rfl) ?_
    obtain ⟨v1, e2, h⟩ := k_bd h
    refine rd_calli (va_runV (As := []) (rest := []) C0.1 (kX11_here l (D := D) (cI := cI) (cB := cB) (cZ := cZ) (am := am) (τ := τ) σ  _ e2) (wX11_step_X11_here hts ⟨Nat.le_of_ble_eq_true rfl, Nat.le_of_ble_eq_true rfl⟩) ⟨PW.blind, mw_r0 hK hP, PW.mk hP hK hN⟩ rfl rfl hl.1 rfl (lv_room (Nat.le_of_ble_eq_true rfl)) dX11_step_1 ⟨Nat.zero_le _, Nat.zero_le _⟩) ?_
    refine lv_bipush (v := 32) hx hb dX11_step_4 (by decide) ?_
    refine lv_icmp_ne (tgt := 22) hx hb dX11_step_6 (by decide) (fun c6 => ?_) (fun c6 => ?_)
    · replace h := k_in c6 h
      obtain rfl := k_sm h
      exact kk _ _ _ hP hS (lv_sub hl [0] rfl)
    · replace h := k_ip c6 h
      refine lv_aload_n hx hb dX11_step_9 rfl (lv_at hl 0 rfl) ?_
      refine lv_dup hx hb dX11_step_10 rfl ?_
      refine va_get (D := D) (ci := 11) (v := .int (σ 0 13)) (C := RX11) (T := TX11) (N := 30) hx hb hts iX11_step_X11 hown hK hP 0 mw_0 rfl 13 (by decide) (hts (.fieldLink RX11 83 RX11 "at" "I") (by decide +kernel)) (fun _ h9 => h9) rfl dX11_step_11 ?_
      refine lv_iconst (v := 1) hx hb dX11_step_14 (by decide) ?_
      refine lv_iadd hx hb dX11_step_15 ?_
      refine va_put (D := D) (ci := 11) (v := .int ((σ 0 13) + 1)) (ty := .int) (C := RX11) (T := TX11) (N := 30) hx hb hts iX11_step_X11 tyX11 tyX11_ok nmX11 hown hK hP (mw_D hap) hS 0 mw_0 rfl 13 (by decide) (hts (.fieldLink RX11 83 RX11 "at" "I") (by decide +kernel)) (fun _ h9 => h9) rfl (by decide +kernel) rfl rfl (Nat.le_of_ble_eq_true rfl) dX11_step_16 (fun H locs hP _ hS => ?_)
      have hP := mw_s0_13 hP
      obtain ⟨σ3, e4, h⟩ := k_bd h
      rw [k_sm e4] at hP
      refine lv_goto (tgt := 0) hx hb dX11_step_19 (by decide) ?_
      exact ih σ3 _ _ _ ls hP hS (lv_sub hl [0] rfl) h kk
set_option maxHeartbeats 4000000 in
set_option maxRecDepth 100000 in
theorem bX11_step_L178 {p : Program} {l : Launch} {e : Env} {s : State} {m : MethodId} {args : Array Value} {below : List Frame} {meth : Method} {c : Code} {Q : State → Prop} {D : va_G} {cI cB cZ : ClassId} {am : Nat → Nat} (C0 : Cx p s m args meth c cX11_step 2 none RX11 wsX11_step) (hK : va_K D vwCl (tysA cI cB cZ) s) (hN : NW s) (hap : mwX am) {τ : Int64} (x1 : Int32) : ∀ (n : Nat) (σ : Sg) (v : Sg) (H : Heap) (locs : List Loc) (ls : Array Slot), va_P D vwCl (MW cI cB cZ am τ σ) H → va_S (mwA am) s.heap H locs → lv_has ls 2 [(0, .ref (am 0)), (1, .int x1)] → pX11_step_L178 x1 n σ = some v → (∀ (H1 : Heap) (locs1 : List Loc) (ls1 : Array Slot), va_P D vwCl (MW cI cB cZ am τ v) H1 → va_S (mwA am) s.heap H1 locs1 → lv_has ls1 2 [(0, .ref (am 0)), (1, .int x1)] → W p l e rmX11_step s m args below meth c H1 locs1 0 0 Q (F0 m 205 ls1 [])) → W p l e rmX11_step s m args below meth c H locs 0 0 Q (F0 m 178 ls []) := by
  obtain ⟨⟨hx, hb, hml, hown, hts⟩, hr, hlk⟩ := id C0
  intro n
  induction n with
  | zero =>
    intro σ v H locs ls hP hS hl h kk
    exact absurd h (by simp [pX11_step_L178])
  | succ n ih =>
    intro σ v H locs ls hP hS hl h kk
    rw [pX11_step_L178] at h
    refine lv_aload_n hx hb dX11_step_178 rfl (lv_at hl 0 rfl) ?_
    obtain ⟨v19, e20, h⟩ := k_bd h
    refine rd_calli (va_runV (As := []) (rest := []) C0.1 (kX11_here l (D := D) (cI := cI) (cB := cB) (cZ := cZ) (am := am) (τ := τ) σ  _ e20) (wX11_step_X11_here hts ⟨Nat.le_of_ble_eq_true rfl, Nat.le_of_ble_eq_true rfl⟩) ⟨PW.blind, mw_r0 hK hP, PW.mk hP hK hN⟩ rfl rfl hl.1 rfl (lv_room (Nat.le_of_ble_eq_true rfl)) dX11_step_179 ⟨Nat.zero_le _, Nat.zero_le _⟩) ?_
    refine lv_bipush (v := 97) hx hb dX11_step_182 (by decide) ?_
    refine lv_bipush (v := 122) hx hb dX11_step_184 (by decide) ?_
    refine rd_calli (va_runS (As := [.int v19, .int 97, .int 122]) (rest := []) C0.1 (kX11_in l v19 97 122) (wX11_step_X11_in hts ⟨Nat.le_of_ble_eq_true rfl, Nat.le_of_ble_eq_true rfl⟩) ⟨PT.blind, fun _ _ _ => ⟨rfl, trivial⟩⟩ rfl rfl hl.1 rfl (lv_room (Nat.le_of_ble_eq_true rfl)) dX11_step_186 ⟨Nat.zero_le _, Nat.zero_le _⟩) ?_
    refine lv_if_eq (tgt := 205) hx hb dX11_step_189 (by decide) (fun c189 => ?_) (fun c189 => ?_)
    · replace h := k_ip c189 h
      obtain rfl := k_sm h
      exact kk _ _ _ hP hS (lv_sub hl [0, 1] rfl)
    · replace h := k_in c189 h
      refine lv_aload_n hx hb dX11_step_192 rfl (lv_at hl 0 rfl) ?_
      refine lv_dup hx hb dX11_step_193 rfl ?_
      refine va_get (D := D) (ci := 11) (v := .int (σ 0 13)) (C := RX11) (T := TX11) (N := 30) hx hb hts iX11_step_X11 hown hK hP 0 mw_0 rfl 13 (by decide) (hts (.fieldLink RX11 83 RX11 "at" "I") (by decide +kernel)) (fun _ h9 => h9) rfl dX11_step_194 ?_
      refine lv_iconst (v := 1) hx hb dX11_step_197 (by decide) ?_
      refine lv_iadd hx hb dX11_step_198 ?_
      refine va_put (D := D) (ci := 11) (v := .int ((σ 0 13) + 1)) (ty := .int) (C := RX11) (T := TX11) (N := 30) hx hb hts iX11_step_X11 tyX11 tyX11_ok nmX11 hown hK hP (mw_D hap) hS 0 mw_0 rfl 13 (by decide) (hts (.fieldLink RX11 83 RX11 "at" "I") (by decide +kernel)) (fun _ h9 => h9) rfl (by decide +kernel) rfl rfl (Nat.le_of_ble_eq_true rfl) dX11_step_199 (fun H locs hP _ hS => ?_)
      have hP := mw_s0_13 hP
      obtain ⟨σ21, e22, h⟩ := k_bd h
      rw [k_sm e22] at hP
      refine lv_goto (tgt := 178) hx hb dX11_step_202 (by decide) ?_
      exact ih σ21 _ _ _ ls hP hS (lv_sub hl [0, 1] rfl) h kk
set_option maxHeartbeats 4000000 in
set_option maxRecDepth 100000 in
theorem bX11_step_L65 {p : Program} {l : Launch} {e : Env} {s : State} {m : MethodId} {args : Array Value} {below : List Frame} {meth : Method} {c : Code} {Q : State → Prop} {D : va_G} {cI cB cZ : ClassId} {am : Nat → Nat} (C0 : Cx p s m args meth c cX11_step 2 none RX11 wsX11_step) (hK : va_K D vwCl (tysA cI cB cZ) s) (hN : NW s) (hap : mwX am) {τ : Int64} (x1 : Int32) : ∀ (n : Nat) (σ : Sg) (v : Sg) (H : Heap) (locs : List Loc) (ls : Array Slot), va_P D vwCl (MW cI cB cZ am τ σ) H → va_S (mwA am) s.heap H locs → lv_has ls 2 [(0, .ref (am 0)), (1, .int x1)] → pX11_step_L65 x1 n σ = some v → (∀ (H1 : Heap) (locs1 : List Loc) (ls1 : Array Slot), va_P D vwCl (MW cI cB cZ am τ v) H1 → va_S (mwA am) s.heap H1 locs1 → lv_has ls1 2 [(0, .ref (am 0)), (1, .int x1)] → W p l e rmX11_step s m args below meth c H1 locs1 0 0 Q (F0 m 127 ls1 [])) → W p l e rmX11_step s m args below meth c H locs 0 0 Q (F0 m 65 ls []) := by
  obtain ⟨⟨hx, hb, hml, hown, hts⟩, hr, hlk⟩ := id C0
  intro n
  induction n with
  | zero =>
    intro σ v H locs ls hP hS hl h kk
    exact absurd h (by simp [pX11_step_L65])
  | succ n ih =>
    intro σ v H locs ls hP hS hl h kk
    rw [pX11_step_L65] at h
    refine lv_aload_n hx hb dX11_step_65 rfl (lv_at hl 0 rfl) ?_
    obtain ⟨v33, e34, h⟩ := k_bd h
    refine rd_calli (va_runV (As := []) (rest := []) C0.1 (kX11_here l (D := D) (cI := cI) (cB := cB) (cZ := cZ) (am := am) (τ := τ) σ  _ e34) (wX11_step_X11_here hts ⟨Nat.le_of_ble_eq_true rfl, Nat.le_of_ble_eq_true rfl⟩) ⟨PW.blind, mw_r0 hK hP, PW.mk hP hK hN⟩ rfl rfl hl.1 rfl (lv_room (Nat.le_of_ble_eq_true rfl)) dX11_step_66 ⟨Nat.zero_le _, Nat.zero_le _⟩) ?_
    refine lv_bipush (v := 48) hx hb dX11_step_69 (by decide) ?_
    refine lv_bipush (v := 57) hx hb dX11_step_71 (by decide) ?_
    refine rd_calli (va_runS (As := [.int v33, .int 48, .int 57]) (rest := []) C0.1 (kX11_in l v33 48 57) (wX11_step_X11_in hts ⟨Nat.le_of_ble_eq_true rfl, Nat.le_of_ble_eq_true rfl⟩) ⟨PT.blind, fun _ _ _ => ⟨rfl, trivial⟩⟩ rfl rfl hl.1 rfl (lv_room (Nat.le_of_ble_eq_true rfl)) dX11_step_73 ⟨Nat.zero_le _, Nat.zero_le _⟩) ?_
    refine lv_if_eq (tgt := 127) hx hb dX11_step_76 (by decide) (fun c76 => ?_) (fun c76 => ?_)
    · replace h := k_ip c76 h
      obtain rfl := k_sm h
      exact kk _ _ _ hP hS (lv_sub hl [0, 1] rfl)
    · replace h := k_in c76 h
      refine lv_aload_n hx hb dX11_step_79 rfl (lv_at hl 0 rfl) ?_
      refine lv_aload_n hx hb dX11_step_80 rfl (lv_at hl 0 rfl) ?_
      refine va_get (D := D) (ci := 11) (v := .int (σ 0 16)) (C := RX11) (T := TX11) (N := 30) hx hb hts iX11_step_X11 hown hK hP 0 mw_0 rfl 16 (by decide) (hts (.fieldLink RX11 93 RX11 "value" "I") (by decide +kernel)) (fun _ h9 => h9) rfl dX11_step_81 ?_
      refine lv_bipush (v := 99) hx hb dX11_step_84 (by decide) ?_
      refine lv_icmp_le (tgt := 96) hx hb dX11_step_86 (by decide) (fun c86 => ?_) (fun c86 => ?_)
      · replace h := k_ip c86 h
        refine lv_bipush (v := 10) hx hb dX11_step_96 (by decide) ?_
        refine lv_aload_n hx hb dX11_step_98 rfl (lv_at hl 0 rfl) ?_
        refine va_get (D := D) (ci := 11) (v := .int (σ 0 16)) (C := RX11) (T := TX11) (N := 30) hx hb hts iX11_step_X11 hown hK hP 0 mw_0 rfl 16 (by decide) (hts (.fieldLink RX11 93 RX11 "value" "I") (by decide +kernel)) (fun _ h9 => h9) rfl dX11_step_99 ?_
        refine lv_imul hx hb dX11_step_102 ?_
        refine lv_aload_n hx hb dX11_step_103 rfl (lv_at hl 0 rfl) ?_
        obtain ⟨v35, e36, h⟩ := k_bd h
        refine rd_calli (va_runV (As := []) (rest := [.int (10 * (σ 0 16)), .ref (am 0)]) C0.1 (kX11_here l (D := D) (cI := cI) (cB := cB) (cZ := cZ) (am := am) (τ := τ) σ  _ e36) (wX11_step_X11_here hts ⟨Nat.le_of_ble_eq_true rfl, Nat.le_of_ble_eq_true rfl⟩) ⟨PW.blind, mw_r0 hK hP, PW.mk hP hK hN⟩ rfl rfl hl.1 rfl (lv_room (Nat.le_of_ble_eq_true rfl)) dX11_step_104 ⟨Nat.zero_le _, Nat.zero_le _⟩) ?_
        refine lv_iadd hx hb dX11_step_107 ?_
        refine lv_bipush (v := 48) hx hb dX11_step_108 (by decide) ?_
        refine lv_isub hx hb dX11_step_110 ?_
        refine va_put (D := D) (ci := 11) (v := .int (((10 * (σ 0 16)) + v35) - 48)) (ty := .int) (C := RX11) (T := TX11) (N := 30) hx hb hts iX11_step_X11 tyX11 tyX11_ok nmX11 hown hK hP (mw_D hap) hS 0 mw_0 rfl 16 (by decide) (hts (.fieldLink RX11 93 RX11 "value" "I") (by decide +kernel)) (fun _ h9 => h9) rfl (by decide +kernel) rfl rfl (Nat.le_of_ble_eq_true rfl) dX11_step_111 (fun H locs hP _ hS => ?_)
        have hP := mw_s0_16 hP
        obtain ⟨σ37, e38, h⟩ := k_bd h
        rw [k_sm e38] at hP
        refine lv_aload_n hx hb dX11_step_114 rfl (lv_at hl 0 rfl) ?_
        refine lv_dup hx hb dX11_step_115 rfl ?_
        refine va_get (D := D) (ci := 11) (v := .int (σ37 0 13)) (C := RX11) (T := TX11) (N := 30) hx hb hts iX11_step_X11 hown hK hP 0 mw_0 rfl 13 (by decide) (hts (.fieldLink RX11 83 RX11 "at" "I") (by decide +kernel)) (fun _ h9 => h9) rfl dX11_step_116 ?_
        refine lv_iconst (v := 1) hx hb dX11_step_119 (by decide) ?_
        refine lv_iadd hx hb dX11_step_120 ?_
        refine va_put (D := D) (ci := 11) (v := .int ((σ37 0 13) + 1)) (ty := .int) (C := RX11) (T := TX11) (N := 30) hx hb hts iX11_step_X11 tyX11 tyX11_ok nmX11 hown hK hP (mw_D hap) hS 0 mw_0 rfl 13 (by decide) (hts (.fieldLink RX11 83 RX11 "at" "I") (by decide +kernel)) (fun _ h9 => h9) rfl (by decide +kernel) rfl rfl (Nat.le_of_ble_eq_true rfl) dX11_step_121 (fun H locs hP _ hS => ?_)
        have hP := mw_s0_13 hP
        obtain ⟨σ39, e40, h⟩ := k_bd h
        rw [k_sm e40] at hP
        refine lv_goto (tgt := 65) hx hb dX11_step_124 (by decide) ?_
        exact ih σ39 _ _ _ ls hP hS (lv_sub hl [0, 1] rfl) h kk
      · replace h := k_in c86 h
        refine lv_aload_n hx hb dX11_step_89 rfl (lv_at hl 0 rfl) ?_
        refine va_get (D := D) (ci := 11) (v := .int (σ 0 16)) (C := RX11) (T := TX11) (N := 30) hx hb hts iX11_step_X11 hown hK hP 0 mw_0 rfl 16 (by decide) (hts (.fieldLink RX11 93 RX11 "value" "I") (by decide +kernel)) (fun _ h9 => h9) rfl dX11_step_90 ?_
        refine lv_goto (tgt := 111) hx hb dX11_step_93 (by decide) ?_
        refine va_put (D := D) (ci := 11) (v := .int (σ 0 16)) (ty := .int) (C := RX11) (T := TX11) (N := 30) hx hb hts iX11_step_X11 tyX11 tyX11_ok nmX11 hown hK hP (mw_D hap) hS 0 mw_0 rfl 16 (by decide) (hts (.fieldLink RX11 93 RX11 "value" "I") (by decide +kernel)) (fun _ h9 => h9) rfl (by decide +kernel) rfl rfl (Nat.le_of_ble_eq_true rfl) dX11_step_111 (fun H locs hP _ hS => ?_)
        have hP := mw_s0_16 hP
        obtain ⟨σ41, e42, h⟩ := k_bd h
        rw [k_sm e42] at hP
        refine lv_aload_n hx hb dX11_step_114 rfl (lv_at hl 0 rfl) ?_
        refine lv_dup hx hb dX11_step_115 rfl ?_
        refine va_get (D := D) (ci := 11) (v := .int (σ41 0 13)) (C := RX11) (T := TX11) (N := 30) hx hb hts iX11_step_X11 hown hK hP 0 mw_0 rfl 13 (by decide) (hts (.fieldLink RX11 83 RX11 "at" "I") (by decide +kernel)) (fun _ h9 => h9) rfl dX11_step_116 ?_
        refine lv_iconst (v := 1) hx hb dX11_step_119 (by decide) ?_
        refine lv_iadd hx hb dX11_step_120 ?_
        refine va_put (D := D) (ci := 11) (v := .int ((σ41 0 13) + 1)) (ty := .int) (C := RX11) (T := TX11) (N := 30) hx hb hts iX11_step_X11 tyX11 tyX11_ok nmX11 hown hK hP (mw_D hap) hS 0 mw_0 rfl 13 (by decide) (hts (.fieldLink RX11 83 RX11 "at" "I") (by decide +kernel)) (fun _ h9 => h9) rfl (by decide +kernel) rfl rfl (Nat.le_of_ble_eq_true rfl) dX11_step_121 (fun H locs hP _ hS => ?_)
        have hP := mw_s0_13 hP
        obtain ⟨σ43, e44, h⟩ := k_bd h
        rw [k_sm e44] at hP
        refine lv_goto (tgt := 65) hx hb dX11_step_124 (by decide) ?_
        exact ih σ43 _ _ _ ls hP hS (lv_sub hl [0, 1] rfl) h kk
set_option maxHeartbeats 4000000 in
set_option maxRecDepth 100000 in
theorem kX11_step (l : Launch) {D : va_G} {cI cB cZ : ClassId} {am : Nat → Nat} {τ : Int64} (hap : mwX am) (σ : Sg) (o : Sg) (h : pX11_step σ = some o) : Met l yX11_step wsX11_step rmX11_step (va_Pc [.ref (am 0)] (PW D cI cB cZ (MW cI cB cZ am τ σ))) (QV D (MW cI cB cZ am τ) (mwA am) o) 0 0 (mwA am) := by
  refine Met.ofW (cc := cX11_step) (maxL := 2) (ret := none) (by decide) rfl ?_
  intro p e s m args below meth c s₁ B hml hv
  obtain ⟨rfl, hP, hK, hN⟩ := hv
  have C0 : Cx p s m _ meth c cX11_step 2 none RX11 wsX11_step := ⟨⟨B.exec, B.bytes, hml, findClass_of_methodNamed B.named, atoms_spec B.pre⟩, B.returns, B.notSynchronized⟩
  obtain ⟨⟨hx, hb, -, hown, hts⟩, hr, hlk⟩ := id C0
  have hS : va_S (mwA am) s.heap s.heap [] := va_S.rf
  have hl := lv_entry ([.ref (am 0)]) (n := 2) (Nat.le_of_ble_eq_true rfl)
  rw [lg_entry_eq]
  generalize (lg_sl ([.ref (am 0)]) ++ List.replicate (2 - (lg_sl ([.ref (am 0)])).length) Slot.unset).toArray = ls at hl ⊢
  have hl : lv_has ls 2 [(0, .ref (am 0))] := hl
  rw [pX11_step] at h
  obtain ⟨w5, e6, h⟩ := k_bd h
  refine bX11_step_L0 C0 hK hN hap  2000 σ _ _ _ ls hP hS (lv_sub hl [0] rfl) e6 (fun H locs ls hP hS hl => ?_)
  refine lv_aload_n hx hb dX11_step_22 rfl (lv_at hl 0 rfl) ?_
  refine lv_aload_n hx hb dX11_step_23 rfl (lv_at hl 0 rfl) ?_
  refine va_get (D := D) (ci := 11) (v := .int (w5 0 13)) (C := RX11) (T := TX11) (N := 30) hx hb hts iX11_step_X11 hown hK hP 0 mw_0 rfl 13 (by decide) (hts (.fieldLink RX11 83 RX11 "at" "I") (by decide +kernel)) (fun _ h9 => h9) rfl dX11_step_24 ?_
  refine va_put (D := D) (ci := 11) (v := .int (w5 0 13)) (ty := .int) (C := RX11) (T := TX11) (N := 30) hx hb hts iX11_step_X11 tyX11 tyX11_ok nmX11 hown hK hP (mw_D hap) hS 0 mw_0 rfl 14 (by decide) (hts (.fieldLink RX11 90 RX11 "stands" "I") (by decide +kernel)) (fun _ h9 => h9) rfl (by decide +kernel) rfl rfl (Nat.le_of_ble_eq_true rfl) dX11_step_27 (fun H locs hP _ hS => ?_)
  have hP := mw_s0_14 hP
  obtain ⟨σ7, e8, h⟩ := k_bd h
  rw [k_sm e8] at hP
  refine lv_aload_n hx hb dX11_step_30 rfl (lv_at hl 0 rfl) ?_
  refine lv_iconst (v := 0) hx hb dX11_step_31 (by decide) ?_
  refine va_put (D := D) (ci := 11) (v := .int 0) (ty := .int) (C := RX11) (T := TX11) (N := 30) hx hb hts iX11_step_X11 tyX11 tyX11_ok nmX11 hown hK hP (mw_D hap) hS 0 mw_0 rfl 16 (by decide) (hts (.fieldLink RX11 93 RX11 "value" "I") (by decide +kernel)) (fun _ h9 => h9) rfl (by decide +kernel) rfl rfl (Nat.le_of_ble_eq_true rfl) dX11_step_32 (fun H locs hP _ hS => ?_)
  have hP := mw_s0_16 hP
  obtain ⟨σ9, e10, h⟩ := k_bd h
  rw [k_sm e10] at hP
  refine lv_aload_n hx hb dX11_step_35 rfl (lv_at hl 0 rfl) ?_
  obtain ⟨v11, e12, h⟩ := k_bd h
  refine rd_calli (va_runV (As := []) (rest := []) C0.1 (kX11_here l (D := D) (cI := cI) (cB := cB) (cZ := cZ) (am := am) (τ := τ) σ9  _ e12) (wX11_step_X11_here hts ⟨Nat.le_of_ble_eq_true rfl, Nat.le_of_ble_eq_true rfl⟩) ⟨PW.blind, mw_r0 hK hP, PW.mk hP hK hN⟩ rfl rfl hl.1 rfl (lv_room (Nat.le_of_ble_eq_true rfl)) dX11_step_36 ⟨Nat.zero_le _, Nat.zero_le _⟩) ?_
  refine lv_istore_n (lv' := [(1, .int v11), (0, .ref (am 0))]) hx hb dX11_step_39 rfl hl (by decide) rfl (fun ls hl => ?_)
  refine lv_iload_n hx hb dX11_step_40 rfl (lv_at hl 0 rfl) ?_
  refine lv_bipush (v := (-9)) hx hb dX11_step_41 (by decide) ?_
  refine lv_icmp_ne (tgt := 54) hx hb dX11_step_43 (by decide) (fun c43 => ?_) (fun c43 => ?_)
  · replace h := k_in c43 h
    refine lv_iload_n hx hb dX11_step_54 rfl (lv_at hl 0 rfl) ?_
    refine lv_bipush (v := 48) hx hb dX11_step_55 (by decide) ?_
    refine lv_bipush (v := 57) hx hb dX11_step_57 (by decide) ?_
    refine rd_calli (va_runS (As := [.int v11, .int 48, .int 57]) (rest := []) C0.1 (kX11_in l v11 48 57) (wX11_step_X11_in hts ⟨Nat.le_of_ble_eq_true rfl, Nat.le_of_ble_eq_true rfl⟩) ⟨PT.blind, fun _ _ _ => ⟨rfl, trivial⟩⟩ rfl rfl hl.1 rfl (lv_room (Nat.le_of_ble_eq_true rfl)) dX11_step_59 ⟨Nat.zero_le _, Nat.zero_le _⟩) ?_
    refine lv_if_eq (tgt := 167) hx hb dX11_step_62 (by decide) (fun c62 => ?_) (fun c62 => ?_)
    · replace h := k_ip c62 h
      refine lv_iload_n hx hb dX11_step_167 rfl (lv_at hl 0 rfl) ?_
      refine lv_bipush (v := 97) hx hb dX11_step_168 (by decide) ?_
      refine lv_bipush (v := 122) hx hb dX11_step_170 (by decide) ?_
      refine rd_calli (va_runS (As := [.int v11, .int 97, .int 122]) (rest := []) C0.1 (kX11_in l v11 97 122) (wX11_step_X11_in hts ⟨Nat.le_of_ble_eq_true rfl, Nat.le_of_ble_eq_true rfl⟩) ⟨PT.blind, fun _ _ _ => ⟨rfl, trivial⟩⟩ rfl rfl hl.1 rfl (lv_room (Nat.le_of_ble_eq_true rfl)) dX11_step_172 ⟨Nat.zero_le _, Nat.zero_le _⟩) ?_
      refine lv_if_eq (tgt := 235) hx hb dX11_step_175 (by decide) (fun c175 => ?_) (fun c175 => ?_)
      · replace h := k_ip c175 h
        refine lv_aload_n hx hb dX11_step_235 rfl (lv_at hl 1 rfl) ?_
        refine lv_dup hx hb dX11_step_236 rfl ?_
        refine va_get (D := D) (ci := 11) (v := .int (σ9 0 13)) (C := RX11) (T := TX11) (N := 30) hx hb hts iX11_step_X11 hown hK hP 0 mw_0 rfl 13 (by decide) (hts (.fieldLink RX11 83 RX11 "at" "I") (by decide +kernel)) (fun _ h9 => h9) rfl dX11_step_237 ?_
        refine lv_iconst (v := 1) hx hb dX11_step_240 (by decide) ?_
        refine lv_iadd hx hb dX11_step_241 ?_
        refine va_put (D := D) (ci := 11) (v := .int ((σ9 0 13) + 1)) (ty := .int) (C := RX11) (T := TX11) (N := 30) hx hb hts iX11_step_X11 tyX11 tyX11_ok nmX11 hown hK hP (mw_D hap) hS 0 mw_0 rfl 13 (by decide) (hts (.fieldLink RX11 83 RX11 "at" "I") (by decide +kernel)) (fun _ h9 => h9) rfl (by decide +kernel) rfl rfl (Nat.le_of_ble_eq_true rfl) dX11_step_242 (fun H locs hP _ hS => ?_)
        have hP := mw_s0_13 hP
        obtain ⟨σ13, e14, h⟩ := k_bd h
        rw [k_sm e14] at hP
        refine lv_aload_n hx hb dX11_step_245 rfl (lv_at hl 1 rfl) ?_
        refine lv_iload_n hx hb dX11_step_246 rfl (lv_at hl 0 rfl) ?_
        refine lv_bipush (v := 59) hx hb dX11_step_247 (by decide) ?_
        refine lv_icmp_ne (tgt := 256) hx hb dX11_step_249 (by decide) (fun c249 => ?_) (fun c249 => ?_)
        · replace h := k_in c249 h
          refine lv_iconst (v := 5) hx hb dX11_step_256 (by decide) ?_
          refine va_put (D := D) (ci := 11) (v := .int 5) (ty := .int) (C := RX11) (T := TX11) (N := 30) hx hb hts iX11_step_X11 tyX11 tyX11_ok nmX11 hown hK hP (mw_D hap) hS 0 mw_0 rfl 15 (by decide) (hts (.fieldLink RX11 96 RX11 "sort" "I") (by decide +kernel)) (fun _ h9 => h9) rfl (by decide +kernel) rfl rfl (Nat.le_of_ble_eq_true rfl) dX11_step_257 (fun H locs hP _ hS => ?_)
          have hP := mw_s0_15 hP
          obtain ⟨σ15, e16, h⟩ := k_bd h
          rw [k_sm e16] at hP
          obtain rfl := k_sm h
          exact W.vret hx hb hr (fun t ht hW => ⟨⟨_, rfl, rfl, pw_end ht hP⟩, hS.F ht⟩) hS.2.2 dX11_step_260
        · replace h := k_ip c249 h
          refine lv_iconst (v := 3) hx hb dX11_step_252 (by decide) ?_
          refine lv_goto (tgt := 257) hx hb dX11_step_253 (by decide) ?_
          refine va_put (D := D) (ci := 11) (v := .int 3) (ty := .int) (C := RX11) (T := TX11) (N := 30) hx hb hts iX11_step_X11 tyX11 tyX11_ok nmX11 hown hK hP (mw_D hap) hS 0 mw_0 rfl 15 (by decide) (hts (.fieldLink RX11 96 RX11 "sort" "I") (by decide +kernel)) (fun _ h9 => h9) rfl (by decide +kernel) rfl rfl (Nat.le_of_ble_eq_true rfl) dX11_step_257 (fun H locs hP _ hS => ?_)
          have hP := mw_s0_15 hP
          obtain ⟨σ17, e18, h⟩ := k_bd h
          rw [k_sm e18] at hP
          obtain rfl := k_sm h
          exact W.vret hx hb hr (fun t ht hW => ⟨⟨_, rfl, rfl, pw_end ht hP⟩, hS.F ht⟩) hS.2.2 dX11_step_260
      · replace h := k_in c175 h
        obtain ⟨w23, e24, h⟩ := k_bd h
        refine bX11_step_L178 C0 hK hN hap v11 2000 σ9 _ _ _ ls hP hS (lv_sub hl [1, 0] rfl) e24 (fun H locs ls hP hS hl => ?_)
        refine lv_aload_n hx hb dX11_step_205 rfl (lv_at hl 0 rfl) ?_
        refine lv_aload_n hx hb dX11_step_206 rfl (lv_at hl 0 rfl) ?_
        refine va_get (D := D) (ci := 11) (v := .int (w23 0 13)) (C := RX11) (T := TX11) (N := 30) hx hb hts iX11_step_X11 hown hK hP 0 mw_0 rfl 13 (by decide) (hts (.fieldLink RX11 83 RX11 "at" "I") (by decide +kernel)) (fun _ h9 => h9) rfl dX11_step_207 ?_
        refine lv_aload_n hx hb dX11_step_210 rfl (lv_at hl 0 rfl) ?_
        refine va_get (D := D) (ci := 11) (v := .int (w23 0 14)) (C := RX11) (T := TX11) (N := 30) hx hb hts iX11_step_X11 hown hK hP 0 mw_0 rfl 14 (by decide) (hts (.fieldLink RX11 90 RX11 "stands" "I") (by decide +kernel)) (fun _ h9 => h9) rfl dX11_step_211 ?_
        refine lv_isub hx hb dX11_step_214 ?_
        refine lv_iconst (v := 1) hx hb dX11_step_215 (by decide) ?_
        refine lv_icmp_ne (tgt := 223) hx hb dX11_step_216 (by decide) (fun c216 => ?_) (fun c216 => ?_)
        · replace h := k_in c216 h
          refine lv_iconst (v := 0) hx hb dX11_step_223 (by decide) ?_
          refine va_put (D := D) (ci := 11) (v := .int 0) (ty := .int) (C := RX11) (T := TX11) (N := 30) hx hb hts iX11_step_X11 tyX11 tyX11_ok nmX11 hown hK hP (mw_D hap) hS 0 mw_0 rfl 16 (by decide) (hts (.fieldLink RX11 93 RX11 "value" "I") (by decide +kernel)) (fun _ h9 => h9) rfl (by decide +kernel) rfl rfl (Nat.le_of_ble_eq_true rfl) dX11_step_224 (fun H locs hP _ hS => ?_)
          have hP := mw_s0_16 hP
          obtain ⟨σ25, e26, h⟩ := k_bd h
          rw [k_sm e26] at hP
          refine lv_aload_n hx hb dX11_step_227 rfl (lv_at hl 0 rfl) ?_
          refine lv_iconst (v := 1) hx hb dX11_step_228 (by decide) ?_
          refine va_put (D := D) (ci := 11) (v := .int 1) (ty := .int) (C := RX11) (T := TX11) (N := 30) hx hb hts iX11_step_X11 tyX11 tyX11_ok nmX11 hown hK hP (mw_D hap) hS 0 mw_0 rfl 15 (by decide) (hts (.fieldLink RX11 96 RX11 "sort" "I") (by decide +kernel)) (fun _ h9 => h9) rfl (by decide +kernel) rfl rfl (Nat.le_of_ble_eq_true rfl) dX11_step_229 (fun H locs hP _ hS => ?_)
          have hP := mw_s0_15 hP
          obtain ⟨σ27, e28, h⟩ := k_bd h
          rw [k_sm e28] at hP
          refine lv_goto (tgt := 260) hx hb dX11_step_232 (by decide) ?_
          obtain rfl := k_sm h
          exact W.vret hx hb hr (fun t ht hW => ⟨⟨_, rfl, rfl, pw_end ht hP⟩, hS.F ht⟩) hS.2.2 dX11_step_260
        · replace h := k_ip c216 h
          refine lv_iload_n hx hb dX11_step_219 rfl (lv_at hl 1 rfl) ?_
          refine lv_goto (tgt := 224) hx hb dX11_step_220 (by decide) ?_
          refine va_put (D := D) (ci := 11) (v := .int v11) (ty := .int) (C := RX11) (T := TX11) (N := 30) hx hb hts iX11_step_X11 tyX11 tyX11_ok nmX11 hown hK hP (mw_D hap) hS 0 mw_0 rfl 16 (by decide) (hts (.fieldLink RX11 93 RX11 "value" "I") (by decide +kernel)) (fun _ h9 => h9) rfl (by decide +kernel) rfl rfl (Nat.le_of_ble_eq_true rfl) dX11_step_224 (fun H locs hP _ hS => ?_)
          have hP := mw_s0_16 hP
          obtain ⟨σ29, e30, h⟩ := k_bd h
          rw [k_sm e30] at hP
          refine lv_aload_n hx hb dX11_step_227 rfl (lv_at hl 0 rfl) ?_
          refine lv_iconst (v := 1) hx hb dX11_step_228 (by decide) ?_
          refine va_put (D := D) (ci := 11) (v := .int 1) (ty := .int) (C := RX11) (T := TX11) (N := 30) hx hb hts iX11_step_X11 tyX11 tyX11_ok nmX11 hown hK hP (mw_D hap) hS 0 mw_0 rfl 15 (by decide) (hts (.fieldLink RX11 96 RX11 "sort" "I") (by decide +kernel)) (fun _ h9 => h9) rfl (by decide +kernel) rfl rfl (Nat.le_of_ble_eq_true rfl) dX11_step_229 (fun H locs hP _ hS => ?_)
          have hP := mw_s0_15 hP
          obtain ⟨σ31, e32, h⟩ := k_bd h
          rw [k_sm e32] at hP
          refine lv_goto (tgt := 260) hx hb dX11_step_232 (by decide) ?_
          obtain rfl := k_sm h
          exact W.vret hx hb hr (fun t ht hW => ⟨⟨_, rfl, rfl, pw_end ht hP⟩, hS.F ht⟩) hS.2.2 dX11_step_260
    · replace h := k_in c62 h
      obtain ⟨w45, e46, h⟩ := k_bd h
      refine bX11_step_L65 C0 hK hN hap v11 2000 σ9 _ _ _ ls hP hS (lv_sub hl [1, 0] rfl) e46 (fun H locs ls hP hS hl => ?_)
      refine lv_aload_n hx hb dX11_step_127 rfl (lv_at hl 0 rfl) ?_
      refine lv_aload_n hx hb dX11_step_128 rfl (lv_at hl 0 rfl) ?_
      refine va_get (D := D) (ci := 11) (v := .int (w45 0 16)) (C := RX11) (T := TX11) (N := 30) hx hb hts iX11_step_X11 hown hK hP 0 mw_0 rfl 16 (by decide) (hts (.fieldLink RX11 93 RX11 "value" "I") (by decide +kernel)) (fun _ h9 => h9) rfl dX11_step_129 ?_
      refine lv_bipush (v := 99) hx hb dX11_step_132 (by decide) ?_
      refine lv_icmp_gt (tgt := 156) hx hb dX11_step_134 (by decide) (fun c134 => ?_) (fun c134 => ?_)
      · replace h := k_ip c134 h
        refine lv_iconst (v := 5) hx hb dX11_step_156 (by decide) ?_
        refine lv_goto (tgt := 161) hx hb dX11_step_157 (by decide) ?_
        refine va_put (D := D) (ci := 11) (v := .int 5) (ty := .int) (C := RX11) (T := TX11) (N := 30) hx hb hts iX11_step_X11 tyX11 tyX11_ok nmX11 hown hK hP (mw_D hap) hS 0 mw_0 rfl 15 (by decide) (hts (.fieldLink RX11 96 RX11 "sort" "I") (by decide +kernel)) (fun _ h9 => h9) rfl (by decide +kernel) rfl rfl (Nat.le_of_ble_eq_true rfl) dX11_step_161 (fun H locs hP _ hS => ?_)
        have hP := mw_s0_15 hP
        obtain ⟨σ47, e48, h⟩ := k_bd h
        rw [k_sm e48] at hP
        refine lv_goto (tgt := 260) hx hb dX11_step_164 (by decide) ?_
        obtain rfl := k_sm h
        exact W.vret hx hb hr (fun t ht hW => ⟨⟨_, rfl, rfl, pw_end ht hP⟩, hS.F ht⟩) hS.2.2 dX11_step_260
      · replace h := k_in c134 h
        refine lv_iload_n hx hb dX11_step_137 rfl (lv_at hl 1 rfl) ?_
        refine lv_bipush (v := 48) hx hb dX11_step_138 (by decide) ?_
        refine lv_icmp_ne (tgt := 160) hx hb dX11_step_140 (by decide) (fun c140 => ?_) (fun c140 => ?_)
        · replace h := k_in c140 h
          refine lv_iconst (v := 2) hx hb dX11_step_160 (by decide) ?_
          refine va_put (D := D) (ci := 11) (v := .int 2) (ty := .int) (C := RX11) (T := TX11) (N := 30) hx hb hts iX11_step_X11 tyX11 tyX11_ok nmX11 hown hK hP (mw_D hap) hS 0 mw_0 rfl 15 (by decide) (hts (.fieldLink RX11 96 RX11 "sort" "I") (by decide +kernel)) (fun _ h9 => h9) rfl (by decide +kernel) rfl rfl (Nat.le_of_ble_eq_true rfl) dX11_step_161 (fun H locs hP _ hS => ?_)
          have hP := mw_s0_15 hP
          obtain ⟨σ49, e50, h⟩ := k_bd h
          rw [k_sm e50] at hP
          refine lv_goto (tgt := 260) hx hb dX11_step_164 (by decide) ?_
          obtain rfl := k_sm h
          exact W.vret hx hb hr (fun t ht hW => ⟨⟨_, rfl, rfl, pw_end ht hP⟩, hS.F ht⟩) hS.2.2 dX11_step_260
        · replace h := k_ip c140 h
          refine lv_aload_n hx hb dX11_step_143 rfl (lv_at hl 0 rfl) ?_
          refine va_get (D := D) (ci := 11) (v := .int (w45 0 13)) (C := RX11) (T := TX11) (N := 30) hx hb hts iX11_step_X11 hown hK hP 0 mw_0 rfl 13 (by decide) (hts (.fieldLink RX11 83 RX11 "at" "I") (by decide +kernel)) (fun _ h9 => h9) rfl dX11_step_144 ?_
          refine lv_aload_n hx hb dX11_step_147 rfl (lv_at hl 0 rfl) ?_
          refine va_get (D := D) (ci := 11) (v := .int (w45 0 14)) (C := RX11) (T := TX11) (N := 30) hx hb hts iX11_step_X11 hown hK hP 0 mw_0 rfl 14 (by decide) (hts (.fieldLink RX11 90 RX11 "stands" "I") (by decide +kernel)) (fun _ h9 => h9) rfl dX11_step_148 ?_
          refine lv_isub hx hb dX11_step_151 ?_
          refine lv_iconst (v := 1) hx hb dX11_step_152 (by decide) ?_
          refine lv_icmp_le (tgt := 160) hx hb dX11_step_153 (by decide) (fun c153 => ?_) (fun c153 => ?_)
          · replace h := k_ip c153 h
            refine lv_iconst (v := 2) hx hb dX11_step_160 (by decide) ?_
            refine va_put (D := D) (ci := 11) (v := .int 2) (ty := .int) (C := RX11) (T := TX11) (N := 30) hx hb hts iX11_step_X11 tyX11 tyX11_ok nmX11 hown hK hP (mw_D hap) hS 0 mw_0 rfl 15 (by decide) (hts (.fieldLink RX11 96 RX11 "sort" "I") (by decide +kernel)) (fun _ h9 => h9) rfl (by decide +kernel) rfl rfl (Nat.le_of_ble_eq_true rfl) dX11_step_161 (fun H locs hP _ hS => ?_)
            have hP := mw_s0_15 hP
            obtain ⟨σ51, e52, h⟩ := k_bd h
            rw [k_sm e52] at hP
            refine lv_goto (tgt := 260) hx hb dX11_step_164 (by decide) ?_
            obtain rfl := k_sm h
            exact W.vret hx hb hr (fun t ht hW => ⟨⟨_, rfl, rfl, pw_end ht hP⟩, hS.F ht⟩) hS.2.2 dX11_step_260
          · replace h := k_in c153 h
            refine lv_iconst (v := 5) hx hb dX11_step_156 (by decide) ?_
            refine lv_goto (tgt := 161) hx hb dX11_step_157 (by decide) ?_
            refine va_put (D := D) (ci := 11) (v := .int 5) (ty := .int) (C := RX11) (T := TX11) (N := 30) hx hb hts iX11_step_X11 tyX11 tyX11_ok nmX11 hown hK hP (mw_D hap) hS 0 mw_0 rfl 15 (by decide) (hts (.fieldLink RX11 96 RX11 "sort" "I") (by decide +kernel)) (fun _ h9 => h9) rfl (by decide +kernel) rfl rfl (Nat.le_of_ble_eq_true rfl) dX11_step_161 (fun H locs hP _ hS => ?_)
            have hP := mw_s0_15 hP
            obtain ⟨σ53, e54, h⟩ := k_bd h
            rw [k_sm e54] at hP
            refine lv_goto (tgt := 260) hx hb dX11_step_164 (by decide) ?_
            obtain rfl := k_sm h
            exact W.vret hx hb hr (fun t ht hW => ⟨⟨_, rfl, rfl, pw_end ht hP⟩, hS.F ht⟩) hS.2.2 dX11_step_260
  · replace h := k_ip c43 h
    refine lv_aload_n hx hb dX11_step_46 rfl (lv_at hl 1 rfl) ?_
    refine lv_iconst (v := 4) hx hb dX11_step_47 (by decide) ?_
    refine va_put (D := D) (ci := 11) (v := .int 4) (ty := .int) (C := RX11) (T := TX11) (N := 30) hx hb hts iX11_step_X11 tyX11 tyX11_ok nmX11 hown hK hP (mw_D hap) hS 0 mw_0 rfl 15 (by decide) (hts (.fieldLink RX11 96 RX11 "sort" "I") (by decide +kernel)) (fun _ h9 => h9) rfl (by decide +kernel) rfl rfl (Nat.le_of_ble_eq_true rfl) dX11_step_48 (fun H locs hP _ hS => ?_)
    have hP := mw_s0_15 hP
    obtain ⟨σ55, e56, h⟩ := k_bd h
    rw [k_sm e56] at hP
    refine lv_goto (tgt := 260) hx hb dX11_step_51 (by decide) ?_
    obtain rfl := k_sm h
    exact W.vret hx hb hr (fun t ht hW => ⟨⟨_, rfl, rfl, pw_end ht hP⟩, hS.F ht⟩) hS.2.2 dX11_step_260
set_option maxHeartbeats 4000000 in
set_option maxRecDepth 100000 in
theorem kX11_due (l : Launch) {D : va_G} {cI cB cZ : ClassId} {am : Nat → Nat} {τ : Int64} (hap : mwX am) (σ : Sg) (x1 : Int32) (o : Sg) (h : pX11_due σ x1 = some o) : Met l yX11_due wsX11_due rmX11_due (va_Pc [.ref (am 0), .int x1] (PW D cI cB cZ (MW cI cB cZ am τ σ))) (QV D (MW cI cB cZ am τ) (mwA am) o) 0 0 (mwA am) := by
  refine Met.ofW (cc := cX11_due) (maxL := 2) (ret := none) (by decide) rfl ?_
  intro p e s m args below meth c s₁ B hml hv
  obtain ⟨rfl, hP, hK, hN⟩ := hv
  have C0 : Cx p s m _ meth c cX11_due 2 none RX11 wsX11_due := ⟨⟨B.exec, B.bytes, hml, findClass_of_methodNamed B.named, atoms_spec B.pre⟩, B.returns, B.notSynchronized⟩
  obtain ⟨⟨hx, hb, -, hown, hts⟩, hr, hlk⟩ := id C0
  have hS : va_S (mwA am) s.heap s.heap [] := va_S.rf
  have hl := lv_entry ([.ref (am 0), .int x1]) (n := 2) (Nat.le_of_ble_eq_true rfl)
  rw [lg_entry_eq]
  generalize (lg_sl ([.ref (am 0), .int x1]) ++ List.replicate (2 - (lg_sl ([.ref (am 0), .int x1])).length) Slot.unset).toArray = ls at hl ⊢
  have hl : lv_has ls 2 [(0, .ref (am 0)), (1, .int x1)] := hl
  rw [pX11_due] at h
  refine lv_aload_n hx hb dX11_due_0 rfl (lv_at hl 0 rfl) ?_
  refine va_get (D := D) (ci := 11) (v := .int (σ 0 17)) (C := RX11) (T := TX11) (N := 30) hx hb hts iX11_due_X11 hown hK hP 0 mw_0 rfl 17 (by decide) (hts (.fieldLink RX11 99 RX11 "isWrong" "Z") (by decide +kernel)) (fun _ h9 => h9) rfl dX11_due_1 ?_
  refine lv_if_eq (tgt := 8) hx hb dX11_due_4 (by decide) (fun c4 => ?_) (fun c4 => ?_)
  · replace h := k_ip c4 h
    refine lv_iload_n hx hb dX11_due_8 rfl (lv_at hl 1 rfl) ?_
    refine lv_if_eq (tgt := 19) hx hb dX11_due_9 (by decide) (fun c9 => ?_) (fun c9 => ?_)
    · replace h := k_ip c9 h
      refine lv_aload_n hx hb dX11_due_19 rfl (lv_at hl 0 rfl) ?_
      refine lv_iconst (v := 1) hx hb dX11_due_20 (by decide) ?_
      refine va_put (D := D) (ci := 11) (v := .int 1) (ty := .boolean) (C := RX11) (T := TX11) (N := 30) hx hb hts iX11_due_X11 tyX11 tyX11_ok nmX11 hown hK hP (mw_D hap) hS 0 mw_0 rfl 17 (by decide) (hts (.fieldLink RX11 99 RX11 "isWrong" "Z") (by decide +kernel)) (fun _ h9 => h9) rfl (by decide +kernel) rfl rfl (Nat.le_of_ble_eq_true rfl) dX11_due_21 (fun H locs hP _ hS => ?_)
      have hP := mw_s0_17 hP
      obtain ⟨σ1, e2, h⟩ := k_bd h
      rw [k_sm e2] at hP
      obtain rfl := k_sm h
      exact W.vret hx hb hr (fun t ht hW => ⟨⟨_, rfl, rfl, pw_end ht hP⟩, hS.F ht⟩) hS.2.2 dX11_due_24
    · replace h := k_in c9 h
      refine lv_aload_n hx hb dX11_due_12 rfl (lv_at hl 0 rfl) ?_
      obtain ⟨u3, e4, h⟩ := k_bd h
      refine wr_callv (va_runV (As := []) (rest := []) C0.1 (kX11_step l (D := D) (cI := cI) (cB := cB) (cZ := cZ) (τ := τ) hap σ  _ e4) (wX11_due_X11_step hts ⟨Nat.le_of_ble_eq_true rfl, Nat.le_of_ble_eq_true rfl⟩) ⟨PW.blind, mw_r0 hK hP, PW.mk hP hK hN⟩ rfl rfl hl.1 rfl (lv_room (Nat.le_of_ble_eq_true rfl)) dX11_due_13 ⟨Nat.zero_le _, Nat.zero_le _⟩) hS (fun _ h => h) (fun H locs hP hS => ?_)
      have hP : va_P D vwCl (MW cI cB cZ am τ u3) H := hP
      refine lv_goto (tgt := 24) hx hb dX11_due_16 (by decide) ?_
      obtain rfl := k_sm h
      exact W.vret hx hb hr (fun t ht hW => ⟨⟨_, rfl, rfl, pw_end ht hP⟩, hS.F ht⟩) hS.2.2 dX11_due_24
  · replace h := k_in c4 h
    obtain rfl := k_sm h
    exact W.vret hx hb hr (fun t ht hW => ⟨⟨_, rfl, rfl, pw_end ht hP⟩, hS.F ht⟩) hS.2.2 dX11_due_7
set_option maxHeartbeats 4000000 in
set_option maxRecDepth 100000 in
theorem kX11_number (l : Launch) {D : va_G} {cI cB cZ : ClassId} {am : Nat → Nat} {τ : Int64} (hap : mwX am) (σ : Sg) (x1 : Int32) (x2 : Int32) (o : (Int32 × Sg)) (h : pX11_number σ x1 x2 = some o) : Met l yX11_number wsX11_number rmX11_number (va_Pc [.ref (am 0), .int x1, .int x2] (PW D cI cB cZ (MW cI cB cZ am τ σ))) (QI D (MW cI cB cZ am τ) (mwA am) o.1 o.2) 0 0 (mwA am) := by
  refine Met.ofW (cc := cX11_number) (maxL := 4) (ret := (some .int)) (by decide) rfl ?_
  intro p e s m args below meth c s₁ B hml hv
  obtain ⟨rfl, hP, hK, hN⟩ := hv
  have C0 : Cx p s m _ meth c cX11_number 4 (some .int) RX11 wsX11_number := ⟨⟨B.exec, B.bytes, hml, findClass_of_methodNamed B.named, atoms_spec B.pre⟩, B.returns, B.notSynchronized⟩
  obtain ⟨⟨hx, hb, -, hown, hts⟩, hr, hlk⟩ := id C0
  have hS : va_S (mwA am) s.heap s.heap [] := va_S.rf
  have hl := lv_entry ([.ref (am 0), .int x1, .int x2]) (n := 4) (Nat.le_of_ble_eq_true rfl)
  rw [lg_entry_eq]
  generalize (lg_sl ([.ref (am 0), .int x1, .int x2]) ++ List.replicate (4 - (lg_sl ([.ref (am 0), .int x1, .int x2])).length) Slot.unset).toArray = ls at hl ⊢
  have hl : lv_has ls 4 [(0, .ref (am 0)), (1, .int x1), (2, .int x2)] := hl
  rw [pX11_number] at h
  refine lv_aload_n hx hb dX11_number_0 rfl (lv_at hl 0 rfl) ?_
  refine va_get (D := D) (ci := 11) (v := .int (σ 0 16)) (C := RX11) (T := TX11) (N := 30) hx hb hts iX11_number_X11 hown hK hP 0 mw_0 rfl 16 (by decide) (hts (.fieldLink RX11 93 RX11 "value" "I") (by decide +kernel)) (fun _ h9 => h9) rfl dX11_number_1 ?_
  obtain ⟨v1, e2, h⟩ := k_bd h
  refine lv_nmi (k_sm e2) ?_
  refine lv_istore_n (lv' := [(3, .int v1), (0, .ref (am 0)), (1, .int x1), (2, .int x2)]) hx hb dX11_number_4 rfl hl (by decide) rfl (fun ls hl => ?_)
  refine lv_aload_n hx hb dX11_number_5 rfl (lv_at hl 1 rfl) ?_
  refine lv_aload_n hx hb dX11_number_6 rfl (lv_at hl 1 rfl) ?_
  refine va_get (D := D) (ci := 11) (v := .int (σ 0 15)) (C := RX11) (T := TX11) (N := 30) hx hb hts iX11_number_X11 hown hK hP 0 mw_0 rfl 15 (by decide) (hts (.fieldLink RX11 96 RX11 "sort" "I") (by decide +kernel)) (fun _ h9 => h9) rfl dX11_number_7 ?_
  refine lv_iconst (v := 2) hx hb dX11_number_10 (by decide) ?_
  refine lv_icmp_ne (tgt := 27) hx hb dX11_number_11 (by decide) (fun c11 => ?_) (fun c11 => ?_)
  · replace h := k_in c11 h
    refine lv_iconst (v := 0) hx hb dX11_number_27 (by decide) ?_
    obtain ⟨u3, e4, h⟩ := k_bd h
    refine wr_callv (va_runV (As := [.int 0]) (rest := []) C0.1 (kX11_due l (D := D) (cI := cI) (cB := cB) (cZ := cZ) (τ := τ) hap σ 0 _ e4) (wX11_number_X11_due hts ⟨Nat.le_of_ble_eq_true rfl, Nat.le_of_ble_eq_true rfl⟩) ⟨PW.blind, mw_r0 hK hP, PW.mk hP hK hN⟩ rfl rfl hl.1 rfl (lv_room (Nat.le_of_ble_eq_true rfl)) dX11_number_28 ⟨Nat.zero_le _, Nat.zero_le _⟩) hS (fun _ h => h) (fun H locs hP hS => ?_)
    have hP : va_P D vwCl (MW cI cB cZ am τ u3) H := hP
    refine lv_iload_n hx hb dX11_number_31 rfl (lv_at hl 0 rfl) ?_
    obtain rfl := k_sm h
    exact W.iret hx hb hr (fun t ht hW => ⟨⟨_, _, rfl, ⟨rfl, rfl⟩, pw_end ht hP⟩, hS.F ht⟩) hS.2.2 dX11_number_32
  · replace h := k_ip c11 h
    refine lv_iload_n hx hb dX11_number_14 rfl (lv_at hl 0 rfl) ?_
    refine lv_iload_n hx hb dX11_number_15 rfl (lv_at hl 2 rfl) ?_
    refine lv_iload_n hx hb dX11_number_16 rfl (lv_at hl 3 rfl) ?_
    refine rd_calli (va_runS (As := [.int v1, .int x1, .int x2]) (rest := [.ref (am 0)]) C0.1 (kX11_in l v1 x1 x2) (wX11_number_X11_in hts ⟨Nat.le_of_ble_eq_true rfl, Nat.le_of_ble_eq_true rfl⟩) ⟨PT.blind, fun _ _ _ => ⟨rfl, trivial⟩⟩ rfl rfl hl.1 rfl (lv_room (Nat.le_of_ble_eq_true rfl)) dX11_number_17 ⟨Nat.zero_le _, Nat.zero_le _⟩) ?_
    refine lv_if_eq (tgt := 27) hx hb dX11_number_20 (by decide) (fun c20 => ?_) (fun c20 => ?_)
    · replace h := k_ip c20 h
      refine lv_iconst (v := 0) hx hb dX11_number_27 (by decide) ?_
      obtain ⟨u5, e6, h⟩ := k_bd h
      refine wr_callv (va_runV (As := [.int 0]) (rest := []) C0.1 (kX11_due l (D := D) (cI := cI) (cB := cB) (cZ := cZ) (τ := τ) hap σ 0 _ e6) (wX11_number_X11_due hts ⟨Nat.le_of_ble_eq_true rfl, Nat.le_of_ble_eq_true rfl⟩) ⟨PW.blind, mw_r0 hK hP, PW.mk hP hK hN⟩ rfl rfl hl.1 rfl (lv_room (Nat.le_of_ble_eq_true rfl)) dX11_number_28 ⟨Nat.zero_le _, Nat.zero_le _⟩) hS (fun _ h => h) (fun H locs hP hS => ?_)
      have hP : va_P D vwCl (MW cI cB cZ am τ u5) H := hP
      refine lv_iload_n hx hb dX11_number_31 rfl (lv_at hl 0 rfl) ?_
      obtain rfl := k_sm h
      exact W.iret hx hb hr (fun t ht hW => ⟨⟨_, _, rfl, ⟨rfl, rfl⟩, pw_end ht hP⟩, hS.F ht⟩) hS.2.2 dX11_number_32
    · replace h := k_in c20 h
      refine lv_iconst (v := 1) hx hb dX11_number_23 (by decide) ?_
      refine lv_goto (tgt := 28) hx hb dX11_number_24 (by decide) ?_
      obtain ⟨u7, e8, h⟩ := k_bd h
      refine wr_callv (va_runV (As := [.int 1]) (rest := []) C0.1 (kX11_due l (D := D) (cI := cI) (cB := cB) (cZ := cZ) (τ := τ) hap σ 1 _ e8) (wX11_number_X11_due hts ⟨Nat.le_of_ble_eq_true rfl, Nat.le_of_ble_eq_true rfl⟩) ⟨PW.blind, mw_r0 hK hP, PW.mk hP hK hN⟩ rfl rfl hl.1 rfl (lv_room (Nat.le_of_ble_eq_true rfl)) dX11_number_28 ⟨Nat.zero_le _, Nat.zero_le _⟩) hS (fun _ h => h) (fun H locs hP hS => ?_)
      have hP : va_P D vwCl (MW cI cB cZ am τ u7) H := hP
      refine lv_iload_n hx hb dX11_number_31 rfl (lv_at hl 0 rfl) ?_
      obtain rfl := k_sm h
      exact W.iret hx hb hr (fun t ht hW => ⟨⟨_, _, rfl, ⟨rfl, rfl⟩, pw_end ht hP⟩, hS.F ht⟩) hS.2.2 dX11_number_32
set_option maxHeartbeats 4000000 in
set_option maxRecDepth 100000 in
theorem kX11_rope (l : Launch) {D : va_G} {cI cB cZ : ClassId} {am : Nat → Nat} {τ : Int64} (hap : mwX am) (σ : Sg) (o : Sg) (h : pX11_rope σ = some o) : Met l yX11_rope wsX11_rope rmX11_rope (va_Pc [.ref (am 0)] (PW D cI cB cZ (MW cI cB cZ am τ σ))) (QV D (MW cI cB cZ am τ) (mwA am) o) 0 0 (mwA am) := by
  refine Met.ofW (cc := cX11_rope) (maxL := 3) (ret := none) (by decide) rfl ?_
  intro p e s m args below meth c s₁ B hml hv
  obtain ⟨rfl, hP, hK, hN⟩ := hv
  have C0 : Cx p s m _ meth c cX11_rope 3 none RX11 wsX11_rope := ⟨⟨B.exec, B.bytes, hml, findClass_of_methodNamed B.named, atoms_spec B.pre⟩, B.returns, B.notSynchronized⟩
  obtain ⟨⟨hx, hb, -, hown, hts⟩, hr, hlk⟩ := id C0
  have hS : va_S (mwA am) s.heap s.heap [] := va_S.rf
  have hl := lv_entry ([.ref (am 0)]) (n := 3) (Nat.le_of_ble_eq_true rfl)
  rw [lg_entry_eq]
  generalize (lg_sl ([.ref (am 0)]) ++ List.replicate (3 - (lg_sl ([.ref (am 0)])).length) Slot.unset).toArray = ls at hl ⊢
  have hl : lv_has ls 3 [(0, .ref (am 0))] := hl
  rw [pX11_rope] at h
  refine lv_aload_n hx hb dX11_rope_0 rfl (lv_at hl 0 rfl) ?_
  refine lv_iconst (v := 0) hx hb dX11_rope_1 (by decide) ?_
  refine lv_aload_n hx hb dX11_rope_2 rfl (lv_at hl 0 rfl) ?_
  refine va_get (D := D) (ci := 11) (v := .ref (am 4)) (C := RX11) (T := TX11) (N := 30) hx hb hts iX11_rope_X11 hown hK hP 0 mw_0 rfl 4 (by decide) (hts (.fieldLink RX11 20 RX11 "rafts" "[I") (by decide +kernel)) (fun _ h9 => h9) rfl dX11_rope_3 ?_
  refine lv_iconst (v := 1) hx hb dX11_rope_6 (by decide) ?_
  obtain ⟨v1, e2, h⟩ := k_bd h
  refine va_iald hx hb hK hP 4 0 mw_4 rfl (k_rd e2).1 dX11_rope_7 ?_
  refine lv_nmi (k_rd e2).2 ?_
  refine lv_iconst (v := 1) hx hb dX11_rope_8 (by decide) ?_
  refine lv_isub hx hb dX11_rope_9 ?_
  obtain ⟨u3, e4, h⟩ := k_bd h
  refine wr_calli (va_runV (As := [.int 0, .int (v1 - 1)]) (rest := []) C0.1 (kX11_number l (D := D) (cI := cI) (cB := cB) (cZ := cZ) (τ := τ) hap σ 0 (v1 - 1) _ e4) (wX11_rope_X11_number hts ⟨Nat.le_of_ble_eq_true rfl, Nat.le_of_ble_eq_true rfl⟩) ⟨PW.blind, mw_r0 hK hP, PW.mk hP hK hN⟩ rfl rfl hl.1 rfl (lv_room (Nat.le_of_ble_eq_true rfl)) dX11_rope_10 ⟨Nat.zero_le _, Nat.zero_le _⟩) hS (fun _ h => h) (fun H locs hP hS => ?_)
  have hP : va_P D vwCl (MW cI cB cZ am τ u3.2) H := hP
  refine lv_istore_n (lv' := [(1, .int u3.1), (0, .ref (am 0))]) hx hb dX11_rope_13 rfl hl (by decide) rfl (fun ls hl => ?_)
  refine lv_aload_n hx hb dX11_rope_14 rfl (lv_at hl 1 rfl) ?_
  refine va_get (D := D) (ci := 11) (v := .int (u3.2 0 16)) (C := RX11) (T := TX11) (N := 30) hx hb hts iX11_rope_X11 hown hK hP 0 mw_0 rfl 16 (by decide) (hts (.fieldLink RX11 93 RX11 "value" "I") (by decide +kernel)) (fun _ h9 => h9) rfl dX11_rope_15 ?_
  obtain ⟨v5, e6, h⟩ := k_bd h
  refine lv_nmi (k_sm e6) ?_
  refine lv_istore_n (lv' := [(2, .int v5), (1, .int u3.1), (0, .ref (am 0))]) hx hb dX11_rope_18 rfl hl (by decide) rfl (fun ls hl => ?_)
  refine lv_aload_n hx hb dX11_rope_19 rfl (lv_at hl 2 rfl) ?_
  refine lv_aload_n hx hb dX11_rope_20 rfl (lv_at hl 2 rfl) ?_
  refine va_get (D := D) (ci := 11) (v := .int (u3.2 0 15)) (C := RX11) (T := TX11) (N := 30) hx hb hts iX11_rope_X11 hown hK hP 0 mw_0 rfl 15 (by decide) (hts (.fieldLink RX11 96 RX11 "sort" "I") (by decide +kernel)) (fun _ h9 => h9) rfl dX11_rope_21 ?_
  refine lv_iconst (v := 2) hx hb dX11_rope_24 (by decide) ?_
  obtain ⟨j7, e10, h⟩ := k_bd h
  have key : ∀ (H : Heap) (locs : List Loc) (ls : Array Slot), va_P D vwCl (MW cI cB cZ am τ u3.2) H → va_S (mwA am) s.heap H locs → lv_has ls 3 [(0, .ref (am 0)), (1, .int u3.1), (2, .int v5)] → W p l e rmX11_rope s m ([.ref (am 0)] : List Value).toArray below meth c H locs 0 0 (MQ below (QV D (MW cI cB cZ am τ) (mwA am) o) ([.ref (am 0)] : List Value).toArray s 0 0 (mwA am)) (F0 m 48 ls [.int j7, .ref (am 0)]) := by
    intro H locs ls hP hS hl
    obtain ⟨u11, e12, h⟩ := k_bd h
    refine wr_callv (va_runV (As := [.int j7]) (rest := []) C0.1 (kX11_due l (D := D) (cI := cI) (cB := cB) (cZ := cZ) (τ := τ) hap u3.2 j7 _ e12) (wX11_rope_X11_due hts ⟨Nat.le_of_ble_eq_true rfl, Nat.le_of_ble_eq_true rfl⟩) ⟨PW.blind, mw_r0 hK hP, PW.mk hP hK hN⟩ rfl rfl hl.1 rfl (lv_room (Nat.le_of_ble_eq_true rfl)) dX11_rope_48 ⟨Nat.zero_le _, Nat.zero_le _⟩) hS (fun _ h => h) (fun H locs hP hS => ?_)
    have hP : va_P D vwCl (MW cI cB cZ am τ u11) H := hP
    refine lv_aload_n hx hb dX11_rope_51 rfl (lv_at hl 0 rfl) ?_
    refine va_get (D := D) (ci := 11) (v := .int (u11 0 17)) (C := RX11) (T := TX11) (N := 30) hx hb hts iX11_rope_X11 hown hK hP 0 mw_0 rfl 17 (by decide) (hts (.fieldLink RX11 99 RX11 "isWrong" "Z") (by decide +kernel)) (fun _ h9 => h9) rfl dX11_rope_52 ?_
    refine lv_if_ne (tgt := 88) hx hb dX11_rope_55 (by decide) (fun c55 => ?_) (fun c55 => ?_)
    · replace h := k_in c55 h
      obtain rfl := k_sm h
      exact W.vret hx hb hr (fun t ht hW => ⟨⟨_, rfl, rfl, pw_end ht hP⟩, hS.F ht⟩) hS.2.2 dX11_rope_88
    · replace h := k_ip c55 h
      refine lv_aload_n hx hb dX11_rope_58 rfl (lv_at hl 0 rfl) ?_
      refine va_get (D := D) (ci := 11) (v := .ref (am 6)) (C := RX11) (T := TX11) (N := 30) hx hb hts iX11_rope_X11 hown hK hP 0 mw_0 rfl 6 (by decide) (hts (.fieldLink RX11 26 RX11 "roped" "[I") (by decide +kernel)) (fun _ h9 => h9) rfl dX11_rope_59 ?_
      refine lv_bipush (v := 6) hx hb dX11_rope_62 (by decide) ?_
      refine lv_iload_n hx hb dX11_rope_64 rfl (lv_at hl 1 rfl) ?_
      refine lv_iadd hx hb dX11_rope_65 ?_
      refine lv_dup2_11 hx hb dX11_rope_66 rfl rfl ?_
      obtain ⟨v13, e14, h⟩ := k_bd h
      refine va_iald hx hb hK hP 6 0 mw_6 rfl (k_rd e14).1 dX11_rope_67 ?_
      refine lv_nmi (k_rd e14).2 ?_
      refine lv_iconst (v := 1) hx hb dX11_rope_68 (by decide) ?_
      refine lv_iload_n hx hb dX11_rope_69 rfl (lv_at hl 2 rfl) ?_
      refine lv_ishl hx hb dX11_rope_70 ?_
      refine lv_ior hx hb dX11_rope_71 ?_
      obtain ⟨σ15, e16, h⟩ := k_bd h
      refine va_iast hx hb hK hP (mw_D hap) hS 6 0 mw_6 rfl (k_wr e16).1 dX11_rope_72 (fun H locs hP _ hS => ?_)
      have hP := mw_s6 hP
      rw [(k_wr e16).2] at hP
      refine lv_aload_n hx hb dX11_rope_73 rfl (lv_at hl 0 rfl) ?_
      refine va_get (D := D) (ci := 11) (v := .ref (am 6)) (C := RX11) (T := TX11) (N := 30) hx hb hts iX11_rope_X11 hown hK hP 0 mw_0 rfl 6 (by decide) (hts (.fieldLink RX11 26 RX11 "roped" "[I") (by decide +kernel)) (fun _ h9 => h9) rfl dX11_rope_74 ?_
      refine lv_bipush (v := 6) hx hb dX11_rope_77 (by decide) ?_
      refine lv_iload_n hx hb dX11_rope_79 rfl (lv_at hl 2 rfl) ?_
      refine lv_iadd hx hb dX11_rope_80 ?_
      refine lv_dup2_11 hx hb dX11_rope_81 rfl rfl ?_
      obtain ⟨v17, e18, h⟩ := k_bd h
      refine va_iald hx hb hK hP 6 0 mw_6 rfl (k_rd e18).1 dX11_rope_82 ?_
      refine lv_nmi (k_rd e18).2 ?_
      refine lv_iconst (v := 1) hx hb dX11_rope_83 (by decide) ?_
      refine lv_iload_n hx hb dX11_rope_84 rfl (lv_at hl 1 rfl) ?_
      refine lv_ishl hx hb dX11_rope_85 ?_
      refine lv_ior hx hb dX11_rope_86 ?_
      obtain ⟨σ19, e20, h⟩ := k_bd h
      refine va_iast hx hb hK hP (mw_D hap) hS 6 0 mw_6 rfl (k_wr e20).1 dX11_rope_87 (fun H locs hP _ hS => ?_)
      have hP := mw_s6 hP
      rw [(k_wr e20).2] at hP
      obtain rfl := k_sm h
      exact W.vret hx hb hr (fun t ht hW => ⟨⟨_, rfl, rfl, pw_end ht hP⟩, hS.F ht⟩) hS.2.2 dX11_rope_88
  clear h
  have h := e10
  clear e10
  refine lv_icmp_ne (tgt := 47) hx hb dX11_rope_25 (by decide) (fun c25 => ?_) (fun c25 => ?_)
  · replace h := k_in c25 h
    refine lv_iconst (v := 0) hx hb dX11_rope_47 (by decide) ?_
    obtain rfl := k_sm h
    exact key _ _ _ hP hS (lv_sub hl [2, 1, 0] rfl)
  · replace h := k_ip c25 h
    refine lv_iload_n hx hb dX11_rope_28 rfl (lv_at hl 0 rfl) ?_
    refine lv_aload_n hx hb dX11_rope_29 rfl (lv_at hl 2 rfl) ?_
    refine va_get (D := D) (ci := 11) (v := .ref (am 4)) (C := RX11) (T := TX11) (N := 30) hx hb hts iX11_rope_X11 hown hK hP 0 mw_0 rfl 4 (by decide) (hts (.fieldLink RX11 20 RX11 "rafts" "[I") (by decide +kernel)) (fun _ h9 => h9) rfl dX11_rope_30 ?_
    refine lv_iconst (v := 1) hx hb dX11_rope_33 (by decide) ?_
    obtain ⟨v8, e9, h⟩ := k_bd h
    refine va_iald hx hb hK hP 4 0 mw_4 rfl (k_rd e9).1 dX11_rope_34 ?_
    refine lv_nmi (k_rd e9).2 ?_
    refine lv_icmp_ge (tgt := 47) hx hb dX11_rope_35 (by decide) (fun c35 => ?_) (fun c35 => ?_)
    · replace h := k_ip c35 h
      refine lv_iconst (v := 0) hx hb dX11_rope_47 (by decide) ?_
      obtain rfl := k_sm h
      exact key _ _ _ hP hS (lv_sub hl [2, 1, 0] rfl)
    · replace h := k_in c35 h
      refine lv_iload_n hx hb dX11_rope_38 rfl (lv_at hl 0 rfl) ?_
      refine lv_iload_n hx hb dX11_rope_39 rfl (lv_at hl 1 rfl) ?_
      refine lv_icmp_eq (tgt := 47) hx hb dX11_rope_40 (by decide) (fun c40 => ?_) (fun c40 => ?_)
      · replace h := k_ip c40 h
        refine lv_iconst (v := 0) hx hb dX11_rope_47 (by decide) ?_
        obtain rfl := k_sm h
        exact key _ _ _ hP hS (lv_sub hl [2, 1, 0] rfl)
      · replace h := k_in c40 h
        refine lv_iconst (v := 1) hx hb dX11_rope_43 (by decide) ?_
        refine lv_goto (tgt := 48) hx hb dX11_rope_44 (by decide) ?_
        obtain rfl := k_sm h
        exact key _ _ _ hP hS (lv_sub hl [2, 1, 0] rfl)
set_option maxHeartbeats 4000000 in
set_option maxRecDepth 100000 in
theorem kX11_item (l : Launch) {D : va_G} {cI cB cZ : ClassId} {am : Nat → Nat} {τ : Int64} (hap : mwX am) (σ : Sg) (x1 : Int32) (o : Sg) (h : pX11_item σ x1 = some o) : Met l yX11_item wsX11_item rmX11_item (va_Pc [.ref (am 0), .int x1] (PW D cI cB cZ (MW cI cB cZ am τ σ))) (QV D (MW cI cB cZ am τ) (mwA am) o) 0 0 (mwA am) := by
  refine Met.ofW (cc := cX11_item) (maxL := 6) (ret := none) (by decide) rfl ?_
  intro p e s m args below meth c s₁ B hml hv
  obtain ⟨rfl, hP, hK, hN⟩ := hv
  have C0 : Cx p s m _ meth c cX11_item 6 none RX11 wsX11_item := ⟨⟨B.exec, B.bytes, hml, findClass_of_methodNamed B.named, atoms_spec B.pre⟩, B.returns, B.notSynchronized⟩
  obtain ⟨⟨hx, hb, -, hown, hts⟩, hr, hlk⟩ := id C0
  have hS : va_S (mwA am) s.heap s.heap [] := va_S.rf
  have hl := lv_entry ([.ref (am 0), .int x1]) (n := 6) (Nat.le_of_ble_eq_true rfl)
  rw [lg_entry_eq]
  generalize (lg_sl ([.ref (am 0), .int x1]) ++ List.replicate (6 - (lg_sl ([.ref (am 0), .int x1])).length) Slot.unset).toArray = ls at hl ⊢
  have hl : lv_has ls 6 [(0, .ref (am 0)), (1, .int x1)] := hl
  rw [pX11_item] at h
  refine lv_iload_n hx hb dX11_item_0 rfl (lv_at hl 1 rfl) ?_
  by_cases c1_97 : x1 = 97
  · replace h := k_ip c1_97 h
    refine lv_lookup (tgt := 129) hx hb dX11_item_1 (by decide) (by rw [c1_97] <;> rfl) (by decide) ?_
    refine lv_bipush (v := 8) hx hb dX11_item_129 (by decide) ?_
    refine lv_aload_n hx hb dX11_item_131 rfl (lv_at hl 0 rfl) ?_
    refine va_get (D := D) (ci := 11) (v := .ref (am 7)) (C := RX11) (T := TX11) (N := 30) hx hb hts iX11_item_X11 hown hK hP 0 mw_0 rfl 7 (by decide) (hts (.fieldLink RX11 29 RX11 "anchors" "[I") (by decide +kernel)) (fun _ h9 => h9) rfl dX11_item_132 ?_
    refine lv_iconst (v := 1) hx hb dX11_item_135 (by decide) ?_
    obtain ⟨v1, e2, h⟩ := k_bd h
    refine va_iald hx hb hK hP 7 0 mw_7 rfl (k_rd e2).1 dX11_item_136 ?_
    refine lv_nmi (k_rd e2).2 ?_
    refine lv_iadd hx hb dX11_item_137 ?_
    obtain ⟨v3, e4, h⟩ := k_bd h
    refine lv_nmi (k_sm e4) ?_
    refine lv_istore (lv' := [(5, .int v3), (0, .ref (am 0)), (1, .int x1)]) hx hb dX11_item_138 hl (by decide) rfl (fun ls hl => ?_)
    refine lv_aload_n hx hb dX11_item_140 rfl (lv_at hl 1 rfl) ?_
    refine va_get (D := D) (ci := 11) (v := .ref (am 8)) (C := RX11) (T := TX11) (N := 30) hx hb hts iX11_item_X11 hown hK hP 0 mw_0 rfl 8 (by decide) (hts (.fieldLink RX11 32 RX11 "owner" "[I") (by decide +kernel)) (fun _ h9 => h9) rfl dX11_item_141 ?_
    refine lv_iload hx hb dX11_item_144 (lv_at hl 0 rfl) ?_
    refine lv_aload_n hx hb dX11_item_146 rfl (lv_at hl 1 rfl) ?_
    refine lv_iconst (v := 0) hx hb dX11_item_147 (by decide) ?_
    refine lv_aload_n hx hb dX11_item_148 rfl (lv_at hl 1 rfl) ?_
    refine va_get (D := D) (ci := 11) (v := .ref (am 4)) (C := RX11) (T := TX11) (N := 30) hx hb hts iX11_item_X11 hown hK hP 0 mw_0 rfl 4 (by decide) (hts (.fieldLink RX11 20 RX11 "rafts" "[I") (by decide +kernel)) (fun _ h9 => h9) rfl dX11_item_149 ?_
    refine lv_iconst (v := 1) hx hb dX11_item_152 (by decide) ?_
    obtain ⟨v5, e6, h⟩ := k_bd h
    refine va_iald hx hb hK hP 4 0 mw_4 rfl (k_rd e6).1 dX11_item_153 ?_
    refine lv_nmi (k_rd e6).2 ?_
    refine lv_iconst (v := 1) hx hb dX11_item_154 (by decide) ?_
    refine lv_isub hx hb dX11_item_155 ?_
    obtain ⟨u7, e8, h⟩ := k_bd h
    refine wr_calli (va_runV (As := [.int 0, .int (v5 - 1)]) (rest := [.int v3, .ref (am 8)]) C0.1 (kX11_number l (D := D) (cI := cI) (cB := cB) (cZ := cZ) (τ := τ) hap σ 0 (v5 - 1) _ e8) (wX11_item_X11_number hts ⟨Nat.le_of_ble_eq_true rfl, Nat.le_of_ble_eq_true rfl⟩) ⟨PW.blind, mw_r0 hK hP, PW.mk hP hK hN⟩ rfl rfl hl.1 rfl (lv_room (Nat.le_of_ble_eq_true rfl)) dX11_item_156 ⟨Nat.zero_le _, Nat.zero_le _⟩) hS (fun _ h => h) (fun H locs hP hS => ?_)
    have hP : va_P D vwCl (MW cI cB cZ am τ u7.2) H := hP
    obtain ⟨σ9, e10, h⟩ := k_bd h
    refine va_iast hx hb hK hP (mw_D hap) hS 8 0 mw_8 rfl (k_wr e10).1 dX11_item_159 (fun H locs hP _ hS => ?_)
    have hP := mw_s8 hP
    rw [(k_wr e10).2] at hP
    refine lv_aload_n hx hb dX11_item_160 rfl (lv_at hl 1 rfl) ?_
    refine va_get (D := D) (ci := 11) (v := .ref (am 9)) (C := RX11) (T := TX11) (N := 30) hx hb hts iX11_item_X11 hown hK hP 0 mw_0 rfl 9 (by decide) (hts (.fieldLink RX11 35 RX11 "firstCell" "[I") (by decide +kernel)) (fun _ h9 => h9) rfl dX11_item_161 ?_
    refine lv_iload hx hb dX11_item_164 (lv_at hl 0 rfl) ?_
    refine lv_aload_n hx hb dX11_item_166 rfl (lv_at hl 1 rfl) ?_
    refine lv_iconst (v := 0) hx hb dX11_item_167 (by decide) ?_
    refine lv_bipush (v := 9) hx hb dX11_item_168 (by decide) ?_
    obtain ⟨u11, e12, h⟩ := k_bd h
    refine wr_calli (va_runV (As := [.int 0, .int 9]) (rest := [.int v3, .ref (am 9)]) C0.1 (kX11_number l (D := D) (cI := cI) (cB := cB) (cZ := cZ) (τ := τ) hap σ9 0 9 _ e12) (wX11_item_X11_number hts ⟨Nat.le_of_ble_eq_true rfl, Nat.le_of_ble_eq_true rfl⟩) ⟨PW.blind, mw_r0 hK hP, PW.mk hP hK hN⟩ rfl rfl hl.1 rfl (lv_room (Nat.le_of_ble_eq_true rfl)) dX11_item_170 ⟨Nat.zero_le _, Nat.zero_le _⟩) hS (fun _ h => h) (fun H locs hP hS => ?_)
    have hP : va_P D vwCl (MW cI cB cZ am τ u11.2) H := hP
    obtain ⟨σ13, e14, h⟩ := k_bd h
    refine va_iast hx hb hK hP (mw_D hap) hS 9 0 mw_9 rfl (k_wr e14).1 dX11_item_173 (fun H locs hP _ hS => ?_)
    have hP := mw_s9 hP
    rw [(k_wr e14).2] at hP
    refine lv_aload_n hx hb dX11_item_174 rfl (lv_at hl 1 rfl) ?_
    refine va_get (D := D) (ci := 11) (v := .ref (am 10)) (C := RX11) (T := TX11) (N := 30) hx hb hts iX11_item_X11 hown hK hP 0 mw_0 rfl 10 (by decide) (hts (.fieldLink RX11 38 RX11 "weight" "[I") (by decide +kernel)) (fun _ h9 => h9) rfl dX11_item_175 ?_
    refine lv_iload hx hb dX11_item_178 (lv_at hl 0 rfl) ?_
    refine lv_aload_n hx hb dX11_item_180 rfl (lv_at hl 1 rfl) ?_
    refine lv_iconst (v := 1) hx hb dX11_item_181 (by decide) ?_
    refine lv_bipush (v := 9) hx hb dX11_item_182 (by decide) ?_
    obtain ⟨u15, e16, h⟩ := k_bd h
    refine wr_calli (va_runV (As := [.int 1, .int 9]) (rest := [.int v3, .ref (am 10)]) C0.1 (kX11_number l (D := D) (cI := cI) (cB := cB) (cZ := cZ) (τ := τ) hap σ13 1 9 _ e16) (wX11_item_X11_number hts ⟨Nat.le_of_ble_eq_true rfl, Nat.le_of_ble_eq_true rfl⟩) ⟨PW.blind, mw_r0 hK hP, PW.mk hP hK hN⟩ rfl rfl hl.1 rfl (lv_room (Nat.le_of_ble_eq_true rfl)) dX11_item_184 ⟨Nat.zero_le _, Nat.zero_le _⟩) hS (fun _ h => h) (fun H locs hP hS => ?_)
    have hP : va_P D vwCl (MW cI cB cZ am τ u15.2) H := hP
    obtain ⟨σ17, e18, h⟩ := k_bd h
    refine va_iast hx hb hK hP (mw_D hap) hS 10 0 mw_10 rfl (k_wr e18).1 dX11_item_187 (fun H locs hP _ hS => ?_)
    have hP := mw_s10 hP
    rw [(k_wr e18).2] at hP
    refine lv_aload_n hx hb dX11_item_188 rfl (lv_at hl 1 rfl) ?_
    refine va_get (D := D) (ci := 11) (v := .ref (am 11)) (C := RX11) (T := TX11) (N := 30) hx hb hts iX11_item_X11 hown hK hP 0 mw_0 rfl 11 (by decide) (hts (.fieldLink RX11 41 RX11 "firstLinks" "[I") (by decide +kernel)) (fun _ h9 => h9) rfl dX11_item_189 ?_
    refine lv_iload hx hb dX11_item_192 (lv_at hl 0 rfl) ?_
    refine lv_aload_n hx hb dX11_item_194 rfl (lv_at hl 1 rfl) ?_
    refine lv_iconst (v := 1) hx hb dX11_item_195 (by decide) ?_
    refine lv_bipush (v := 60) hx hb dX11_item_196 (by decide) ?_
    obtain ⟨u19, e20, h⟩ := k_bd h
    refine wr_calli (va_runV (As := [.int 1, .int 60]) (rest := [.int v3, .ref (am 11)]) C0.1 (kX11_number l (D := D) (cI := cI) (cB := cB) (cZ := cZ) (τ := τ) hap σ17 1 60 _ e20) (wX11_item_X11_number hts ⟨Nat.le_of_ble_eq_true rfl, Nat.le_of_ble_eq_true rfl⟩) ⟨PW.blind, mw_r0 hK hP, PW.mk hP hK hN⟩ rfl rfl hl.1 rfl (lv_room (Nat.le_of_ble_eq_true rfl)) dX11_item_198 ⟨Nat.zero_le _, Nat.zero_le _⟩) hS (fun _ h => h) (fun H locs hP hS => ?_)
    have hP : va_P D vwCl (MW cI cB cZ am τ u19.2) H := hP
    obtain ⟨σ21, e22, h⟩ := k_bd h
    refine va_iast hx hb hK hP (mw_D hap) hS 11 0 mw_11 rfl (k_wr e22).1 dX11_item_201 (fun H locs hP _ hS => ?_)
    have hP := mw_s11 hP
    rw [(k_wr e22).2] at hP
    refine lv_aload_n hx hb dX11_item_202 rfl (lv_at hl 1 rfl) ?_
    refine va_get (D := D) (ci := 11) (v := .ref (am 12)) (C := RX11) (T := TX11) (N := 30) hx hb hts iX11_item_X11 hown hK hP 0 mw_0 rfl 12 (by decide) (hts (.fieldLink RX11 44 RX11 "worth" "[I") (by decide +kernel)) (fun _ h9 => h9) rfl dX11_item_203 ?_
    refine lv_iload hx hb dX11_item_206 (lv_at hl 0 rfl) ?_
    refine lv_aload_n hx hb dX11_item_208 rfl (lv_at hl 1 rfl) ?_
    refine lv_iconst (v := 0) hx hb dX11_item_209 (by decide) ?_
    refine lv_bipush (v := 99) hx hb dX11_item_210 (by decide) ?_
    obtain ⟨u23, e24, h⟩ := k_bd h
    refine wr_calli (va_runV (As := [.int 0, .int 99]) (rest := [.int v3, .ref (am 12)]) C0.1 (kX11_number l (D := D) (cI := cI) (cB := cB) (cZ := cZ) (τ := τ) hap σ21 0 99 _ e24) (wX11_item_X11_number hts ⟨Nat.le_of_ble_eq_true rfl, Nat.le_of_ble_eq_true rfl⟩) ⟨PW.blind, mw_r0 hK hP, PW.mk hP hK hN⟩ rfl rfl hl.1 rfl (lv_room (Nat.le_of_ble_eq_true rfl)) dX11_item_212 ⟨Nat.zero_le _, Nat.zero_le _⟩) hS (fun _ h => h) (fun H locs hP hS => ?_)
    have hP : va_P D vwCl (MW cI cB cZ am τ u23.2) H := hP
    obtain ⟨σ25, e26, h⟩ := k_bd h
    refine va_iast hx hb hK hP (mw_D hap) hS 12 0 mw_12 rfl (k_wr e26).1 dX11_item_215 (fun H locs hP _ hS => ?_)
    have hP := mw_s12 hP
    rw [(k_wr e26).2] at hP
    refine lv_aload_n hx hb dX11_item_216 rfl (lv_at hl 1 rfl) ?_
    refine va_get (D := D) (ci := 11) (v := .ref (am 7)) (C := RX11) (T := TX11) (N := 30) hx hb hts iX11_item_X11 hown hK hP 0 mw_0 rfl 7 (by decide) (hts (.fieldLink RX11 29 RX11 "anchors" "[I") (by decide +kernel)) (fun _ h9 => h9) rfl dX11_item_217 ?_
    refine lv_iconst (v := 1) hx hb dX11_item_220 (by decide) ?_
    refine lv_dup2_11 hx hb dX11_item_221 rfl rfl ?_
    obtain ⟨v27, e28, h⟩ := k_bd h
    refine va_iald hx hb hK hP 7 0 mw_7 rfl (k_rd e28).1 dX11_item_222 ?_
    refine lv_nmi (k_rd e28).2 ?_
    refine lv_iconst (v := 1) hx hb dX11_item_223 (by decide) ?_
    refine lv_iadd hx hb dX11_item_224 ?_
    obtain ⟨σ29, e30, h⟩ := k_bd h
    refine va_iast hx hb hK hP (mw_D hap) hS 7 0 mw_7 rfl (k_wr e30).1 dX11_item_225 (fun H locs hP _ hS => ?_)
    have hP := mw_s7 hP
    rw [(k_wr e30).2] at hP
    refine lv_goto (tgt := 233) hx hb dX11_item_226 (by decide) ?_
    obtain rfl := k_sm h
    exact W.vret hx hb hr (fun t ht hW => ⟨⟨_, rfl, rfl, pw_end ht hP⟩, hS.F ht⟩) hS.2.2 dX11_item_233
  replace h := k_in c1_97 h
  by_cases c1_99 : x1 = 99
  · replace h := k_ip c1_99 h
    refine lv_lookup (tgt := 36) hx hb dX11_item_1 (by decide) (by rw [c1_99] <;> rfl) (by decide) ?_
    refine lv_aload_n hx hb dX11_item_36 rfl (lv_at hl 0 rfl) ?_
    refine lv_iconst (v := 0) hx hb dX11_item_37 (by decide) ?_
    refine lv_bipush (v := 9) hx hb dX11_item_38 (by decide) ?_
    obtain ⟨u31, e32, h⟩ := k_bd h
    refine wr_calli (va_runV (As := [.int 0, .int 9]) (rest := []) C0.1 (kX11_number l (D := D) (cI := cI) (cB := cB) (cZ := cZ) (τ := τ) hap σ 0 9 _ e32) (wX11_item_X11_number hts ⟨Nat.le_of_ble_eq_true rfl, Nat.le_of_ble_eq_true rfl⟩) ⟨PW.blind, mw_r0 hK hP, PW.mk hP hK hN⟩ rfl rfl hl.1 rfl (lv_room (Nat.le_of_ble_eq_true rfl)) dX11_item_40 ⟨Nat.zero_le _, Nat.zero_le _⟩) hS (fun _ h => h) (fun H locs hP hS => ?_)
    have hP : va_P D vwCl (MW cI cB cZ am τ u31.2) H := hP
    refine lv_istore_n (lv' := [(2, .int u31.1), (0, .ref (am 0)), (1, .int x1)]) hx hb dX11_item_43 rfl hl (by decide) rfl (fun ls hl => ?_)
    refine lv_aload_n hx hb dX11_item_44 rfl (lv_at hl 1 rfl) ?_
    refine lv_iconst (v := 1) hx hb dX11_item_45 (by decide) ?_
    refine lv_bipush (v := 9) hx hb dX11_item_46 (by decide) ?_
    obtain ⟨u33, e34, h⟩ := k_bd h
    refine wr_calli (va_runV (As := [.int 1, .int 9]) (rest := []) C0.1 (kX11_number l (D := D) (cI := cI) (cB := cB) (cZ := cZ) (τ := τ) hap u31.2 1 9 _ e34) (wX11_item_X11_number hts ⟨Nat.le_of_ble_eq_true rfl, Nat.le_of_ble_eq_true rfl⟩) ⟨PW.blind, mw_r0 hK hP, PW.mk hP hK hN⟩ rfl rfl hl.1 rfl (lv_room (Nat.le_of_ble_eq_true rfl)) dX11_item_48 ⟨Nat.zero_le _, Nat.zero_le _⟩) hS (fun _ h => h) (fun H locs hP hS => ?_)
    have hP : va_P D vwCl (MW cI cB cZ am τ u33.2) H := hP
    refine lv_istore_n (lv' := [(3, .int u33.1), (2, .int u31.1), (0, .ref (am 0)), (1, .int x1)]) hx hb dX11_item_51 rfl hl (by decide) rfl (fun ls hl => ?_)
    refine lv_aload_n hx hb dX11_item_52 rfl (lv_at hl 2 rfl) ?_
    refine lv_iconst (v := 0) hx hb dX11_item_53 (by decide) ?_
    refine lv_iconst (v := 3) hx hb dX11_item_54 (by decide) ?_
    obtain ⟨u35, e36, h⟩ := k_bd h
    refine wr_calli (va_runV (As := [.int 0, .int 3]) (rest := []) C0.1 (kX11_number l (D := D) (cI := cI) (cB := cB) (cZ := cZ) (τ := τ) hap u33.2 0 3 _ e36) (wX11_item_X11_number hts ⟨Nat.le_of_ble_eq_true rfl, Nat.le_of_ble_eq_true rfl⟩) ⟨PW.blind, mw_r0 hK hP, PW.mk hP hK hN⟩ rfl rfl hl.1 rfl (lv_room (Nat.le_of_ble_eq_true rfl)) dX11_item_55 ⟨Nat.zero_le _, Nat.zero_le _⟩) hS (fun _ h => h) (fun H locs hP hS => ?_)
    have hP : va_P D vwCl (MW cI cB cZ am τ u35.2) H := hP
    refine lv_istore (lv' := [(4, .int u35.1), (3, .int u33.1), (2, .int u31.1), (0, .ref (am 0)), (1, .int x1)]) hx hb dX11_item_58 hl (by decide) rfl (fun ls hl => ?_)
    refine lv_aload_n hx hb dX11_item_60 rfl (lv_at hl 3 rfl) ?_
    refine va_get (D := D) (ci := 11) (v := .int (u35.2 0 17)) (C := RX11) (T := TX11) (N := 30) hx hb hts iX11_item_X11 hown hK hP 0 mw_0 rfl 17 (by decide) (hts (.fieldLink RX11 99 RX11 "isWrong" "Z") (by decide +kernel)) (fun _ h9 => h9) rfl dX11_item_61 ?_
    refine lv_if_ne (tgt := 233) hx hb dX11_item_64 (by decide) (fun c64 => ?_) (fun c64 => ?_)
    · replace h := k_in c64 h
      obtain rfl := k_sm h
      exact W.vret hx hb hr (fun t ht hW => ⟨⟨_, rfl, rfl, pw_end ht hP⟩, hS.F ht⟩) hS.2.2 dX11_item_233
    · replace h := k_ip c64 h
      refine lv_aload_n hx hb dX11_item_67 rfl (lv_at hl 3 rfl) ?_
      refine va_get (D := D) (ci := 11) (v := .ref (am 2)) (C := RX11) (T := TX11) (N := 30) hx hb hts iX11_item_X11 hown hK hP 0 mw_0 rfl 2 (by decide) (hts (.fieldLink RX11 13 RX11 "deep" "[I") (by decide +kernel)) (fun _ h9 => h9) rfl dX11_item_68 ?_
      refine lv_bipush (v := 10) hx hb dX11_item_71 (by decide) ?_
      refine lv_iload_n hx hb dX11_item_73 rfl (lv_at hl 2 rfl) ?_
      refine lv_iadd hx hb dX11_item_74 ?_
      refine lv_iload_n hx hb dX11_item_75 rfl (lv_at hl 1 rfl) ?_
      obtain ⟨σ37, e38, h⟩ := k_bd h
      refine va_iast hx hb hK hP (mw_D hap) hS 2 0 mw_2 rfl (k_wr e38).1 dX11_item_76 (fun H locs hP _ hS => ?_)
      have hP := mw_s2 hP
      rw [(k_wr e38).2] at hP
      refine lv_aload_n hx hb dX11_item_77 rfl (lv_at hl 3 rfl) ?_
      refine va_get (D := D) (ci := 11) (v := .ref (am 3)) (C := RX11) (T := TX11) (N := 30) hx hb hts iX11_item_X11 hown hK hP 0 mw_0 rfl 3 (by decide) (hts (.fieldLink RX11 17 RX11 "grip" "[I") (by decide +kernel)) (fun _ h9 => h9) rfl dX11_item_78 ?_
      refine lv_bipush (v := 10) hx hb dX11_item_81 (by decide) ?_
      refine lv_iload_n hx hb dX11_item_83 rfl (lv_at hl 2 rfl) ?_
      refine lv_iadd hx hb dX11_item_84 ?_
      refine lv_iload hx hb dX11_item_85 (lv_at hl 0 rfl) ?_
      obtain ⟨σ39, e40, h⟩ := k_bd h
      refine va_iast hx hb hK hP (mw_D hap) hS 3 0 mw_3 rfl (k_wr e40).1 dX11_item_87 (fun H locs hP _ hS => ?_)
      have hP := mw_s3 hP
      rw [(k_wr e40).2] at hP
      refine lv_goto (tgt := 233) hx hb dX11_item_88 (by decide) ?_
      obtain rfl := k_sm h
      exact W.vret hx hb hr (fun t ht hW => ⟨⟨_, rfl, rfl, pw_end ht hP⟩, hS.F ht⟩) hS.2.2 dX11_item_233
  replace h := k_in c1_99 h
  by_cases c1_114 : x1 = 114
  · replace h := k_ip c1_114 h
    refine lv_lookup (tgt := 91) hx hb dX11_item_1 (by decide) (by rw [c1_114] <;> rfl) (by decide) ?_
    refine lv_aload_n hx hb dX11_item_91 rfl (lv_at hl 0 rfl) ?_
    refine va_get (D := D) (ci := 11) (v := .ref (am 5)) (C := RX11) (T := TX11) (N := 30) hx hb hts iX11_item_X11 hown hK hP 0 mw_0 rfl 5 (by decide) (hts (.fieldLink RX11 23 RX11 "firstNext" "[I") (by decide +kernel)) (fun _ h9 => h9) rfl dX11_item_92 ?_
    refine lv_bipush (v := 6) hx hb dX11_item_95 (by decide) ?_
    refine lv_aload_n hx hb dX11_item_97 rfl (lv_at hl 0 rfl) ?_
    refine va_get (D := D) (ci := 11) (v := .ref (am 4)) (C := RX11) (T := TX11) (N := 30) hx hb hts iX11_item_X11 hown hK hP 0 mw_0 rfl 4 (by decide) (hts (.fieldLink RX11 20 RX11 "rafts" "[I") (by decide +kernel)) (fun _ h9 => h9) rfl dX11_item_98 ?_
    refine lv_iconst (v := 1) hx hb dX11_item_101 (by decide) ?_
    obtain ⟨v41, e42, h⟩ := k_bd h
    refine va_iald hx hb hK hP 4 0 mw_4 rfl (k_rd e42).1 dX11_item_102 ?_
    refine lv_nmi (k_rd e42).2 ?_
    refine lv_iadd hx hb dX11_item_103 ?_
    refine lv_aload_n hx hb dX11_item_104 rfl (lv_at hl 0 rfl) ?_
    refine lv_iconst (v := 0) hx hb dX11_item_105 (by decide) ?_
    refine lv_aload_n hx hb dX11_item_106 rfl (lv_at hl 0 rfl) ?_
    refine va_get (D := D) (ci := 11) (v := .ref (am 4)) (C := RX11) (T := TX11) (N := 30) hx hb hts iX11_item_X11 hown hK hP 0 mw_0 rfl 4 (by decide) (hts (.fieldLink RX11 20 RX11 "rafts" "[I") (by decide +kernel)) (fun _ h9 => h9) rfl dX11_item_107 ?_
    refine lv_iconst (v := 1) hx hb dX11_item_110 (by decide) ?_
    obtain ⟨v43, e44, h⟩ := k_bd h
    refine va_iald hx hb hK hP 4 0 mw_4 rfl (k_rd e44).1 dX11_item_111 ?_
    refine lv_nmi (k_rd e44).2 ?_
    obtain ⟨u45, e46, h⟩ := k_bd h
    refine wr_calli (va_runV (As := [.int 0, .int v43]) (rest := [.int (6 + v41), .ref (am 5)]) C0.1 (kX11_number l (D := D) (cI := cI) (cB := cB) (cZ := cZ) (τ := τ) hap σ 0 v43 _ e46) (wX11_item_X11_number hts ⟨Nat.le_of_ble_eq_true rfl, Nat.le_of_ble_eq_true rfl⟩) ⟨PW.blind, mw_r0 hK hP, PW.mk hP hK hN⟩ rfl rfl hl.1 rfl (lv_room (Nat.le_of_ble_eq_true rfl)) dX11_item_112 ⟨Nat.zero_le _, Nat.zero_le _⟩) hS (fun _ h => h) (fun H locs hP hS => ?_)
    have hP : va_P D vwCl (MW cI cB cZ am τ u45.2) H := hP
    obtain ⟨σ47, e48, h⟩ := k_bd h
    refine va_iast hx hb hK hP (mw_D hap) hS 5 0 mw_5 rfl (k_wr e48).1 dX11_item_115 (fun H locs hP _ hS => ?_)
    have hP := mw_s5 hP
    rw [(k_wr e48).2] at hP
    refine lv_aload_n hx hb dX11_item_116 rfl (lv_at hl 0 rfl) ?_
    refine va_get (D := D) (ci := 11) (v := .ref (am 4)) (C := RX11) (T := TX11) (N := 30) hx hb hts iX11_item_X11 hown hK hP 0 mw_0 rfl 4 (by decide) (hts (.fieldLink RX11 20 RX11 "rafts" "[I") (by decide +kernel)) (fun _ h9 => h9) rfl dX11_item_117 ?_
    refine lv_iconst (v := 1) hx hb dX11_item_120 (by decide) ?_
    refine lv_dup2_11 hx hb dX11_item_121 rfl rfl ?_
    obtain ⟨v49, e50, h⟩ := k_bd h
    refine va_iald hx hb hK hP 4 0 mw_4 rfl (k_rd e50).1 dX11_item_122 ?_
    refine lv_nmi (k_rd e50).2 ?_
    refine lv_iconst (v := 1) hx hb dX11_item_123 (by decide) ?_
    refine lv_iadd hx hb dX11_item_124 ?_
    obtain ⟨σ51, e52, h⟩ := k_bd h
    refine va_iast hx hb hK hP (mw_D hap) hS 4 0 mw_4 rfl (k_wr e52).1 dX11_item_125 (fun H locs hP _ hS => ?_)
    have hP := mw_s4 hP
    rw [(k_wr e52).2] at hP
    refine lv_goto (tgt := 233) hx hb dX11_item_126 (by decide) ?_
    obtain rfl := k_sm h
    exact W.vret hx hb hr (fun t ht hW => ⟨⟨_, rfl, rfl, pw_end ht hP⟩, hS.F ht⟩) hS.2.2 dX11_item_233
  replace h := k_in c1_114 h
  refine lv_lookup (tgt := 229) hx hb dX11_item_1 (by decide) (off := 228) (by rw [lv_osw c1_97 (by decide), lv_osw c1_99 (by decide), lv_osw c1_114 (by decide)] <;> rfl) (by decide) ?_
  refine lv_aload_n hx hb dX11_item_229 rfl (lv_at hl 0 rfl) ?_
  obtain ⟨u53, e54, h⟩ := k_bd h
  refine wr_callv (va_runV (As := []) (rest := []) C0.1 (kX11_rope l (D := D) (cI := cI) (cB := cB) (cZ := cZ) (τ := τ) hap σ  _ e54) (wX11_item_X11_rope hts ⟨Nat.le_of_ble_eq_true rfl, Nat.le_of_ble_eq_true rfl⟩) ⟨PW.blind, mw_r0 hK hP, PW.mk hP hK hN⟩ rfl rfl hl.1 rfl (lv_room (Nat.le_of_ble_eq_true rfl)) dX11_item_230 ⟨Nat.zero_le _, Nat.zero_le _⟩) hS (fun _ h => h) (fun H locs hP hS => ?_)
  have hP : va_P D vwCl (MW cI cB cZ am τ u53) H := hP
  obtain rfl := k_sm h
  exact W.vret hx hb hr (fun t ht hW => ⟨⟨_, rfl, rfl, pw_end ht hP⟩, hS.F ht⟩) hS.2.2 dX11_item_233
set_option maxHeartbeats 4000000 in
set_option maxRecDepth 100000 in
theorem kX11_may (l : Launch) {D : va_G} {cI cB cZ : ClassId} {am : Nat → Nat} {τ : Int64} (σ : Sg) (x1 : Int32) (o : Int32) (h : pX11_may σ x1 = some o) : Met l yX11_may wsX11_may rmX11_may (va_Pc [.ref (am 0), .int x1] (PW D cI cB cZ (MW cI cB cZ am τ σ))) (QcRead o) 0 0 (fun _ => False) := by
  refine Met.ofW (cc := cX11_may) (maxL := 2) (ret := (some .boolean)) (by decide) rfl ?_
  intro p e s m args below meth c s₁ B hml hv
  obtain ⟨rfl, hP, hK, hN⟩ := hv
  have C0 : Cx p s m _ meth c cX11_may 2 (some .boolean) RX11 wsX11_may := ⟨⟨B.exec, B.bytes, hml, findClass_of_methodNamed B.named, atoms_spec B.pre⟩, B.returns, B.notSynchronized⟩
  obtain ⟨⟨hx, hb, -, hown, hts⟩, hr, hlk⟩ := id C0
  have hl := lv_entry ([.ref (am 0), .int x1]) (n := 2) (Nat.le_of_ble_eq_true rfl)
  rw [lg_entry_eq]
  generalize (lg_sl ([.ref (am 0), .int x1]) ++ List.replicate (2 - (lg_sl ([.ref (am 0), .int x1])).length) Slot.unset).toArray = ls at hl ⊢
  have hl : lv_has ls 2 [(0, .ref (am 0)), (1, .int x1)] := hl
  rw [pX11_may] at h
  refine lv_iload_n hx hb dX11_may_0 rfl (lv_at hl 1 rfl) ?_
  by_cases c1_97 : x1 = 97
  · replace h := k_ip c1_97 h
    refine lv_lookup (tgt := 45) hx hb dX11_may_1 (by decide) (by rw [c1_97] <;> rfl) (by decide) ?_
    refine lv_aload_n hx hb dX11_may_45 rfl (lv_at hl 0 rfl) ?_
    refine va_get (D := D) (ci := 11) (v := .ref (am 7)) (C := RX11) (T := TX11) (N := 30) hx hb hts iX11_may_X11 hown hK hP 0 mw_0 rfl 7 (by decide) (hts (.fieldLink RX11 29 RX11 "anchors" "[I") (by decide +kernel)) (fun _ h9 => h9) rfl dX11_may_46 ?_
    refine lv_iconst (v := 1) hx hb dX11_may_49 (by decide) ?_
    obtain ⟨v1, e2, h⟩ := k_bd h
    refine va_iald hx hb hK hP 7 0 mw_7 rfl (k_rd e2).1 dX11_may_50 ?_
    refine lv_nmi (k_rd e2).2 ?_
    refine lv_bipush (v := 8) hx hb dX11_may_51 (by decide) ?_
    refine lv_icmp_ge (tgt := 60) hx hb dX11_may_53 (by decide) (fun c53 => ?_) (fun c53 => ?_)
    · replace h := k_ip c53 h
      refine lv_iconst (v := 0) hx hb dX11_may_60 (by decide) ?_
      obtain rfl := k_sm h
      exact W.zret hx hb hr rfl (fun t ht hW => ⟨rfl, ht⟩) (fun _ h => by cases h) dX11_may_61
    · replace h := k_in c53 h
      refine lv_iconst (v := 1) hx hb dX11_may_56 (by decide) ?_
      refine lv_goto (tgt := 61) hx hb dX11_may_57 (by decide) ?_
      obtain rfl := k_sm h
      exact W.zret hx hb hr rfl (fun t ht hW => ⟨rfl, ht⟩) (fun _ h => by cases h) dX11_may_61
  replace h := k_in c1_97 h
  by_cases c1_114 : x1 = 114
  · replace h := k_ip c1_114 h
    refine lv_lookup (tgt := 28) hx hb dX11_may_1 (by decide) (by rw [c1_114] <;> rfl) (by decide) ?_
    refine lv_aload_n hx hb dX11_may_28 rfl (lv_at hl 0 rfl) ?_
    refine va_get (D := D) (ci := 11) (v := .ref (am 4)) (C := RX11) (T := TX11) (N := 30) hx hb hts iX11_may_X11 hown hK hP 0 mw_0 rfl 4 (by decide) (hts (.fieldLink RX11 20 RX11 "rafts" "[I") (by decide +kernel)) (fun _ h9 => h9) rfl dX11_may_29 ?_
    refine lv_iconst (v := 1) hx hb dX11_may_32 (by decide) ?_
    obtain ⟨v3, e4, h⟩ := k_bd h
    refine va_iald hx hb hK hP 4 0 mw_4 rfl (k_rd e4).1 dX11_may_33 ?_
    refine lv_nmi (k_rd e4).2 ?_
    refine lv_bipush (v := 6) hx hb dX11_may_34 (by decide) ?_
    refine lv_icmp_ge (tgt := 43) hx hb dX11_may_36 (by decide) (fun c36 => ?_) (fun c36 => ?_)
    · replace h := k_ip c36 h
      refine lv_iconst (v := 0) hx hb dX11_may_43 (by decide) ?_
      obtain rfl := k_sm h
      exact W.zret hx hb hr rfl (fun t ht hW => ⟨rfl, ht⟩) (fun _ h => by cases h) dX11_may_44
    · replace h := k_in c36 h
      refine lv_iconst (v := 1) hx hb dX11_may_39 (by decide) ?_
      refine lv_goto (tgt := 44) hx hb dX11_may_40 (by decide) ?_
      obtain rfl := k_sm h
      exact W.zret hx hb hr rfl (fun t ht hW => ⟨rfl, ht⟩) (fun _ h => by cases h) dX11_may_44
  replace h := k_in c1_114 h
  refine lv_lookup (tgt := 62) hx hb dX11_may_1 (by decide) (off := 61) (by rw [lv_osw c1_97 (by decide), lv_osw c1_114 (by decide)] <;> rfl) (by decide) ?_
  refine lv_iload_n hx hb dX11_may_62 rfl (lv_at hl 1 rfl) ?_
  refine lv_bipush (v := 99) hx hb dX11_may_63 (by decide) ?_
  refine lv_icmp_eq (tgt := 74) hx hb dX11_may_65 (by decide) (fun c65 => ?_) (fun c65 => ?_)
  · replace h := k_ip c65 h
    refine lv_iconst (v := 1) hx hb dX11_may_74 (by decide) ?_
    refine lv_goto (tgt := 79) hx hb dX11_may_75 (by decide) ?_
    obtain rfl := k_sm h
    exact W.zret hx hb hr rfl (fun t ht hW => ⟨rfl, ht⟩) (fun _ h => by cases h) dX11_may_79
  · replace h := k_in c65 h
    refine lv_iload_n hx hb dX11_may_68 rfl (lv_at hl 1 rfl) ?_
    refine lv_bipush (v := 116) hx hb dX11_may_69 (by decide) ?_
    refine lv_icmp_ne (tgt := 78) hx hb dX11_may_71 (by decide) (fun c71 => ?_) (fun c71 => ?_)
    · replace h := k_in c71 h
      refine lv_iconst (v := 0) hx hb dX11_may_78 (by decide) ?_
      obtain rfl := k_sm h
      exact W.zret hx hb hr rfl (fun t ht hW => ⟨rfl, ht⟩) (fun _ h => by cases h) dX11_may_79
    · replace h := k_ip c71 h
      refine lv_iconst (v := 1) hx hb dX11_may_74 (by decide) ?_
      refine lv_goto (tgt := 79) hx hb dX11_may_75 (by decide) ?_
      obtain rfl := k_sm h
      exact W.zret hx hb hr rfl (fun t ht hW => ⟨rfl, ht⟩) (fun _ h => by cases h) dX11_may_79
set_option maxHeartbeats 4000000 in
set_option maxRecDepth 100000 in
theorem bX11_read_L31 {p : Program} {l : Launch} {e : Env} {s : State} {m : MethodId} {args : Array Value} {below : List Frame} {meth : Method} {c : Code} {Q : State → Prop} {D : va_G} {cI cB cZ : ClassId} {am : Nat → Nat} (C0 : Cx p s m args meth c cX11_read 2 none RX11 wsX11_read) (hK : va_K D vwCl (tysA cI cB cZ) s) (hN : NW s) (hap : mwX am) {τ : Int64}  : ∀ (n : Nat) (x1 : Int32) (σ : Sg) (v : Sg) (H : Heap) (locs : List Loc) (ls : Array Slot), va_P D vwCl (MW cI cB cZ am τ σ) H → va_S (mwA am) s.heap H locs → lv_has ls 2 [(0, .ref (am 0)), (1, .int x1)] → pX11_read_L31  n x1 σ = some v → (∀ (H1 : Heap) (locs1 : List Loc) (ls1 : Array Slot), va_P D vwCl (MW cI cB cZ am τ v) H1 → va_S (mwA am) s.heap H1 locs1 → lv_has ls1 2 [(0, .ref (am 0))] → W p l e rmX11_read s m args below meth c H1 locs1 0 0 Q (F0 m 63 ls1 [])) → W p l e rmX11_read s m args below meth c H locs 0 0 Q (F0 m 31 ls []) := by
  obtain ⟨⟨hx, hb, hml, hown, hts⟩, hr, hlk⟩ := id C0
  intro n
  induction n with
  | zero =>
    intro x1 σ v H locs ls hP hS hl h kk
    exact absurd h (by simp [pX11_read_L31])
  | succ n ih =>
    intro x1 σ v H locs ls hP hS hl h kk
    rw [pX11_read_L31] at h
    refine lv_iload_n hx hb dX11_read_31 rfl (lv_at hl 1 rfl) ?_
    refine lv_bipush (v := 10) hx hb dX11_read_32 (by decide) ?_
    refine lv_icmp_ge (tgt := 63) hx hb dX11_read_34 (by decide) (fun c34 => ?_) (fun c34 => ?_)
    · replace h := k_ip c34 h
      obtain rfl := k_sm h
      exact kk _ _ _ hP hS (lv_sub hl [0] rfl)
    · replace h := k_in c34 h
      refine lv_aload_n hx hb dX11_read_37 rfl (lv_at hl 0 rfl) ?_
      refine va_get (D := D) (ci := 11) (v := .ref (am 2)) (C := RX11) (T := TX11) (N := 30) hx hb hts iX11_read_X11 hown hK hP 0 mw_0 rfl 2 (by decide) (hts (.fieldLink RX11 13 RX11 "deep" "[I") (by decide +kernel)) (fun _ h9 => h9) rfl dX11_read_38 ?_
      refine lv_bipush (v := 10) hx hb dX11_read_41 (by decide) ?_
      refine lv_iload_n hx hb dX11_read_43 rfl (lv_at hl 1 rfl) ?_
      refine lv_iadd hx hb dX11_read_44 ?_
      refine lv_iconst (v := 3) hx hb dX11_read_45 (by decide) ?_
      obtain ⟨σ11, e12, h⟩ := k_bd h
      refine va_iast hx hb hK hP (mw_D hap) hS 2 0 mw_2 rfl (k_wr e12).1 dX11_read_46 (fun H locs hP _ hS => ?_)
      have hP := mw_s2 hP
      rw [(k_wr e12).2] at hP
      refine lv_aload_n hx hb dX11_read_47 rfl (lv_at hl 0 rfl) ?_
      refine va_get (D := D) (ci := 11) (v := .ref (am 3)) (C := RX11) (T := TX11) (N := 30) hx hb hts iX11_read_X11 hown hK hP 0 mw_0 rfl 3 (by decide) (hts (.fieldLink RX11 17 RX11 "grip" "[I") (by decide +kernel)) (fun _ h9 => h9) rfl dX11_read_48 ?_
      refine lv_bipush (v := 10) hx hb dX11_read_51 (by decide) ?_
      refine lv_iload_n hx hb dX11_read_53 rfl (lv_at hl 1 rfl) ?_
      refine lv_iadd hx hb dX11_read_54 ?_
      refine lv_iconst (v := 1) hx hb dX11_read_55 (by decide) ?_
      obtain ⟨σ13, e14, h⟩ := k_bd h
      refine va_iast hx hb hK hP (mw_D hap) hS 3 0 mw_3 rfl (k_wr e14).1 dX11_read_56 (fun H locs hP _ hS => ?_)
      have hP := mw_s3 hP
      rw [(k_wr e14).2] at hP
      refine lv_iinc (v := (x1 + 1)) (lv' := [(1, .int (x1 + 1)), (0, .ref (am 0))]) hx hb dX11_read_57 hl (k := 1) rfl rfl (by decide) rfl (fun ls hl => ?_)
      refine lv_goto (tgt := 31) hx hb dX11_read_60 (by decide) ?_
      exact ih (x1 + 1) σ13 _ _ _ ls hP hS (lv_sub hl [1, 0] rfl) h kk
set_option maxHeartbeats 4000000 in
set_option maxRecDepth 100000 in
theorem bX11_read_L65 {p : Program} {l : Launch} {e : Env} {s : State} {m : MethodId} {args : Array Value} {below : List Frame} {meth : Method} {c : Code} {Q : State → Prop} {D : va_G} {cI cB cZ : ClassId} {am : Nat → Nat} (C0 : Cx p s m args meth c cX11_read 2 none RX11 wsX11_read) (hK : va_K D vwCl (tysA cI cB cZ) s) (hN : NW s) (hap : mwX am) {τ : Int64}  : ∀ (n : Nat) (x1 : Int32) (σ : Sg) (v : Sg) (H : Heap) (locs : List Loc) (ls : Array Slot), va_P D vwCl (MW cI cB cZ am τ σ) H → va_S (mwA am) s.heap H locs → lv_has ls 2 [(0, .ref (am 0)), (1, .int x1)] → pX11_read_L65  n x1 σ = some v → (∀ (H1 : Heap) (locs1 : List Loc) (ls1 : Array Slot), va_P D vwCl (MW cI cB cZ am τ v) H1 → va_S (mwA am) s.heap H1 locs1 → lv_has ls1 2 [(0, .ref (am 0))] → W p l e rmX11_read s m args below meth c H1 locs1 0 0 Q (F0 m 87 ls1 [])) → W p l e rmX11_read s m args below meth c H locs 0 0 Q (F0 m 65 ls []) := by
  obtain ⟨⟨hx, hb, hml, hown, hts⟩, hr, hlk⟩ := id C0
  intro n
  induction n with
  | zero =>
    intro x1 σ v H locs ls hP hS hl h kk
    exact absurd h (by simp [pX11_read_L65])
  | succ n ih =>
    intro x1 σ v H locs ls hP hS hl h kk
    rw [pX11_read_L65] at h
    refine lv_iload_n hx hb dX11_read_65 rfl (lv_at hl 1 rfl) ?_
    refine lv_bipush (v := 6) hx hb dX11_read_66 (by decide) ?_
    refine lv_icmp_ge (tgt := 87) hx hb dX11_read_68 (by decide) (fun c68 => ?_) (fun c68 => ?_)
    · replace h := k_ip c68 h
      obtain rfl := k_sm h
      exact kk _ _ _ hP hS (lv_sub hl [0] rfl)
    · replace h := k_in c68 h
      refine lv_aload_n hx hb dX11_read_71 rfl (lv_at hl 0 rfl) ?_
      refine va_get (D := D) (ci := 11) (v := .ref (am 6)) (C := RX11) (T := TX11) (N := 30) hx hb hts iX11_read_X11 hown hK hP 0 mw_0 rfl 6 (by decide) (hts (.fieldLink RX11 26 RX11 "roped" "[I") (by decide +kernel)) (fun _ h9 => h9) rfl dX11_read_72 ?_
      refine lv_bipush (v := 6) hx hb dX11_read_75 (by decide) ?_
      refine lv_iload_n hx hb dX11_read_77 rfl (lv_at hl 1 rfl) ?_
      refine lv_iadd hx hb dX11_read_78 ?_
      refine lv_iconst (v := 0) hx hb dX11_read_79 (by decide) ?_
      obtain ⟨σ17, e18, h⟩ := k_bd h
      refine va_iast hx hb hK hP (mw_D hap) hS 6 0 mw_6 rfl (k_wr e18).1 dX11_read_80 (fun H locs hP _ hS => ?_)
      have hP := mw_s6 hP
      rw [(k_wr e18).2] at hP
      refine lv_iinc (v := (x1 + 1)) (lv' := [(1, .int (x1 + 1)), (0, .ref (am 0))]) hx hb dX11_read_81 hl (k := 1) rfl rfl (by decide) rfl (fun ls hl => ?_)
      refine lv_goto (tgt := 65) hx hb dX11_read_84 (by decide) ?_
      exact ih (x1 + 1) σ17 _ _ _ ls hP hS (lv_sub hl [1, 0] rfl) h kk
set_option maxHeartbeats 4000000 in
set_option maxRecDepth 100000 in
theorem bX11_read_L91 {p : Program} {l : Launch} {e : Env} {s : State} {m : MethodId} {args : Array Value} {below : List Frame} {meth : Method} {c : Code} {Q : State → Prop} {D : va_G} {cI cB cZ : ClassId} {am : Nat → Nat} (C0 : Cx p s m args meth c cX11_read 2 none RX11 wsX11_read) (hK : va_K D vwCl (tysA cI cB cZ) s) (hN : NW s) (hap : mwX am) {τ : Int64}  : ∀ (n : Nat) (σ : Sg) (v : Sg) (H : Heap) (locs : List Loc) (ls : Array Slot), va_P D vwCl (MW cI cB cZ am τ σ) H → va_S (mwA am) s.heap H locs → lv_has ls 2 [(0, .ref (am 0))] → pX11_read_L91  n σ = some v → (∀ (H1 : Heap) (locs1 : List Loc) (ls1 : Array Slot), va_P D vwCl (MW cI cB cZ am τ v) H1 → va_S (mwA am) s.heap H1 locs1 → lv_has ls1 2 [] → W p l e rmX11_read s m args below meth c H1 locs1 0 0 Q (F0 m 190 ls1 [])) → W p l e rmX11_read s m args below meth c H locs 0 0 Q (F0 m 91 ls []) := by
  obtain ⟨⟨hx, hb, hml, hown, hts⟩, hr, hlk⟩ := id C0
  intro n
  induction n with
  | zero =>
    intro σ v H locs ls hP hS hl h kk
    exact absurd h (by simp [pX11_read_L91])
  | succ n ih =>
    intro σ v H locs ls hP hS hl h kk
    rw [pX11_read_L91] at h
    refine lv_aload_n hx hb dX11_read_91 rfl (lv_at hl 0 rfl) ?_
    refine va_get (D := D) (ci := 11) (v := .int (σ 0 15)) (C := RX11) (T := TX11) (N := 30) hx hb hts iX11_read_X11 hown hK hP 0 mw_0 rfl 15 (by decide) (hts (.fieldLink RX11 96 RX11 "sort" "I") (by decide +kernel)) (fun _ h9 => h9) rfl dX11_read_92 ?_
    refine lv_iconst (v := 4) hx hb dX11_read_95 (by decide) ?_
    refine lv_icmp_eq (tgt := 190) hx hb dX11_read_96 (by decide) (fun c96 => ?_) (fun c96 => ?_)
    · replace h := k_ip c96 h
      obtain rfl := k_sm h
      exact kk _ _ _ hP hS (lv_sub hl [] rfl)
    · replace h := k_in c96 h
      refine lv_aload_n hx hb dX11_read_99 rfl (lv_at hl 0 rfl) ?_
      refine va_get (D := D) (ci := 11) (v := .int (σ 0 17)) (C := RX11) (T := TX11) (N := 30) hx hb hts iX11_read_X11 hown hK hP 0 mw_0 rfl 17 (by decide) (hts (.fieldLink RX11 99 RX11 "isWrong" "Z") (by decide +kernel)) (fun _ h9 => h9) rfl dX11_read_100 ?_
      refine lv_if_ne (tgt := 190) hx hb dX11_read_103 (by decide) (fun c103 => ?_) (fun c103 => ?_)
      · replace h := k_in c103 h
        obtain rfl := k_sm h
        exact kk _ _ _ hP hS (lv_sub hl [] rfl)
      · replace h := k_ip c103 h
        refine lv_aload_n hx hb dX11_read_106 rfl (lv_at hl 0 rfl) ?_
        refine va_get (D := D) (ci := 11) (v := .int (σ 0 15)) (C := RX11) (T := TX11) (N := 30) hx hb hts iX11_read_X11 hown hK hP 0 mw_0 rfl 15 (by decide) (hts (.fieldLink RX11 96 RX11 "sort" "I") (by decide +kernel)) (fun _ h9 => h9) rfl dX11_read_107 ?_
        refine lv_iconst (v := 1) hx hb dX11_read_110 (by decide) ?_
        obtain ⟨j23, e24, h⟩ := k_bd h
        have key : ∀ (H : Heap) (locs : List Loc) (ls : Array Slot), va_P D vwCl (MW cI cB cZ am τ σ) H → va_S (mwA am) s.heap H locs → lv_has ls 2 [(0, .ref (am 0))] → W p l e rmX11_read s m args below meth c H locs 0 0 Q (F0 m 122 ls [.int j23]) := by
          intro H locs ls hP hS hl
          refine lv_istore_n (lv' := [(1, .int j23), (0, .ref (am 0))]) hx hb dX11_read_122 rfl hl (by decide) rfl (fun ls hl => ?_)
          refine lv_aload_n hx hb dX11_read_123 rfl (lv_at hl 1 rfl) ?_
          refine lv_aload_n hx hb dX11_read_124 rfl (lv_at hl 1 rfl) ?_
          refine va_get (D := D) (ci := 11) (v := .int (σ 0 15)) (C := RX11) (T := TX11) (N := 30) hx hb hts iX11_read_X11 hown hK hP 0 mw_0 rfl 15 (by decide) (hts (.fieldLink RX11 96 RX11 "sort" "I") (by decide +kernel)) (fun _ h9 => h9) rfl dX11_read_125 ?_
          refine lv_iconst (v := 1) hx hb dX11_read_128 (by decide) ?_
          obtain ⟨j25, e28, h⟩ := k_bd h
          have key : ∀ (H : Heap) (locs : List Loc) (ls : Array Slot), va_P D vwCl (MW cI cB cZ am τ σ) H → va_S (mwA am) s.heap H locs → lv_has ls 2 [(0, .ref (am 0)), (1, .int j23)] → W p l e rmX11_read s m args below meth c H locs 0 0 Q (F0 m 145 ls [.int j25, .ref (am 0)]) := by
            intro H locs ls hP hS hl
            obtain ⟨u29, e30, h⟩ := k_bd h
            refine wr_callv (va_runV (As := [.int j25]) (rest := []) C0.1 (kX11_due l (D := D) (cI := cI) (cB := cB) (cZ := cZ) (τ := τ) hap σ j25 _ e30) (wX11_read_X11_due hts ⟨Nat.le_of_ble_eq_true rfl, Nat.le_of_ble_eq_true rfl⟩) ⟨PW.blind, mw_r0 hK hP, PW.mk hP hK hN⟩ rfl rfl hl.1 rfl (lv_room (Nat.le_of_ble_eq_true rfl)) dX11_read_145 ⟨Nat.zero_le _, Nat.zero_le _⟩) hS (fun _ h => h) (fun H locs hP hS => ?_)
            have hP : va_P D vwCl (MW cI cB cZ am τ u29) H := hP
            refine lv_aload_n hx hb dX11_read_148 rfl (lv_at hl 0 rfl) ?_
            refine va_get (D := D) (ci := 11) (v := .int (u29 0 17)) (C := RX11) (T := TX11) (N := 30) hx hb hts iX11_read_X11 hown hK hP 0 mw_0 rfl 17 (by decide) (hts (.fieldLink RX11 99 RX11 "isWrong" "Z") (by decide +kernel)) (fun _ h9 => h9) rfl dX11_read_149 ?_
            refine lv_if_ne (tgt := 187) hx hb dX11_read_152 (by decide) (fun c152 => ?_) (fun c152 => ?_)
            · replace h := k_in c152 h
              refine lv_goto (tgt := 91) hx hb dX11_read_187 (by decide) ?_
              exact ih u29 _ _ _ ls hP hS (lv_sub hl [0] rfl) h kk
            · replace h := k_ip c152 h
              refine lv_aload_n hx hb dX11_read_155 rfl (lv_at hl 0 rfl) ?_
              refine lv_iload_n hx hb dX11_read_156 rfl (lv_at hl 1 rfl) ?_
              obtain ⟨u31, e32, h⟩ := k_bd h
              refine wr_callv (va_runV (As := [.int j23]) (rest := []) C0.1 (kX11_item l (D := D) (cI := cI) (cB := cB) (cZ := cZ) (τ := τ) hap u29 j23 _ e32) (wX11_read_X11_item hts ⟨Nat.le_of_ble_eq_true rfl, Nat.le_of_ble_eq_true rfl⟩) ⟨PW.blind, mw_r0 hK hP, PW.mk hP hK hN⟩ rfl rfl hl.1 rfl (lv_room (Nat.le_of_ble_eq_true rfl)) dX11_read_157 ⟨Nat.zero_le _, Nat.zero_le _⟩) hS (fun _ h => h) (fun H locs hP hS => ?_)
              have hP : va_P D vwCl (MW cI cB cZ am τ u31) H := hP
              refine lv_aload_n hx hb dX11_read_160 rfl (lv_at hl 0 rfl) ?_
              refine lv_aload_n hx hb dX11_read_161 rfl (lv_at hl 0 rfl) ?_
              refine va_get (D := D) (ci := 11) (v := .int (u31 0 15)) (C := RX11) (T := TX11) (N := 30) hx hb hts iX11_read_X11 hown hK hP 0 mw_0 rfl 15 (by decide) (hts (.fieldLink RX11 96 RX11 "sort" "I") (by decide +kernel)) (fun _ h9 => h9) rfl dX11_read_162 ?_
              refine lv_iconst (v := 3) hx hb dX11_read_165 (by decide) ?_
              refine lv_icmp_ne (tgt := 173) hx hb dX11_read_166 (by decide) (fun c166 => ?_) (fun c166 => ?_)
              · replace h := k_in c166 h
                refine lv_iconst (v := 0) hx hb dX11_read_173 (by decide) ?_
                obtain ⟨u33, e34, h⟩ := k_bd h
                refine wr_callv (va_runV (As := [.int 0]) (rest := []) C0.1 (kX11_due l (D := D) (cI := cI) (cB := cB) (cZ := cZ) (τ := τ) hap u31 0 _ e34) (wX11_read_X11_due hts ⟨Nat.le_of_ble_eq_true rfl, Nat.le_of_ble_eq_true rfl⟩) ⟨PW.blind, mw_r0 hK hP, PW.mk hP hK hN⟩ rfl rfl hl.1 rfl (lv_room (Nat.le_of_ble_eq_true rfl)) dX11_read_174 ⟨Nat.zero_le _, Nat.zero_le _⟩) hS (fun _ h => h) (fun H locs hP hS => ?_)
                have hP : va_P D vwCl (MW cI cB cZ am τ u33) H := hP
                refine lv_aload_n hx hb dX11_read_177 rfl (lv_at hl 0 rfl) ?_
                refine lv_dup hx hb dX11_read_178 rfl ?_
                refine va_get (D := D) (ci := 11) (v := .int (u33 0 18)) (C := RX11) (T := TX11) (N := 30) hx hb hts iX11_read_X11 hown hK hP 0 mw_0 rfl 18 (by decide) (hts (.fieldLink RX11 117 RX11 "items" "I") (by decide +kernel)) (fun _ h9 => h9) rfl dX11_read_179 ?_
                refine lv_iconst (v := 1) hx hb dX11_read_182 (by decide) ?_
                refine lv_iadd hx hb dX11_read_183 ?_
                refine va_put (D := D) (ci := 11) (v := .int ((u33 0 18) + 1)) (ty := .int) (C := RX11) (T := TX11) (N := 30) hx hb hts iX11_read_X11 tyX11 tyX11_ok nmX11 hown hK hP (mw_D hap) hS 0 mw_0 rfl 18 (by decide) (hts (.fieldLink RX11 117 RX11 "items" "I") (by decide +kernel)) (fun _ h9 => h9) rfl (by decide +kernel) rfl rfl (Nat.le_of_ble_eq_true rfl) dX11_read_184 (fun H locs hP _ hS => ?_)
                have hP := mw_s0_18 hP
                obtain ⟨σ35, e36, h⟩ := k_bd h
                rw [k_sm e36] at hP
                refine lv_goto (tgt := 91) hx hb dX11_read_187 (by decide) ?_
                exact ih σ35 _ _ _ ls hP hS (lv_sub hl [0] rfl) h kk
              · replace h := k_ip c166 h
                refine lv_iconst (v := 1) hx hb dX11_read_169 (by decide) ?_
                refine lv_goto (tgt := 174) hx hb dX11_read_170 (by decide) ?_
                obtain ⟨u37, e38, h⟩ := k_bd h
                refine wr_callv (va_runV (As := [.int 1]) (rest := []) C0.1 (kX11_due l (D := D) (cI := cI) (cB := cB) (cZ := cZ) (τ := τ) hap u31 1 _ e38) (wX11_read_X11_due hts ⟨Nat.le_of_ble_eq_true rfl, Nat.le_of_ble_eq_true rfl⟩) ⟨PW.blind, mw_r0 hK hP, PW.mk hP hK hN⟩ rfl rfl hl.1 rfl (lv_room (Nat.le_of_ble_eq_true rfl)) dX11_read_174 ⟨Nat.zero_le _, Nat.zero_le _⟩) hS (fun _ h => h) (fun H locs hP hS => ?_)
                have hP : va_P D vwCl (MW cI cB cZ am τ u37) H := hP
                refine lv_aload_n hx hb dX11_read_177 rfl (lv_at hl 0 rfl) ?_
                refine lv_dup hx hb dX11_read_178 rfl ?_
                refine va_get (D := D) (ci := 11) (v := .int (u37 0 18)) (C := RX11) (T := TX11) (N := 30) hx hb hts iX11_read_X11 hown hK hP 0 mw_0 rfl 18 (by decide) (hts (.fieldLink RX11 117 RX11 "items" "I") (by decide +kernel)) (fun _ h9 => h9) rfl dX11_read_179 ?_
                refine lv_iconst (v := 1) hx hb dX11_read_182 (by decide) ?_
                refine lv_iadd hx hb dX11_read_183 ?_
                refine va_put (D := D) (ci := 11) (v := .int ((u37 0 18) + 1)) (ty := .int) (C := RX11) (T := TX11) (N := 30) hx hb hts iX11_read_X11 tyX11 tyX11_ok nmX11 hown hK hP (mw_D hap) hS 0 mw_0 rfl 18 (by decide) (hts (.fieldLink RX11 117 RX11 "items" "I") (by decide +kernel)) (fun _ h9 => h9) rfl (by decide +kernel) rfl rfl (Nat.le_of_ble_eq_true rfl) dX11_read_184 (fun H locs hP _ hS => ?_)
                have hP := mw_s0_18 hP
                obtain ⟨σ39, e40, h⟩ := k_bd h
                rw [k_sm e40] at hP
                refine lv_goto (tgt := 91) hx hb dX11_read_187 (by decide) ?_
                exact ih σ39 _ _ _ ls hP hS (lv_sub hl [0] rfl) h kk
          clear h
          have h := e28
          clear e28
          refine lv_icmp_ne (tgt := 144) hx hb dX11_read_129 (by decide) (fun c129 => ?_) (fun c129 => ?_)
          · replace h := k_in c129 h
            refine lv_iconst (v := 0) hx hb dX11_read_144 (by decide) ?_
            obtain rfl := k_sm h
            exact key _ _ _ hP hS (lv_sub hl [1, 0] rfl)
          · replace h := k_ip c129 h
            refine lv_aload_n hx hb dX11_read_132 rfl (lv_at hl 1 rfl) ?_
            refine lv_iload_n hx hb dX11_read_133 rfl (lv_at hl 0 rfl) ?_
            obtain ⟨v26, e27, h⟩ := k_bd h
            refine rd_calli (va_runV (As := [.int j23]) (rest := [.ref (am 0)]) C0.1 (kX11_may l (D := D) (cI := cI) (cB := cB) (cZ := cZ) (am := am) (τ := τ) σ j23 _ e27) (wX11_read_X11_may hts ⟨Nat.le_of_ble_eq_true rfl, Nat.le_of_ble_eq_true rfl⟩) ⟨PW.blind, mw_r0 hK hP, PW.mk hP hK hN⟩ rfl rfl hl.1 rfl (lv_room (Nat.le_of_ble_eq_true rfl)) dX11_read_134 ⟨Nat.zero_le _, Nat.zero_le _⟩) ?_
            refine lv_if_eq (tgt := 144) hx hb dX11_read_137 (by decide) (fun c137 => ?_) (fun c137 => ?_)
            · replace h := k_ip c137 h
              refine lv_iconst (v := 0) hx hb dX11_read_144 (by decide) ?_
              obtain rfl := k_sm h
              exact key _ _ _ hP hS (lv_sub hl [1, 0] rfl)
            · replace h := k_in c137 h
              refine lv_iconst (v := 1) hx hb dX11_read_140 (by decide) ?_
              refine lv_goto (tgt := 145) hx hb dX11_read_141 (by decide) ?_
              obtain rfl := k_sm h
              exact key _ _ _ hP hS (lv_sub hl [1, 0] rfl)
        clear h
        have h := e24
        clear e24
        refine lv_icmp_ne (tgt := 121) hx hb dX11_read_111 (by decide) (fun c111 => ?_) (fun c111 => ?_)
        · replace h := k_in c111 h
          refine lv_iconst (v := 0) hx hb dX11_read_121 (by decide) ?_
          obtain rfl := k_sm h
          exact key _ _ _ hP hS (lv_sub hl [0] rfl)
        · replace h := k_ip c111 h
          refine lv_aload_n hx hb dX11_read_114 rfl (lv_at hl 0 rfl) ?_
          refine va_get (D := D) (ci := 11) (v := .int (σ 0 16)) (C := RX11) (T := TX11) (N := 30) hx hb hts iX11_read_X11 hown hK hP 0 mw_0 rfl 16 (by decide) (hts (.fieldLink RX11 93 RX11 "value" "I") (by decide +kernel)) (fun _ h9 => h9) rfl dX11_read_115 ?_
          refine lv_goto (tgt := 122) hx hb dX11_read_118 (by decide) ?_
          obtain rfl := k_sm h
          exact key _ _ _ hP hS (lv_sub hl [0] rfl)
set_option maxHeartbeats 4000000 in
set_option maxRecDepth 100000 in
theorem kX11_read (l : Launch) {D : va_G} {cI cB cZ : ClassId} {am : Nat → Nat} {τ : Int64} (hap : mwX am) (σ : Sg) (o : Sg) (h : pX11_read σ = some o) : Met l yX11_read wsX11_read rmX11_read (va_Pc [.ref (am 0)] (PW D cI cB cZ (MW cI cB cZ am τ σ))) (QV D (MW cI cB cZ am τ) (mwA am) o) 0 0 (mwA am) := by
  refine Met.ofW (cc := cX11_read) (maxL := 2) (ret := none) (by decide) rfl ?_
  intro p e s m args below meth c s₁ B hml hv
  obtain ⟨rfl, hP, hK, hN⟩ := hv
  have C0 : Cx p s m _ meth c cX11_read 2 none RX11 wsX11_read := ⟨⟨B.exec, B.bytes, hml, findClass_of_methodNamed B.named, atoms_spec B.pre⟩, B.returns, B.notSynchronized⟩
  obtain ⟨⟨hx, hb, -, hown, hts⟩, hr, hlk⟩ := id C0
  have hS : va_S (mwA am) s.heap s.heap [] := va_S.rf
  have hl := lv_entry ([.ref (am 0)]) (n := 2) (Nat.le_of_ble_eq_true rfl)
  rw [lg_entry_eq]
  generalize (lg_sl ([.ref (am 0)]) ++ List.replicate (2 - (lg_sl ([.ref (am 0)])).length) Slot.unset).toArray = ls at hl ⊢
  have hl : lv_has ls 2 [(0, .ref (am 0))] := hl
  rw [pX11_read] at h
  refine lv_aload_n hx hb dX11_read_0 rfl (lv_at hl 0 rfl) ?_
  refine lv_iconst (v := 0) hx hb dX11_read_1 (by decide) ?_
  refine va_put (D := D) (ci := 11) (v := .int 0) (ty := .int) (C := RX11) (T := TX11) (N := 30) hx hb hts iX11_read_X11 tyX11 tyX11_ok nmX11 hown hK hP (mw_D hap) hS 0 mw_0 rfl 13 (by decide) (hts (.fieldLink RX11 83 RX11 "at" "I") (by decide +kernel)) (fun _ h9 => h9) rfl (by decide +kernel) rfl rfl (Nat.le_of_ble_eq_true rfl) dX11_read_2 (fun H locs hP _ hS => ?_)
  have hP := mw_s0_13 hP
  obtain ⟨σ1, e2, h⟩ := k_bd h
  rw [k_sm e2] at hP
  refine lv_aload_n hx hb dX11_read_5 rfl (lv_at hl 0 rfl) ?_
  refine lv_iconst (v := 0) hx hb dX11_read_6 (by decide) ?_
  refine va_put (D := D) (ci := 11) (v := .int 0) (ty := .boolean) (C := RX11) (T := TX11) (N := 30) hx hb hts iX11_read_X11 tyX11 tyX11_ok nmX11 hown hK hP (mw_D hap) hS 0 mw_0 rfl 17 (by decide) (hts (.fieldLink RX11 99 RX11 "isWrong" "Z") (by decide +kernel)) (fun _ h9 => h9) rfl (by decide +kernel) rfl rfl (Nat.le_of_ble_eq_true rfl) dX11_read_7 (fun H locs hP _ hS => ?_)
  have hP := mw_s0_17 hP
  obtain ⟨σ3, e4, h⟩ := k_bd h
  rw [k_sm e4] at hP
  refine lv_aload_n hx hb dX11_read_10 rfl (lv_at hl 0 rfl) ?_
  refine lv_iconst (v := 0) hx hb dX11_read_11 (by decide) ?_
  refine va_put (D := D) (ci := 11) (v := .int 0) (ty := .int) (C := RX11) (T := TX11) (N := 30) hx hb hts iX11_read_X11 tyX11 tyX11_ok nmX11 hown hK hP (mw_D hap) hS 0 mw_0 rfl 18 (by decide) (hts (.fieldLink RX11 117 RX11 "items" "I") (by decide +kernel)) (fun _ h9 => h9) rfl (by decide +kernel) rfl rfl (Nat.le_of_ble_eq_true rfl) dX11_read_12 (fun H locs hP _ hS => ?_)
  have hP := mw_s0_18 hP
  obtain ⟨σ5, e6, h⟩ := k_bd h
  rw [k_sm e6] at hP
  refine lv_aload_n hx hb dX11_read_15 rfl (lv_at hl 0 rfl) ?_
  refine va_get (D := D) (ci := 11) (v := .ref (am 4)) (C := RX11) (T := TX11) (N := 30) hx hb hts iX11_read_X11 hown hK hP 0 mw_0 rfl 4 (by decide) (hts (.fieldLink RX11 20 RX11 "rafts" "[I") (by decide +kernel)) (fun _ h9 => h9) rfl dX11_read_16 ?_
  refine lv_iconst (v := 1) hx hb dX11_read_19 (by decide) ?_
  refine lv_iconst (v := 0) hx hb dX11_read_20 (by decide) ?_
  obtain ⟨σ7, e8, h⟩ := k_bd h
  refine va_iast hx hb hK hP (mw_D hap) hS 4 0 mw_4 rfl (k_wr e8).1 dX11_read_21 (fun H locs hP _ hS => ?_)
  have hP := mw_s4 hP
  rw [(k_wr e8).2] at hP
  refine lv_aload_n hx hb dX11_read_22 rfl (lv_at hl 0 rfl) ?_
  refine va_get (D := D) (ci := 11) (v := .ref (am 7)) (C := RX11) (T := TX11) (N := 30) hx hb hts iX11_read_X11 hown hK hP 0 mw_0 rfl 7 (by decide) (hts (.fieldLink RX11 29 RX11 "anchors" "[I") (by decide +kernel)) (fun _ h9 => h9) rfl dX11_read_23 ?_
  refine lv_iconst (v := 1) hx hb dX11_read_26 (by decide) ?_
  refine lv_iconst (v := 0) hx hb dX11_read_27 (by decide) ?_
  obtain ⟨σ9, e10, h⟩ := k_bd h
  refine va_iast hx hb hK hP (mw_D hap) hS 7 0 mw_7 rfl (k_wr e10).1 dX11_read_28 (fun H locs hP _ hS => ?_)
  have hP := mw_s7 hP
  rw [(k_wr e10).2] at hP
  refine lv_iconst (v := 0) hx hb dX11_read_29 (by decide) ?_
  refine lv_istore_n (lv' := [(1, .int 0), (0, .ref (am 0))]) hx hb dX11_read_30 rfl hl (by decide) rfl (fun ls hl => ?_)
  obtain ⟨w15, e16, h⟩ := k_bd h
  refine bX11_read_L31 C0 hK hN hap  2000 0 σ9 _ _ _ ls hP hS (lv_sub hl [1, 0] rfl) e16 (fun H locs ls hP hS hl => ?_)
  refine lv_iconst (v := 0) hx hb dX11_read_63 (by decide) ?_
  refine lv_istore_n (lv' := [(1, .int 0), (0, .ref (am 0))]) hx hb dX11_read_64 rfl hl (by decide) rfl (fun ls hl => ?_)
  obtain ⟨w19, e20, h⟩ := k_bd h
  refine bX11_read_L65 C0 hK hN hap  2000 0 w15 _ _ _ ls hP hS (lv_sub hl [1, 0] rfl) e20 (fun H locs ls hP hS hl => ?_)
  refine lv_aload_n hx hb dX11_read_87 rfl (lv_at hl 0 rfl) ?_
  obtain ⟨u21, e22, h⟩ := k_bd h
  refine wr_callv (va_runV (As := []) (rest := []) C0.1 (kX11_step l (D := D) (cI := cI) (cB := cB) (cZ := cZ) (τ := τ) hap w19  _ e22) (wX11_read_X11_step hts ⟨Nat.le_of_ble_eq_true rfl, Nat.le_of_ble_eq_true rfl⟩) ⟨PW.blind, mw_r0 hK hP, PW.mk hP hK hN⟩ rfl rfl hl.1 rfl (lv_room (Nat.le_of_ble_eq_true rfl)) dX11_read_88 ⟨Nat.zero_le _, Nat.zero_le _⟩) hS (fun _ h => h) (fun H locs hP hS => ?_)
  have hP : va_P D vwCl (MW cI cB cZ am τ u21) H := hP
  obtain ⟨w41, e42, h⟩ := k_bd h
  refine bX11_read_L91 C0 hK hN hap  2000 u21 _ _ _ ls hP hS (lv_sub hl [0] rfl) e42 (fun H locs ls hP hS hl => ?_)
  obtain rfl := k_sm h
  exact W.vret hx hb hr (fun t ht hW => ⟨⟨_, rfl, rfl, pw_end ht hP⟩, hS.F ht⟩) hS.2.2 dX11_read_190
set_option maxHeartbeats 4000000 in
set_option maxRecDepth 100000 in
theorem bX11_town_L45 {p : Program} {l : Launch} {e : Env} {s : State} {m : MethodId} {args : Array Value} {below : List Frame} {meth : Method} {c : Code} {Q : State → Prop} {D : va_G} {cI cB cZ : ClassId} {am : Nat → Nat} (C0 : Cx p s m args meth c cX11_town 2 (some .int) RX11 wsX11_town) (hK : va_K D vwCl (tysA cI cB cZ) s) (hN : NW s) (hap : mwX am) {τ : Int64}  : ∀ (n : Nat) (x1 : Int32) (σ : Sg) (v : Sg) (H : Heap) (locs : List Loc) (ls : Array Slot), va_P D vwCl (MW cI cB cZ am τ σ) H → va_S (mwA am) s.heap H locs → lv_has ls 2 [(0, .ref (am 0)), (1, .int x1)] → pX11_town_L45  n x1 σ = some v → (∀ (H1 : Heap) (locs1 : List Loc) (ls1 : Array Slot), va_P D vwCl (MW cI cB cZ am τ v) H1 → va_S (mwA am) s.heap H1 locs1 → lv_has ls1 2 [(0, .ref (am 0))] → W p l e rmX11_town s m args below meth c H1 locs1 0 0 Q (F0 m 64 ls1 [])) → W p l e rmX11_town s m args below meth c H locs 0 0 Q (F0 m 45 ls []) := by
  obtain ⟨⟨hx, hb, hml, hown, hts⟩, hr, hlk⟩ := id C0
  intro n
  induction n with
  | zero =>
    intro x1 σ v H locs ls hP hS hl h kk
    exact absurd h (by simp [pX11_town_L45])
  | succ n ih =>
    intro x1 σ v H locs ls hP hS hl h kk
    rw [pX11_town_L45] at h
    refine lv_iload_n hx hb dX11_town_45 rfl (lv_at hl 1 rfl) ?_
    refine lv_bipush (v := 45) hx hb dX11_town_46 (by decide) ?_
    refine lv_icmp_ge (tgt := 64) hx hb dX11_town_48 (by decide) (fun c48 => ?_) (fun c48 => ?_)
    · replace h := k_ip c48 h
      obtain rfl := k_sm h
      exact kk _ _ _ hP hS (lv_sub hl [0] rfl)
    · replace h := k_in c48 h
      refine lv_aload_n hx hb dX11_town_51 rfl (lv_at hl 0 rfl) ?_
      refine va_get (D := D) (ci := 11) (v := .ref (am 13)) (C := RX11) (T := TX11) (N := 30) hx hb hts iX11_town_X11 hown hK hP 0 mw_0 rfl 19 (by decide) (hts (.fieldLink RX11 47 RX11 "now" "[I") (by decide +kernel)) (fun _ h9 => h9) rfl dX11_town_52 ?_
      refine lv_iload_n hx hb dX11_town_55 rfl (lv_at hl 1 rfl) ?_
      refine lv_iconst (v := 0) hx hb dX11_town_56 (by decide) ?_
      obtain ⟨σ11, e12, h⟩ := k_bd h
      refine va_iast hx hb hK hP (mw_D hap) hS 13 0 mw_13 rfl (k_wr e12).1 dX11_town_57 (fun H locs hP _ hS => ?_)
      have hP := mw_s13 hP
      rw [(k_wr e12).2] at hP
      refine lv_iinc (v := (x1 + 1)) (lv' := [(1, .int (x1 + 1)), (0, .ref (am 0))]) hx hb dX11_town_58 hl (k := 1) rfl rfl (by decide) rfl (fun ls hl => ?_)
      refine lv_goto (tgt := 45) hx hb dX11_town_61 (by decide) ?_
      exact ih (x1 + 1) σ11 _ _ _ ls hP hS (lv_sub hl [1, 0] rfl) h kk
set_option maxHeartbeats 4000000 in
set_option maxRecDepth 100000 in
theorem bX11_town_L66 {p : Program} {l : Launch} {e : Env} {s : State} {m : MethodId} {args : Array Value} {below : List Frame} {meth : Method} {c : Code} {Q : State → Prop} {D : va_G} {cI cB cZ : ClassId} {am : Nat → Nat} (C0 : Cx p s m args meth c cX11_town 2 (some .int) RX11 wsX11_town) (hK : va_K D vwCl (tysA cI cB cZ) s) (hN : NW s) (hap : mwX am) {τ : Int64}  : ∀ (n : Nat) (x1 : Int32) (σ : Sg) (v : Sg) (H : Heap) (locs : List Loc) (ls : Array Slot), va_P D vwCl (MW cI cB cZ am τ σ) H → va_S (mwA am) s.heap H locs → lv_has ls 2 [(0, .ref (am 0)), (1, .int x1)] → pX11_town_L66  n x1 σ = some v → (∀ (H1 : Heap) (locs1 : List Loc) (ls1 : Array Slot), va_P D vwCl (MW cI cB cZ am τ v) H1 → va_S (mwA am) s.heap H1 locs1 → lv_has ls1 2 [(0, .ref (am 0))] → W p l e rmX11_town s m args below meth c H1 locs1 0 0 Q (F0 m 108 ls1 [])) → W p l e rmX11_town s m args below meth c H locs 0 0 Q (F0 m 66 ls []) := by
  obtain ⟨⟨hx, hb, hml, hown, hts⟩, hr, hlk⟩ := id C0
  intro n
  induction n with
  | zero =>
    intro x1 σ v H locs ls hP hS hl h kk
    exact absurd h (by simp [pX11_town_L66])
  | succ n ih =>
    intro x1 σ v H locs ls hP hS hl h kk
    rw [pX11_town_L66] at h
    refine lv_iload_n hx hb dX11_town_66 rfl (lv_at hl 1 rfl) ?_
    refine lv_bipush (v := 10) hx hb dX11_town_67 (by decide) ?_
    refine lv_icmp_ge (tgt := 108) hx hb dX11_town_69 (by decide) (fun c69 => ?_) (fun c69 => ?_)
    · replace h := k_ip c69 h
      obtain rfl := k_sm h
      exact kk _ _ _ hP hS (lv_sub hl [0] rfl)
    · replace h := k_in c69 h
      refine lv_aload_n hx hb dX11_town_72 rfl (lv_at hl 0 rfl) ?_
      refine va_get (D := D) (ci := 11) (v := .ref (am 2)) (C := RX11) (T := TX11) (N := 30) hx hb hts iX11_town_X11 hown hK hP 0 mw_0 rfl 2 (by decide) (hts (.fieldLink RX11 13 RX11 "deep" "[I") (by decide +kernel)) (fun _ h9 => h9) rfl dX11_town_73 ?_
      refine lv_iload_n hx hb dX11_town_76 rfl (lv_at hl 1 rfl) ?_
      refine lv_aload_n hx hb dX11_town_77 rfl (lv_at hl 0 rfl) ?_
      refine va_get (D := D) (ci := 11) (v := .ref (am 2)) (C := RX11) (T := TX11) (N := 30) hx hb hts iX11_town_X11 hown hK hP 0 mw_0 rfl 2 (by decide) (hts (.fieldLink RX11 13 RX11 "deep" "[I") (by decide +kernel)) (fun _ h9 => h9) rfl dX11_town_78 ?_
      refine lv_bipush (v := 10) hx hb dX11_town_81 (by decide) ?_
      refine lv_iload_n hx hb dX11_town_83 rfl (lv_at hl 1 rfl) ?_
      refine lv_iadd hx hb dX11_town_84 ?_
      obtain ⟨v15, e16, h⟩ := k_bd h
      refine va_iald hx hb hK hP 2 0 mw_2 rfl (k_rd e16).1 dX11_town_85 ?_
      refine lv_nmi (k_rd e16).2 ?_
      obtain ⟨σ17, e18, h⟩ := k_bd h
      refine va_iast hx hb hK hP (mw_D hap) hS 2 0 mw_2 rfl (k_wr e18).1 dX11_town_86 (fun H locs hP _ hS => ?_)
      have hP := mw_s2 hP
      rw [(k_wr e18).2] at hP
      refine lv_aload_n hx hb dX11_town_87 rfl (lv_at hl 0 rfl) ?_
      refine va_get (D := D) (ci := 11) (v := .ref (am 3)) (C := RX11) (T := TX11) (N := 30) hx hb hts iX11_town_X11 hown hK hP 0 mw_0 rfl 3 (by decide) (hts (.fieldLink RX11 17 RX11 "grip" "[I") (by decide +kernel)) (fun _ h9 => h9) rfl dX11_town_88 ?_
      refine lv_iload_n hx hb dX11_town_91 rfl (lv_at hl 1 rfl) ?_
      refine lv_aload_n hx hb dX11_town_92 rfl (lv_at hl 0 rfl) ?_
      refine va_get (D := D) (ci := 11) (v := .ref (am 3)) (C := RX11) (T := TX11) (N := 30) hx hb hts iX11_town_X11 hown hK hP 0 mw_0 rfl 3 (by decide) (hts (.fieldLink RX11 17 RX11 "grip" "[I") (by decide +kernel)) (fun _ h9 => h9) rfl dX11_town_93 ?_
      refine lv_bipush (v := 10) hx hb dX11_town_96 (by decide) ?_
      refine lv_iload_n hx hb dX11_town_98 rfl (lv_at hl 1 rfl) ?_
      refine lv_iadd hx hb dX11_town_99 ?_
      obtain ⟨v19, e20, h⟩ := k_bd h
      refine va_iald hx hb hK hP 3 0 mw_3 rfl (k_rd e20).1 dX11_town_100 ?_
      refine lv_nmi (k_rd e20).2 ?_
      obtain ⟨σ21, e22, h⟩ := k_bd h
      refine va_iast hx hb hK hP (mw_D hap) hS 3 0 mw_3 rfl (k_wr e22).1 dX11_town_101 (fun H locs hP _ hS => ?_)
      have hP := mw_s3 hP
      rw [(k_wr e22).2] at hP
      refine lv_iinc (v := (x1 + 1)) (lv' := [(1, .int (x1 + 1)), (0, .ref (am 0))]) hx hb dX11_town_102 hl (k := 1) rfl rfl (by decide) rfl (fun ls hl => ?_)
      refine lv_goto (tgt := 66) hx hb dX11_town_105 (by decide) ?_
      exact ih (x1 + 1) σ21 _ _ _ ls hP hS (lv_sub hl [1, 0] rfl) h kk
set_option maxHeartbeats 4000000 in
set_option maxRecDepth 100000 in
theorem bX11_town_L110 {p : Program} {l : Launch} {e : Env} {s : State} {m : MethodId} {args : Array Value} {below : List Frame} {meth : Method} {c : Code} {Q : State → Prop} {D : va_G} {cI cB cZ : ClassId} {am : Nat → Nat} (C0 : Cx p s m args meth c cX11_town 2 (some .int) RX11 wsX11_town) (hK : va_K D vwCl (tysA cI cB cZ) s) (hN : NW s) (hap : mwX am) {τ : Int64}  : ∀ (n : Nat) (x1 : Int32) (σ : Sg) (v : Sg) (H : Heap) (locs : List Loc) (ls : Array Slot), va_P D vwCl (MW cI cB cZ am τ σ) H → va_S (mwA am) s.heap H locs → lv_has ls 2 [(0, .ref (am 0)), (1, .int x1)] → pX11_town_L110  n x1 σ = some v → (∀ (H1 : Heap) (locs1 : List Loc) (ls1 : Array Slot), va_P D vwCl (MW cI cB cZ am τ v) H1 → va_S (mwA am) s.heap H1 locs1 → lv_has ls1 2 [(0, .ref (am 0))] → W p l e rmX11_town s m args below meth c H1 locs1 0 0 Q (F0 m 169 ls1 [])) → W p l e rmX11_town s m args below meth c H locs 0 0 Q (F0 m 110 ls []) := by
  obtain ⟨⟨hx, hb, hml, hown, hts⟩, hr, hlk⟩ := id C0
  intro n
  induction n with
  | zero =>
    intro x1 σ v H locs ls hP hS hl h kk
    exact absurd h (by simp [pX11_town_L110])
  | succ n ih =>
    intro x1 σ v H locs ls hP hS hl h kk
    rw [pX11_town_L110] at h
    refine lv_iload_n hx hb dX11_town_110 rfl (lv_at hl 1 rfl) ?_
    refine lv_bipush (v := 6) hx hb dX11_town_111 (by decide) ?_
    refine lv_icmp_ge (tgt := 169) hx hb dX11_town_113 (by decide) (fun c113 => ?_) (fun c113 => ?_)
    · replace h := k_ip c113 h
      obtain rfl := k_sm h
      exact kk _ _ _ hP hS (lv_sub hl [0] rfl)
    · replace h := k_in c113 h
      refine lv_aload_n hx hb dX11_town_116 rfl (lv_at hl 0 rfl) ?_
      refine va_get (D := D) (ci := 11) (v := .ref (am 6)) (C := RX11) (T := TX11) (N := 30) hx hb hts iX11_town_X11 hown hK hP 0 mw_0 rfl 6 (by decide) (hts (.fieldLink RX11 26 RX11 "roped" "[I") (by decide +kernel)) (fun _ h9 => h9) rfl dX11_town_117 ?_
      refine lv_iload_n hx hb dX11_town_120 rfl (lv_at hl 1 rfl) ?_
      refine lv_aload_n hx hb dX11_town_121 rfl (lv_at hl 0 rfl) ?_
      refine va_get (D := D) (ci := 11) (v := .ref (am 6)) (C := RX11) (T := TX11) (N := 30) hx hb hts iX11_town_X11 hown hK hP 0 mw_0 rfl 6 (by decide) (hts (.fieldLink RX11 26 RX11 "roped" "[I") (by decide +kernel)) (fun _ h9 => h9) rfl dX11_town_122 ?_
      refine lv_bipush (v := 6) hx hb dX11_town_125 (by decide) ?_
      refine lv_iload_n hx hb dX11_town_127 rfl (lv_at hl 1 rfl) ?_
      refine lv_iadd hx hb dX11_town_128 ?_
      obtain ⟨v25, e26, h⟩ := k_bd h
      refine va_iald hx hb hK hP 6 0 mw_6 rfl (k_rd e26).1 dX11_town_129 ?_
      refine lv_nmi (k_rd e26).2 ?_
      obtain ⟨σ27, e28, h⟩ := k_bd h
      refine va_iast hx hb hK hP (mw_D hap) hS 6 0 mw_6 rfl (k_wr e28).1 dX11_town_130 (fun H locs hP _ hS => ?_)
      have hP := mw_s6 hP
      rw [(k_wr e28).2] at hP
      refine lv_aload_n hx hb dX11_town_131 rfl (lv_at hl 0 rfl) ?_
      refine va_get (D := D) (ci := 11) (v := .ref (am 13)) (C := RX11) (T := TX11) (N := 30) hx hb hts iX11_town_X11 hown hK hP 0 mw_0 rfl 19 (by decide) (hts (.fieldLink RX11 47 RX11 "now" "[I") (by decide +kernel)) (fun _ h9 => h9) rfl dX11_town_132 ?_
      refine lv_bipush (v := 33) hx hb dX11_town_135 (by decide) ?_
      refine lv_iload_n hx hb dX11_town_137 rfl (lv_at hl 1 rfl) ?_
      refine lv_iadd hx hb dX11_town_138 ?_
      refine lv_iload_n hx hb dX11_town_139 rfl (lv_at hl 1 rfl) ?_
      refine lv_aload_n hx hb dX11_town_140 rfl (lv_at hl 0 rfl) ?_
      refine va_get (D := D) (ci := 11) (v := .ref (am 4)) (C := RX11) (T := TX11) (N := 30) hx hb hts iX11_town_X11 hown hK hP 0 mw_0 rfl 4 (by decide) (hts (.fieldLink RX11 20 RX11 "rafts" "[I") (by decide +kernel)) (fun _ h9 => h9) rfl dX11_town_141 ?_
      refine lv_iconst (v := 0) hx hb dX11_town_144 (by decide) ?_
      obtain ⟨v29, e30, h⟩ := k_bd h
      refine va_iald hx hb hK hP 4 0 mw_4 rfl (k_rd e30).1 dX11_town_145 ?_
      refine lv_nmi (k_rd e30).2 ?_
      refine lv_icmp_ge (tgt := 161) hx hb dX11_town_146 (by decide) (fun c146 => ?_) (fun c146 => ?_)
      · replace h := k_ip c146 h
        refine lv_iconst (v := 0) hx hb dX11_town_161 (by decide) ?_
        obtain ⟨σ31, e32, h⟩ := k_bd h
        refine va_iast hx hb hK hP (mw_D hap) hS 13 0 mw_13 rfl (k_wr e32).1 dX11_town_162 (fun H locs hP _ hS => ?_)
        have hP := mw_s13 hP
        rw [(k_wr e32).2] at hP
        refine lv_iinc (v := (x1 + 1)) (lv' := [(1, .int (x1 + 1)), (0, .ref (am 0))]) hx hb dX11_town_163 hl (k := 1) rfl rfl (by decide) rfl (fun ls hl => ?_)
        refine lv_goto (tgt := 110) hx hb dX11_town_166 (by decide) ?_
        exact ih (x1 + 1) σ31 _ _ _ ls hP hS (lv_sub hl [1, 0] rfl) h kk
      · replace h := k_in c146 h
        refine lv_aload_n hx hb dX11_town_149 rfl (lv_at hl 0 rfl) ?_
        refine va_get (D := D) (ci := 11) (v := .ref (am 5)) (C := RX11) (T := TX11) (N := 30) hx hb hts iX11_town_X11 hown hK hP 0 mw_0 rfl 5 (by decide) (hts (.fieldLink RX11 23 RX11 "firstNext" "[I") (by decide +kernel)) (fun _ h9 => h9) rfl dX11_town_150 ?_
        refine lv_bipush (v := 6) hx hb dX11_town_153 (by decide) ?_
        refine lv_iload_n hx hb dX11_town_155 rfl (lv_at hl 1 rfl) ?_
        refine lv_iadd hx hb dX11_town_156 ?_
        obtain ⟨v33, e34, h⟩ := k_bd h
        refine va_iald hx hb hK hP 5 0 mw_5 rfl (k_rd e34).1 dX11_town_157 ?_
        refine lv_nmi (k_rd e34).2 ?_
        refine lv_goto (tgt := 162) hx hb dX11_town_158 (by decide) ?_
        obtain ⟨σ35, e36, h⟩ := k_bd h
        refine va_iast hx hb hK hP (mw_D hap) hS 13 0 mw_13 rfl (k_wr e36).1 dX11_town_162 (fun H locs hP _ hS => ?_)
        have hP := mw_s13 hP
        rw [(k_wr e36).2] at hP
        refine lv_iinc (v := (x1 + 1)) (lv' := [(1, .int (x1 + 1)), (0, .ref (am 0))]) hx hb dX11_town_163 hl (k := 1) rfl rfl (by decide) rfl (fun ls hl => ?_)
        refine lv_goto (tgt := 110) hx hb dX11_town_166 (by decide) ?_
        exact ih (x1 + 1) σ35 _ _ _ ls hP hS (lv_sub hl [1, 0] rfl) h kk
set_option maxHeartbeats 4000000 in
set_option maxRecDepth 100000 in
theorem bX11_town_L171 {p : Program} {l : Launch} {e : Env} {s : State} {m : MethodId} {args : Array Value} {below : List Frame} {meth : Method} {c : Code} {Q : State → Prop} {D : va_G} {cI cB cZ : ClassId} {am : Nat → Nat} (C0 : Cx p s m args meth c cX11_town 2 (some .int) RX11 wsX11_town) (hK : va_K D vwCl (tysA cI cB cZ) s) (hN : NW s) (hap : mwX am) {τ : Int64}  : ∀ (n : Nat) (x1 : Int32) (σ : Sg) (v : Sg) (H : Heap) (locs : List Loc) (ls : Array Slot), va_P D vwCl (MW cI cB cZ am τ σ) H → va_S (mwA am) s.heap H locs → lv_has ls 2 [(0, .ref (am 0)), (1, .int x1)] → pX11_town_L171  n x1 σ = some v → (∀ (H1 : Heap) (locs1 : List Loc) (ls1 : Array Slot), va_P D vwCl (MW cI cB cZ am τ v) H1 → va_S (mwA am) s.heap H1 locs1 → lv_has ls1 2 [(0, .ref (am 0))] → W p l e rmX11_town s m args below meth c H1 locs1 0 0 Q (F0 m 267 ls1 [])) → W p l e rmX11_town s m args below meth c H locs 0 0 Q (F0 m 171 ls []) := by
  obtain ⟨⟨hx, hb, hml, hown, hts⟩, hr, hlk⟩ := id C0
  intro n
  induction n with
  | zero =>
    intro x1 σ v H locs ls hP hS hl h kk
    exact absurd h (by simp [pX11_town_L171])
  | succ n ih =>
    intro x1 σ v H locs ls hP hS hl h kk
    rw [pX11_town_L171] at h
    refine lv_iload_n hx hb dX11_town_171 rfl (lv_at hl 1 rfl) ?_
    refine lv_aload_n hx hb dX11_town_172 rfl (lv_at hl 0 rfl) ?_
    refine va_get (D := D) (ci := 11) (v := .ref (am 7)) (C := RX11) (T := TX11) (N := 30) hx hb hts iX11_town_X11 hown hK hP 0 mw_0 rfl 7 (by decide) (hts (.fieldLink RX11 29 RX11 "anchors" "[I") (by decide +kernel)) (fun _ h9 => h9) rfl dX11_town_173 ?_
    refine lv_iconst (v := 0) hx hb dX11_town_176 (by decide) ?_
    obtain ⟨v39, e40, h⟩ := k_bd h
    refine va_iald hx hb hK hP 7 0 mw_7 rfl (k_rd e40).1 dX11_town_177 ?_
    refine lv_nmi (k_rd e40).2 ?_
    refine lv_icmp_ge (tgt := 267) hx hb dX11_town_178 (by decide) (fun c178 => ?_) (fun c178 => ?_)
    · replace h := k_ip c178 h
      obtain rfl := k_sm h
      exact kk _ _ _ hP hS (lv_sub hl [0] rfl)
    · replace h := k_in c178 h
      refine lv_aload_n hx hb dX11_town_181 rfl (lv_at hl 0 rfl) ?_
      refine va_get (D := D) (ci := 11) (v := .ref (am 8)) (C := RX11) (T := TX11) (N := 30) hx hb hts iX11_town_X11 hown hK hP 0 mw_0 rfl 8 (by decide) (hts (.fieldLink RX11 32 RX11 "owner" "[I") (by decide +kernel)) (fun _ h9 => h9) rfl dX11_town_182 ?_
      refine lv_iload_n hx hb dX11_town_185 rfl (lv_at hl 1 rfl) ?_
      refine lv_aload_n hx hb dX11_town_186 rfl (lv_at hl 0 rfl) ?_
      refine va_get (D := D) (ci := 11) (v := .ref (am 8)) (C := RX11) (T := TX11) (N := 30) hx hb hts iX11_town_X11 hown hK hP 0 mw_0 rfl 8 (by decide) (hts (.fieldLink RX11 32 RX11 "owner" "[I") (by decide +kernel)) (fun _ h9 => h9) rfl dX11_town_187 ?_
      refine lv_bipush (v := 8) hx hb dX11_town_190 (by decide) ?_
      refine lv_iload_n hx hb dX11_town_192 rfl (lv_at hl 1 rfl) ?_
      refine lv_iadd hx hb dX11_town_193 ?_
      obtain ⟨v41, e42, h⟩ := k_bd h
      refine va_iald hx hb hK hP 8 0 mw_8 rfl (k_rd e42).1 dX11_town_194 ?_
      refine lv_nmi (k_rd e42).2 ?_
      obtain ⟨σ43, e44, h⟩ := k_bd h
      refine va_iast hx hb hK hP (mw_D hap) hS 8 0 mw_8 rfl (k_wr e44).1 dX11_town_195 (fun H locs hP _ hS => ?_)
      have hP := mw_s8 hP
      rw [(k_wr e44).2] at hP
      refine lv_aload_n hx hb dX11_town_196 rfl (lv_at hl 0 rfl) ?_
      refine va_get (D := D) (ci := 11) (v := .ref (am 10)) (C := RX11) (T := TX11) (N := 30) hx hb hts iX11_town_X11 hown hK hP 0 mw_0 rfl 10 (by decide) (hts (.fieldLink RX11 38 RX11 "weight" "[I") (by decide +kernel)) (fun _ h9 => h9) rfl dX11_town_197 ?_
      refine lv_iload_n hx hb dX11_town_200 rfl (lv_at hl 1 rfl) ?_
      refine lv_aload_n hx hb dX11_town_201 rfl (lv_at hl 0 rfl) ?_
      refine va_get (D := D) (ci := 11) (v := .ref (am 10)) (C := RX11) (T := TX11) (N := 30) hx hb hts iX11_town_X11 hown hK hP 0 mw_0 rfl 10 (by decide) (hts (.fieldLink RX11 38 RX11 "weight" "[I") (by decide +kernel)) (fun _ h9 => h9) rfl dX11_town_202 ?_
      refine lv_bipush (v := 8) hx hb dX11_town_205 (by decide) ?_
      refine lv_iload_n hx hb dX11_town_207 rfl (lv_at hl 1 rfl) ?_
      refine lv_iadd hx hb dX11_town_208 ?_
      obtain ⟨v45, e46, h⟩ := k_bd h
      refine va_iald hx hb hK hP 10 0 mw_10 rfl (k_rd e46).1 dX11_town_209 ?_
      refine lv_nmi (k_rd e46).2 ?_
      obtain ⟨σ47, e48, h⟩ := k_bd h
      refine va_iast hx hb hK hP (mw_D hap) hS 10 0 mw_10 rfl (k_wr e48).1 dX11_town_210 (fun H locs hP _ hS => ?_)
      have hP := mw_s10 hP
      rw [(k_wr e48).2] at hP
      refine lv_aload_n hx hb dX11_town_211 rfl (lv_at hl 0 rfl) ?_
      refine va_get (D := D) (ci := 11) (v := .ref (am 12)) (C := RX11) (T := TX11) (N := 30) hx hb hts iX11_town_X11 hown hK hP 0 mw_0 rfl 12 (by decide) (hts (.fieldLink RX11 44 RX11 "worth" "[I") (by decide +kernel)) (fun _ h9 => h9) rfl dX11_town_212 ?_
      refine lv_iload_n hx hb dX11_town_215 rfl (lv_at hl 1 rfl) ?_
      refine lv_aload_n hx hb dX11_town_216 rfl (lv_at hl 0 rfl) ?_
      refine va_get (D := D) (ci := 11) (v := .ref (am 12)) (C := RX11) (T := TX11) (N := 30) hx hb hts iX11_town_X11 hown hK hP 0 mw_0 rfl 12 (by decide) (hts (.fieldLink RX11 44 RX11 "worth" "[I") (by decide +kernel)) (fun _ h9 => h9) rfl dX11_town_217 ?_
      refine lv_bipush (v := 8) hx hb dX11_town_220 (by decide) ?_
      refine lv_iload_n hx hb dX11_town_222 rfl (lv_at hl 1 rfl) ?_
      refine lv_iadd hx hb dX11_town_223 ?_
      obtain ⟨v49, e50, h⟩ := k_bd h
      refine va_iald hx hb hK hP 12 0 mw_12 rfl (k_rd e50).1 dX11_town_224 ?_
      refine lv_nmi (k_rd e50).2 ?_
      obtain ⟨σ51, e52, h⟩ := k_bd h
      refine va_iast hx hb hK hP (mw_D hap) hS 12 0 mw_12 rfl (k_wr e52).1 dX11_town_225 (fun H locs hP _ hS => ?_)
      have hP := mw_s12 hP
      rw [(k_wr e52).2] at hP
      refine lv_aload_n hx hb dX11_town_226 rfl (lv_at hl 0 rfl) ?_
      refine va_get (D := D) (ci := 11) (v := .ref (am 13)) (C := RX11) (T := TX11) (N := 30) hx hb hts iX11_town_X11 hown hK hP 0 mw_0 rfl 19 (by decide) (hts (.fieldLink RX11 47 RX11 "now" "[I") (by decide +kernel)) (fun _ h9 => h9) rfl dX11_town_227 ?_
      refine lv_iconst (v := 0) hx hb dX11_town_230 (by decide) ?_
      refine lv_iload_n hx hb dX11_town_231 rfl (lv_at hl 1 rfl) ?_
      refine lv_iadd hx hb dX11_town_232 ?_
      refine lv_aload_n hx hb dX11_town_233 rfl (lv_at hl 0 rfl) ?_
      refine va_get (D := D) (ci := 11) (v := .ref (am 9)) (C := RX11) (T := TX11) (N := 30) hx hb hts iX11_town_X11 hown hK hP 0 mw_0 rfl 9 (by decide) (hts (.fieldLink RX11 35 RX11 "firstCell" "[I") (by decide +kernel)) (fun _ h9 => h9) rfl dX11_town_234 ?_
      refine lv_bipush (v := 8) hx hb dX11_town_237 (by decide) ?_
      refine lv_iload_n hx hb dX11_town_239 rfl (lv_at hl 1 rfl) ?_
      refine lv_iadd hx hb dX11_town_240 ?_
      obtain ⟨v53, e54, h⟩ := k_bd h
      refine va_iald hx hb hK hP 9 0 mw_9 rfl (k_rd e54).1 dX11_town_241 ?_
      refine lv_nmi (k_rd e54).2 ?_
      obtain ⟨σ55, e56, h⟩ := k_bd h
      refine va_iast hx hb hK hP (mw_D hap) hS 13 0 mw_13 rfl (k_wr e56).1 dX11_town_242 (fun H locs hP _ hS => ?_)
      have hP := mw_s13 hP
      rw [(k_wr e56).2] at hP
      refine lv_aload_n hx hb dX11_town_243 rfl (lv_at hl 0 rfl) ?_
      refine va_get (D := D) (ci := 11) (v := .ref (am 13)) (C := RX11) (T := TX11) (N := 30) hx hb hts iX11_town_X11 hown hK hP 0 mw_0 rfl 19 (by decide) (hts (.fieldLink RX11 47 RX11 "now" "[I") (by decide +kernel)) (fun _ h9 => h9) rfl dX11_town_244 ?_
      refine lv_bipush (v := 8) hx hb dX11_town_247 (by decide) ?_
      refine lv_iload_n hx hb dX11_town_249 rfl (lv_at hl 1 rfl) ?_
      refine lv_iadd hx hb dX11_town_250 ?_
      refine lv_aload_n hx hb dX11_town_251 rfl (lv_at hl 0 rfl) ?_
      refine va_get (D := D) (ci := 11) (v := .ref (am 11)) (C := RX11) (T := TX11) (N := 30) hx hb hts iX11_town_X11 hown hK hP 0 mw_0 rfl 11 (by decide) (hts (.fieldLink RX11 41 RX11 "firstLinks" "[I") (by decide +kernel)) (fun _ h9 => h9) rfl dX11_town_252 ?_
      refine lv_bipush (v := 8) hx hb dX11_town_255 (by decide) ?_
      refine lv_iload_n hx hb dX11_town_257 rfl (lv_at hl 1 rfl) ?_
      refine lv_iadd hx hb dX11_town_258 ?_
      obtain ⟨v57, e58, h⟩ := k_bd h
      refine va_iald hx hb hK hP 11 0 mw_11 rfl (k_rd e58).1 dX11_town_259 ?_
      refine lv_nmi (k_rd e58).2 ?_
      obtain ⟨σ59, e60, h⟩ := k_bd h
      refine va_iast hx hb hK hP (mw_D hap) hS 13 0 mw_13 rfl (k_wr e60).1 dX11_town_260 (fun H locs hP _ hS => ?_)
      have hP := mw_s13 hP
      rw [(k_wr e60).2] at hP
      refine lv_iinc (v := (x1 + 1)) (lv' := [(1, .int (x1 + 1)), (0, .ref (am 0))]) hx hb dX11_town_261 hl (k := 1) rfl rfl (by decide) rfl (fun ls hl => ?_)
      refine lv_goto (tgt := 171) hx hb dX11_town_264 (by decide) ?_
      exact ih (x1 + 1) σ59 _ _ _ ls hP hS (lv_sub hl [1, 0] rfl) h kk
set_option maxHeartbeats 4000000 in
set_option maxRecDepth 100000 in
theorem kX11_town (l : Launch) {D : va_G} {cI cB cZ : ClassId} {am : Nat → Nat} {τ : Int64} (hap : mwX am) (σ : Sg) (o : (Int32 × Sg)) (h : pX11_town σ = some o) : Met l yX11_town wsX11_town rmX11_town (va_Pc [.ref (am 0)] (PW D cI cB cZ (MW cI cB cZ am τ σ))) (QI D (MW cI cB cZ am τ) (mwA am) o.1 o.2) 0 0 (mwA am) := by
  refine Met.ofW (cc := cX11_town) (maxL := 2) (ret := (some .int)) (by decide) rfl ?_
  intro p e s m args below meth c s₁ B hml hv
  obtain ⟨rfl, hP, hK, hN⟩ := hv
  have C0 : Cx p s m _ meth c cX11_town 2 (some .int) RX11 wsX11_town := ⟨⟨B.exec, B.bytes, hml, findClass_of_methodNamed B.named, atoms_spec B.pre⟩, B.returns, B.notSynchronized⟩
  obtain ⟨⟨hx, hb, -, hown, hts⟩, hr, hlk⟩ := id C0
  have hS : va_S (mwA am) s.heap s.heap [] := va_S.rf
  have hl := lv_entry ([.ref (am 0)]) (n := 2) (Nat.le_of_ble_eq_true rfl)
  rw [lg_entry_eq]
  generalize (lg_sl ([.ref (am 0)]) ++ List.replicate (2 - (lg_sl ([.ref (am 0)])).length) Slot.unset).toArray = ls at hl ⊢
  have hl : lv_has ls 2 [(0, .ref (am 0))] := hl
  rw [pX11_town] at h
  refine lv_aload_n hx hb dX11_town_0 rfl (lv_at hl 0 rfl) ?_
  obtain ⟨u1, e2, h⟩ := k_bd h
  refine wr_callv (va_runV (As := []) (rest := []) C0.1 (kX11_read l (D := D) (cI := cI) (cB := cB) (cZ := cZ) (τ := τ) hap σ  _ e2) (wX11_town_X11_read hts ⟨Nat.le_of_ble_eq_true rfl, Nat.le_of_ble_eq_true rfl⟩) ⟨PW.blind, mw_r0 hK hP, PW.mk hP hK hN⟩ rfl rfl hl.1 rfl (lv_room (Nat.le_of_ble_eq_true rfl)) dX11_town_1 ⟨Nat.zero_le _, Nat.zero_le _⟩) hS (fun _ h => h) (fun H locs hP hS => ?_)
  have hP : va_P D vwCl (MW cI cB cZ am τ u1) H := hP
  refine lv_aload_n hx hb dX11_town_4 rfl (lv_at hl 0 rfl) ?_
  refine va_get (D := D) (ci := 11) (v := .int (u1 0 17)) (C := RX11) (T := TX11) (N := 30) hx hb hts iX11_town_X11 hown hK hP 0 mw_0 rfl 17 (by decide) (hts (.fieldLink RX11 99 RX11 "isWrong" "Z") (by decide +kernel)) (fun _ h9 => h9) rfl dX11_town_5 ?_
  refine lv_if_eq (tgt := 19) hx hb dX11_town_8 (by decide) (fun c8 => ?_) (fun c8 => ?_)
  · replace h := k_ip c8 h
    refine lv_aload_n hx hb dX11_town_19 rfl (lv_at hl 0 rfl) ?_
    refine va_get (D := D) (ci := 11) (v := .ref (am 4)) (C := RX11) (T := TX11) (N := 30) hx hb hts iX11_town_X11 hown hK hP 0 mw_0 rfl 4 (by decide) (hts (.fieldLink RX11 20 RX11 "rafts" "[I") (by decide +kernel)) (fun _ h9 => h9) rfl dX11_town_20 ?_
    refine lv_iconst (v := 0) hx hb dX11_town_23 (by decide) ?_
    refine lv_aload_n hx hb dX11_town_24 rfl (lv_at hl 0 rfl) ?_
    refine va_get (D := D) (ci := 11) (v := .ref (am 4)) (C := RX11) (T := TX11) (N := 30) hx hb hts iX11_town_X11 hown hK hP 0 mw_0 rfl 4 (by decide) (hts (.fieldLink RX11 20 RX11 "rafts" "[I") (by decide +kernel)) (fun _ h9 => h9) rfl dX11_town_25 ?_
    refine lv_iconst (v := 1) hx hb dX11_town_28 (by decide) ?_
    obtain ⟨v3, e4, h⟩ := k_bd h
    refine va_iald hx hb hK hP 4 0 mw_4 rfl (k_rd e4).1 dX11_town_29 ?_
    refine lv_nmi (k_rd e4).2 ?_
    obtain ⟨σ5, e6, h⟩ := k_bd h
    refine va_iast hx hb hK hP (mw_D hap) hS 4 0 mw_4 rfl (k_wr e6).1 dX11_town_30 (fun H locs hP _ hS => ?_)
    have hP := mw_s4 hP
    rw [(k_wr e6).2] at hP
    refine lv_aload_n hx hb dX11_town_31 rfl (lv_at hl 0 rfl) ?_
    refine va_get (D := D) (ci := 11) (v := .ref (am 7)) (C := RX11) (T := TX11) (N := 30) hx hb hts iX11_town_X11 hown hK hP 0 mw_0 rfl 7 (by decide) (hts (.fieldLink RX11 29 RX11 "anchors" "[I") (by decide +kernel)) (fun _ h9 => h9) rfl dX11_town_32 ?_
    refine lv_iconst (v := 0) hx hb dX11_town_35 (by decide) ?_
    refine lv_aload_n hx hb dX11_town_36 rfl (lv_at hl 0 rfl) ?_
    refine va_get (D := D) (ci := 11) (v := .ref (am 7)) (C := RX11) (T := TX11) (N := 30) hx hb hts iX11_town_X11 hown hK hP 0 mw_0 rfl 7 (by decide) (hts (.fieldLink RX11 29 RX11 "anchors" "[I") (by decide +kernel)) (fun _ h9 => h9) rfl dX11_town_37 ?_
    refine lv_iconst (v := 1) hx hb dX11_town_40 (by decide) ?_
    obtain ⟨v7, e8, h⟩ := k_bd h
    refine va_iald hx hb hK hP 7 0 mw_7 rfl (k_rd e8).1 dX11_town_41 ?_
    refine lv_nmi (k_rd e8).2 ?_
    obtain ⟨σ9, e10, h⟩ := k_bd h
    refine va_iast hx hb hK hP (mw_D hap) hS 7 0 mw_7 rfl (k_wr e10).1 dX11_town_42 (fun H locs hP _ hS => ?_)
    have hP := mw_s7 hP
    rw [(k_wr e10).2] at hP
    refine lv_iconst (v := 0) hx hb dX11_town_43 (by decide) ?_
    refine lv_istore_n (lv' := [(1, .int 0), (0, .ref (am 0))]) hx hb dX11_town_44 rfl hl (by decide) rfl (fun ls hl => ?_)
    obtain ⟨w13, e14, h⟩ := k_bd h
    refine bX11_town_L45 C0 hK hN hap  2000 0 σ9 _ _ _ ls hP hS (lv_sub hl [1, 0] rfl) e14 (fun H locs ls hP hS hl => ?_)
    refine lv_iconst (v := 0) hx hb dX11_town_64 (by decide) ?_
    refine lv_istore_n (lv' := [(1, .int 0), (0, .ref (am 0))]) hx hb dX11_town_65 rfl hl (by decide) rfl (fun ls hl => ?_)
    obtain ⟨w23, e24, h⟩ := k_bd h
    refine bX11_town_L66 C0 hK hN hap  2000 0 w13 _ _ _ ls hP hS (lv_sub hl [1, 0] rfl) e24 (fun H locs ls hP hS hl => ?_)
    refine lv_iconst (v := 0) hx hb dX11_town_108 (by decide) ?_
    refine lv_istore_n (lv' := [(1, .int 0), (0, .ref (am 0))]) hx hb dX11_town_109 rfl hl (by decide) rfl (fun ls hl => ?_)
    obtain ⟨w37, e38, h⟩ := k_bd h
    refine bX11_town_L110 C0 hK hN hap  2000 0 w23 _ _ _ ls hP hS (lv_sub hl [1, 0] rfl) e38 (fun H locs ls hP hS hl => ?_)
    refine lv_iconst (v := 0) hx hb dX11_town_169 (by decide) ?_
    refine lv_istore_n (lv' := [(1, .int 0), (0, .ref (am 0))]) hx hb dX11_town_170 rfl hl (by decide) rfl (fun ls hl => ?_)
    obtain ⟨w61, e62, h⟩ := k_bd h
    refine bX11_town_L171 C0 hK hN hap  2000 0 w37 _ _ _ ls hP hS (lv_sub hl [1, 0] rfl) e62 (fun H locs ls hP hS hl => ?_)
    refine lv_aload_n hx hb dX11_town_267 rfl (lv_at hl 0 rfl) ?_
    refine va_get (D := D) (ci := 11) (v := .ref (am 14)) (C := RX11) (T := TX11) (N := 30) hx hb hts iX11_town_X11 hown hK hP 0 mw_0 rfl 20 (by decide) (hts (.fieldLink RX11 50 RX11 "known" "[I") (by decide +kernel)) (fun _ h9 => h9) rfl dX11_town_268 ?_
    refine lv_iconst (v := 0) hx hb dX11_town_271 (by decide) ?_
    refine lv_iconst (v := 0) hx hb dX11_town_272 (by decide) ?_
    obtain ⟨σ63, e64, h⟩ := k_bd h
    refine va_iast hx hb hK hP (mw_D hap) hS 14 0 mw_14 rfl (k_wr e64).1 dX11_town_273 (fun H locs hP _ hS => ?_)
    have hP := mw_s14 hP
    rw [(k_wr e64).2] at hP
    refine lv_aload_n hx hb dX11_town_274 rfl (lv_at hl 0 rfl) ?_
    refine va_get (D := D) (ci := 11) (v := .ref (am 17)) (C := RX11) (T := TX11) (N := 30) hx hb hts iX11_town_X11 hown hK hP 0 mw_0 rfl 23 (by decide) (hts (.fieldLink RX11 59 RX11 "isKept" "[Z") (by decide +kernel)) (fun _ h9 => h9) rfl dX11_town_275 ?_
    refine lv_iconst (v := 0) hx hb dX11_town_278 (by decide) ?_
    refine lv_iconst (v := 0) hx hb dX11_town_279 (by decide) ?_
    obtain ⟨σ65, e66, h⟩ := k_bd h
    refine va_zast hx hb hK hP (mw_D hap) hS 17 2 mw_17 rfl (k_wr e66).1 dX11_town_280 (fun H locs hP _ hS => ?_)
    have hP := mw_s17 hP
    rw [(k_wr e66).2] at hP
    refine lv_aload_n hx hb dX11_town_281 rfl (lv_at hl 0 rfl) ?_
    refine va_get (D := D) (ci := 11) (v := .ref (am 17)) (C := RX11) (T := TX11) (N := 30) hx hb hts iX11_town_X11 hown hK hP 0 mw_0 rfl 23 (by decide) (hts (.fieldLink RX11 59 RX11 "isKept" "[Z") (by decide +kernel)) (fun _ h9 => h9) rfl dX11_town_282 ?_
    refine lv_iconst (v := 1) hx hb dX11_town_285 (by decide) ?_
    refine lv_iconst (v := 0) hx hb dX11_town_286 (by decide) ?_
    obtain ⟨σ67, e68, h⟩ := k_bd h
    refine va_zast hx hb hK hP (mw_D hap) hS 17 2 mw_17 rfl (k_wr e68).1 dX11_town_287 (fun H locs hP _ hS => ?_)
    have hP := mw_s17 hP
    rw [(k_wr e68).2] at hP
    refine lv_aload_n hx hb dX11_town_288 rfl (lv_at hl 0 rfl) ?_
    refine lv_iconst (v := 0) hx hb dX11_town_289 (by decide) ?_
    refine va_put (D := D) (ci := 11) (v := .int 0) (ty := .int) (C := RX11) (T := TX11) (N := 30) hx hb hts iX11_town_X11 tyX11 tyX11_ok nmX11 hown hK hP (mw_D hap) hS 0 mw_0 rfl 28 (by decide) (hts (.fieldLink RX11 131 RX11 "heard" "I") (by decide +kernel)) (fun _ h9 => h9) rfl (by decide +kernel) rfl rfl (Nat.le_of_ble_eq_true rfl) dX11_town_290 (fun H locs hP _ hS => ?_)
    have hP := mw_s0_28 hP
    obtain ⟨σ69, e70, h⟩ := k_bd h
    rw [k_sm e70] at hP
    refine lv_aload_n hx hb dX11_town_293 rfl (lv_at hl 0 rfl) ?_
    refine lv_iconst (v := 0) hx hb dX11_town_294 (by decide) ?_
    refine va_put (D := D) (ci := 11) (v := .int 0) (ty := .int) (C := RX11) (T := TX11) (N := 30) hx hb hts iX11_town_X11 tyX11 tyX11_ok nmX11 hown hK hP (mw_D hap) hS 0 mw_0 rfl 1 (by decide) (hts (.fieldLink RX11 79 RX11 "typed" "I") (by decide +kernel)) (fun _ h9 => h9) rfl (by decide +kernel) rfl rfl (Nat.le_of_ble_eq_true rfl) dX11_town_295 (fun H locs hP _ hS => ?_)
    have hP := mw_s0_1 hP
    obtain ⟨σ71, e72, h⟩ := k_bd h
    rw [k_sm e72] at hP
    refine lv_aload_n hx hb dX11_town_298 rfl (lv_at hl 0 rfl) ?_
    refine va_get (D := D) (ci := 11) (v := .int (σ71 0 18)) (C := RX11) (T := TX11) (N := 30) hx hb hts iX11_town_X11 hown hK hP 0 mw_0 rfl 18 (by decide) (hts (.fieldLink RX11 117 RX11 "items" "I") (by decide +kernel)) (fun _ h9 => h9) rfl dX11_town_299 ?_
    obtain rfl := k_sm h
    exact W.iret hx hb hr (fun t ht hW => ⟨⟨_, _, rfl, ⟨rfl, rfl⟩, pw_end ht hP⟩, hS.F ht⟩) hS.2.2 dX11_town_302
  · replace h := k_in c8 h
    refine lv_bipush (v := (-10)) hx hb dX11_town_11 (by decide) ?_
    refine lv_aload_n hx hb dX11_town_13 rfl (lv_at hl 0 rfl) ?_
    refine va_get (D := D) (ci := 11) (v := .int (u1 0 14)) (C := RX11) (T := TX11) (N := 30) hx hb hts iX11_town_X11 hown hK hP 0 mw_0 rfl 14 (by decide) (hts (.fieldLink RX11 90 RX11 "stands" "I") (by decide +kernel)) (fun _ h9 => h9) rfl dX11_town_14 ?_
    refine lv_isub hx hb dX11_town_17 ?_
    obtain rfl := k_sm h
    exact W.iret hx hb hr (fun t ht hW => ⟨⟨_, _, rfl, ⟨rfl, rfl⟩, pw_end ht hP⟩, hS.F ht⟩) hS.2.2 dX11_town_18
set_option maxHeartbeats 4000000 in
set_option maxRecDepth 100000 in
theorem kX11_isRaft (l : Launch) {D : va_G} {cI cB cZ : ClassId} {am : Nat → Nat} {τ : Int64} (σ : Sg) (x1 : Int32) (o : Int32) (h : pX11_isRaft σ x1 = some o) : Met l yX11_isRaft wsX11_isRaft rmX11_isRaft (va_Pc [.ref (am 0), .int x1] (PW D cI cB cZ (MW cI cB cZ am τ σ))) (QcRead o) 0 0 (fun _ => False) := by
  refine Met.ofW (cc := cX11_isRaft) (maxL := 2) (ret := (some .boolean)) (by decide) rfl ?_
  intro p e s m args below meth c s₁ B hml hv
  obtain ⟨rfl, hP, hK, hN⟩ := hv
  have C0 : Cx p s m _ meth c cX11_isRaft 2 (some .boolean) RX11 wsX11_isRaft := ⟨⟨B.exec, B.bytes, hml, findClass_of_methodNamed B.named, atoms_spec B.pre⟩, B.returns, B.notSynchronized⟩
  obtain ⟨⟨hx, hb, -, hown, hts⟩, hr, hlk⟩ := id C0
  have hl := lv_entry ([.ref (am 0), .int x1]) (n := 2) (Nat.le_of_ble_eq_true rfl)
  rw [lg_entry_eq]
  generalize (lg_sl ([.ref (am 0), .int x1]) ++ List.replicate (2 - (lg_sl ([.ref (am 0), .int x1])).length) Slot.unset).toArray = ls at hl ⊢
  have hl : lv_has ls 2 [(0, .ref (am 0)), (1, .int x1)] := hl
  rw [pX11_isRaft] at h
  refine lv_iload_n hx hb dX11_isRaft_0 rfl (lv_at hl 1 rfl) ?_
  refine lv_iconst (v := 0) hx hb dX11_isRaft_1 (by decide) ?_
  refine lv_aload_n hx hb dX11_isRaft_2 rfl (lv_at hl 0 rfl) ?_
  refine va_get (D := D) (ci := 11) (v := .ref (am 4)) (C := RX11) (T := TX11) (N := 30) hx hb hts iX11_isRaft_X11 hown hK hP 0 mw_0 rfl 4 (by decide) (hts (.fieldLink RX11 20 RX11 "rafts" "[I") (by decide +kernel)) (fun _ h9 => h9) rfl dX11_isRaft_3 ?_
  refine lv_iconst (v := 0) hx hb dX11_isRaft_6 (by decide) ?_
  obtain ⟨v1, e2, h⟩ := k_bd h
  refine va_iald hx hb hK hP 4 0 mw_4 rfl (k_rd e2).1 dX11_isRaft_7 ?_
  refine lv_nmi (k_rd e2).2 ?_
  refine lv_iconst (v := 1) hx hb dX11_isRaft_8 (by decide) ?_
  refine lv_isub hx hb dX11_isRaft_9 ?_
  refine rd_calli (va_runS (As := [.int x1, .int 0, .int (v1 - 1)]) (rest := []) C0.1 (kX11_in l x1 0 (v1 - 1)) (wX11_isRaft_X11_in hts ⟨Nat.le_of_ble_eq_true rfl, Nat.le_of_ble_eq_true rfl⟩) ⟨PT.blind, fun _ _ _ => ⟨rfl, trivial⟩⟩ rfl rfl hl.1 rfl (lv_room (Nat.le_of_ble_eq_true rfl)) dX11_isRaft_10 ⟨Nat.zero_le _, Nat.zero_le _⟩) ?_
  obtain rfl := k_sm h
  exact W.zret hx hb hr (k_01 (z_pX11_in x1 0 (v1 - 1))) (fun t ht hW => ⟨rfl, ht⟩) (fun _ h => by cases h) dX11_isRaft_13
set_option maxHeartbeats 4000000 in
set_option maxRecDepth 100000 in
theorem kX11_isAnchor (l : Launch) {D : va_G} {cI cB cZ : ClassId} {am : Nat → Nat} {τ : Int64} (σ : Sg) (x1 : Int32) (o : Int32) (h : pX11_isAnchor σ x1 = some o) : Met l yX11_isAnchor wsX11_isAnchor rmX11_isAnchor (va_Pc [.ref (am 0), .int x1] (PW D cI cB cZ (MW cI cB cZ am τ σ))) (QcRead o) 0 0 (fun _ => False) := by
  refine Met.ofW (cc := cX11_isAnchor) (maxL := 2) (ret := (some .boolean)) (by decide) rfl ?_
  intro p e s m args below meth c s₁ B hml hv
  obtain ⟨rfl, hP, hK, hN⟩ := hv
  have C0 : Cx p s m _ meth c cX11_isAnchor 2 (some .boolean) RX11 wsX11_isAnchor := ⟨⟨B.exec, B.bytes, hml, findClass_of_methodNamed B.named, atoms_spec B.pre⟩, B.returns, B.notSynchronized⟩
  obtain ⟨⟨hx, hb, -, hown, hts⟩, hr, hlk⟩ := id C0
  have hl := lv_entry ([.ref (am 0), .int x1]) (n := 2) (Nat.le_of_ble_eq_true rfl)
  rw [lg_entry_eq]
  generalize (lg_sl ([.ref (am 0), .int x1]) ++ List.replicate (2 - (lg_sl ([.ref (am 0), .int x1])).length) Slot.unset).toArray = ls at hl ⊢
  have hl : lv_has ls 2 [(0, .ref (am 0)), (1, .int x1)] := hl
  rw [pX11_isAnchor] at h
  refine lv_iload_n hx hb dX11_isAnchor_0 rfl (lv_at hl 1 rfl) ?_
  refine lv_iconst (v := 0) hx hb dX11_isAnchor_1 (by decide) ?_
  refine lv_aload_n hx hb dX11_isAnchor_2 rfl (lv_at hl 0 rfl) ?_
  refine va_get (D := D) (ci := 11) (v := .ref (am 7)) (C := RX11) (T := TX11) (N := 30) hx hb hts iX11_isAnchor_X11 hown hK hP 0 mw_0 rfl 7 (by decide) (hts (.fieldLink RX11 29 RX11 "anchors" "[I") (by decide +kernel)) (fun _ h9 => h9) rfl dX11_isAnchor_3 ?_
  refine lv_iconst (v := 0) hx hb dX11_isAnchor_6 (by decide) ?_
  obtain ⟨v1, e2, h⟩ := k_bd h
  refine va_iald hx hb hK hP 7 0 mw_7 rfl (k_rd e2).1 dX11_isAnchor_7 ?_
  refine lv_nmi (k_rd e2).2 ?_
  refine lv_iconst (v := 1) hx hb dX11_isAnchor_8 (by decide) ?_
  refine lv_isub hx hb dX11_isAnchor_9 ?_
  refine rd_calli (va_runS (As := [.int x1, .int 0, .int (v1 - 1)]) (rest := []) C0.1 (kX11_in l x1 0 (v1 - 1)) (wX11_isAnchor_X11_in hts ⟨Nat.le_of_ble_eq_true rfl, Nat.le_of_ble_eq_true rfl⟩) ⟨PT.blind, fun _ _ _ => ⟨rfl, trivial⟩⟩ rfl rfl hl.1 rfl (lv_room (Nat.le_of_ble_eq_true rfl)) dX11_isAnchor_10 ⟨Nat.zero_le _, Nat.zero_le _⟩) ?_
  obtain rfl := k_sm h
  exact W.zret hx hb hr (k_01 (z_pX11_in x1 0 (v1 - 1))) (fun t ht hW => ⟨rfl, ht⟩) (fun _ h => by cases h) dX11_isAnchor_13
set_option maxHeartbeats 4000000 in
set_option maxRecDepth 100000 in
theorem kX11_isLying (l : Launch) {D : va_G} {cI cB cZ : ClassId} {am : Nat → Nat} {τ : Int64} (σ : Sg) (x1 : Int32) (o : Int32) (h : pX11_isLying σ x1 = some o) : Met l yX11_isLying wsX11_isLying rmX11_isLying (va_Pc [.ref (am 0), .int x1] (PW D cI cB cZ (MW cI cB cZ am τ σ))) (QcRead o) 0 0 (fun _ => False) := by
  refine Met.ofW (cc := cX11_isLying) (maxL := 2) (ret := (some .boolean)) (by decide) rfl ?_
  intro p e s m args below meth c s₁ B hml hv
  obtain ⟨rfl, hP, hK, hN⟩ := hv
  have C0 : Cx p s m _ meth c cX11_isLying 2 (some .boolean) RX11 wsX11_isLying := ⟨⟨B.exec, B.bytes, hml, findClass_of_methodNamed B.named, atoms_spec B.pre⟩, B.returns, B.notSynchronized⟩
  obtain ⟨⟨hx, hb, -, hown, hts⟩, hr, hlk⟩ := id C0
  have hl := lv_entry ([.ref (am 0), .int x1]) (n := 2) (Nat.le_of_ble_eq_true rfl)
  rw [lg_entry_eq]
  generalize (lg_sl ([.ref (am 0), .int x1]) ++ List.replicate (2 - (lg_sl ([.ref (am 0), .int x1])).length) Slot.unset).toArray = ls at hl ⊢
  have hl : lv_has ls 2 [(0, .ref (am 0)), (1, .int x1)] := hl
  rw [pX11_isLying] at h
  refine lv_aload_n hx hb dX11_isLying_0 rfl (lv_at hl 0 rfl) ?_
  refine va_get (D := D) (ci := 11) (v := .ref (am 13)) (C := RX11) (T := TX11) (N := 30) hx hb hts iX11_isLying_X11 hown hK hP 0 mw_0 rfl 19 (by decide) (hts (.fieldLink RX11 47 RX11 "now" "[I") (by decide +kernel)) (fun _ h9 => h9) rfl dX11_isLying_1 ?_
  refine lv_bipush (v := 24) hx hb dX11_isLying_4 (by decide) ?_
  refine lv_iload_n hx hb dX11_isLying_6 rfl (lv_at hl 1 rfl) ?_
  refine lv_iadd hx hb dX11_isLying_7 ?_
  obtain ⟨v1, e2, h⟩ := k_bd h
  refine va_iald hx hb hK hP 13 0 mw_13 rfl (k_rd e2).1 dX11_isLying_8 ?_
  refine lv_nmi (k_rd e2).2 ?_
  refine lv_if_ne (tgt := 16) hx hb dX11_isLying_9 (by decide) (fun c9 => ?_) (fun c9 => ?_)
  · replace h := k_in c9 h
    refine lv_iconst (v := 0) hx hb dX11_isLying_16 (by decide) ?_
    obtain rfl := k_sm h
    exact W.zret hx hb hr rfl (fun t ht hW => ⟨rfl, ht⟩) (fun _ h => by cases h) dX11_isLying_17
  · replace h := k_ip c9 h
    refine lv_iconst (v := 1) hx hb dX11_isLying_12 (by decide) ?_
    refine lv_goto (tgt := 17) hx hb dX11_isLying_13 (by decide) ?_
    obtain rfl := k_sm h
    exact W.zret hx hb hr rfl (fun t ht hW => ⟨rfl, ht⟩) (fun _ h => by cases h) dX11_isLying_17
set_option maxHeartbeats 4000000 in
set_option maxRecDepth 100000 in
theorem bX11_those_L4 {p : Program} {l : Launch} {e : Env} {s : State} {m : MethodId} {args : Array Value} {below : List Frame} {meth : Method} {c : Code} {Q : State → Prop} {D : va_G} {cI cB cZ : ClassId} {am : Nat → Nat} (C0 : Cx p s m args meth c cX11_those 4 (some .int) RX11 wsX11_those) (hK : va_K D vwCl (tysA cI cB cZ) s) (hN : NW s) {τ : Int64} {σ : Sg} (hP : va_P D vwCl (MW cI cB cZ am τ σ) s.heap) (x1 : Int32) : ∀ (n : Nat) (x2 : Int32) (x3 : Int32) (v : Int32) (ls : Array Slot), lv_has ls 4 [(0, .ref (am 0)), (1, .int x1), (2, .int x2), (3, .int x3)] → pX11_those_L4 σ x1 n x2 x3 = some v → (∀ (ls1 : Array Slot), lv_has ls1 4 [(2, .int v)] → W p l e rmX11_those s m args below meth c s.heap [] 0 0 Q (F0 m 43 ls1 [])) → W p l e rmX11_those s m args below meth c s.heap [] 0 0 Q (F0 m 4 ls []) := by
  obtain ⟨⟨hx, hb, hml, hown, hts⟩, hr, hlk⟩ := id C0
  intro n
  induction n with
  | zero =>
    intro x2 x3 v ls hl h kk
    exact absurd h (by simp [pX11_those_L4])
  | succ n ih =>
    intro x2 x3 v ls hl h kk
    rw [pX11_those_L4] at h
    refine lv_iload_n hx hb dX11_those_4 rfl (lv_at hl 3 rfl) ?_
    refine lv_aload_n hx hb dX11_those_5 rfl (lv_at hl 0 rfl) ?_
    refine va_get (D := D) (ci := 11) (v := .ref (am 7)) (C := RX11) (T := TX11) (N := 30) hx hb hts iX11_those_X11 hown hK hP 0 mw_0 rfl 7 (by decide) (hts (.fieldLink RX11 29 RX11 "anchors" "[I") (by decide +kernel)) (fun _ h9 => h9) rfl dX11_those_6 ?_
    refine lv_iconst (v := 0) hx hb dX11_those_9 (by decide) ?_
    obtain ⟨v1, e2, h⟩ := k_bd h
    refine va_iald hx hb hK hP 7 0 mw_7 rfl (k_rd e2).1 dX11_those_10 ?_
    refine lv_nmi (k_rd e2).2 ?_
    refine lv_icmp_ge (tgt := 43) hx hb dX11_those_11 (by decide) (fun c11 => ?_) (fun c11 => ?_)
    · replace h := k_ip c11 h
      obtain rfl := k_sm h
      exact kk _ (lv_sub hl [2] rfl)
    · replace h := k_in c11 h
      refine lv_iload_n hx hb dX11_those_14 rfl (lv_at hl 2 rfl) ?_
      refine lv_aload_n hx hb dX11_those_15 rfl (lv_at hl 0 rfl) ?_
      refine va_get (D := D) (ci := 11) (v := .ref (am 13)) (C := RX11) (T := TX11) (N := 30) hx hb hts iX11_those_X11 hown hK hP 0 mw_0 rfl 19 (by decide) (hts (.fieldLink RX11 47 RX11 "now" "[I") (by decide +kernel)) (fun _ h9 => h9) rfl dX11_those_16 ?_
      refine lv_bipush (v := 24) hx hb dX11_those_19 (by decide) ?_
      refine lv_iload_n hx hb dX11_those_21 rfl (lv_at hl 3 rfl) ?_
      refine lv_iadd hx hb dX11_those_22 ?_
      obtain ⟨v3, e4, h⟩ := k_bd h
      refine va_iald hx hb hK hP 13 0 mw_13 rfl (k_rd e4).1 dX11_those_23 ?_
      refine lv_nmi (k_rd e4).2 ?_
      refine lv_iload_n hx hb dX11_those_24 rfl (lv_at hl 1 rfl) ?_
      refine lv_icmp_ne (tgt := 34) hx hb dX11_those_25 (by decide) (fun c25 => ?_) (fun c25 => ?_)
      · replace h := k_in c25 h
        refine lv_iconst (v := 0) hx hb dX11_those_34 (by decide) ?_
        refine lv_ior hx hb dX11_those_35 ?_
        obtain ⟨v5, e6, h⟩ := k_bd h
        refine lv_nmi (k_sm e6) ?_
        refine lv_istore_n (lv' := [(2, .int v5), (0, .ref (am 0)), (1, .int x1), (3, .int x3)]) hx hb dX11_those_36 rfl hl (by decide) rfl (fun ls hl => ?_)
        refine lv_iinc (v := (x3 + 1)) (lv' := [(3, .int (x3 + 1)), (2, .int v5), (0, .ref (am 0)), (1, .int x1)]) hx hb dX11_those_37 hl (k := 3) rfl rfl (by decide) rfl (fun ls hl => ?_)
        refine lv_goto (tgt := 4) hx hb dX11_those_40 (by decide) ?_
        exact ih v5 (x3 + 1) _ ls (lv_sub hl [2, 3, 1, 0] rfl) h kk
      · replace h := k_ip c25 h
        refine lv_iconst (v := 1) hx hb dX11_those_28 (by decide) ?_
        refine lv_iload_n hx hb dX11_those_29 rfl (lv_at hl 3 rfl) ?_
        refine lv_ishl hx hb dX11_those_30 ?_
        refine lv_goto (tgt := 35) hx hb dX11_those_31 (by decide) ?_
        refine lv_ior hx hb dX11_those_35 ?_
        obtain ⟨v7, e8, h⟩ := k_bd h
        refine lv_nmi (k_sm e8) ?_
        refine lv_istore_n (lv' := [(2, .int v7), (0, .ref (am 0)), (1, .int x1), (3, .int x3)]) hx hb dX11_those_36 rfl hl (by decide) rfl (fun ls hl => ?_)
        refine lv_iinc (v := (x3 + 1)) (lv' := [(3, .int (x3 + 1)), (2, .int v7), (0, .ref (am 0)), (1, .int x1)]) hx hb dX11_those_37 hl (k := 3) rfl rfl (by decide) rfl (fun ls hl => ?_)
        refine lv_goto (tgt := 4) hx hb dX11_those_40 (by decide) ?_
        exact ih v7 (x3 + 1) _ ls (lv_sub hl [2, 3, 1, 0] rfl) h kk
set_option maxHeartbeats 4000000 in
set_option maxRecDepth 100000 in
theorem kX11_those (l : Launch) {D : va_G} {cI cB cZ : ClassId} {am : Nat → Nat} {τ : Int64} (σ : Sg) (x1 : Int32) (o : Int32) (h : pX11_those σ x1 = some o) : Met l yX11_those wsX11_those rmX11_those (va_Pc [.ref (am 0), .int x1] (PW D cI cB cZ (MW cI cB cZ am τ σ))) (QcRead o) 0 0 (fun _ => False) := by
  refine Met.ofW (cc := cX11_those) (maxL := 4) (ret := (some .int)) (by decide) rfl ?_
  intro p e s m args below meth c s₁ B hml hv
  obtain ⟨rfl, hP, hK, hN⟩ := hv
  have C0 : Cx p s m _ meth c cX11_those 4 (some .int) RX11 wsX11_those := ⟨⟨B.exec, B.bytes, hml, findClass_of_methodNamed B.named, atoms_spec B.pre⟩, B.returns, B.notSynchronized⟩
  obtain ⟨⟨hx, hb, -, hown, hts⟩, hr, hlk⟩ := id C0
  have hl := lv_entry ([.ref (am 0), .int x1]) (n := 4) (Nat.le_of_ble_eq_true rfl)
  rw [lg_entry_eq]
  generalize (lg_sl ([.ref (am 0), .int x1]) ++ List.replicate (4 - (lg_sl ([.ref (am 0), .int x1])).length) Slot.unset).toArray = ls at hl ⊢
  have hl : lv_has ls 4 [(0, .ref (am 0)), (1, .int x1)] := hl
  rw [pX11_those] at h
  refine lv_iconst (v := 0) hx hb dX11_those_0 (by decide) ?_
  refine lv_istore_n (lv' := [(2, .int 0), (0, .ref (am 0)), (1, .int x1)]) hx hb dX11_those_1 rfl hl (by decide) rfl (fun ls hl => ?_)
  refine lv_iconst (v := 0) hx hb dX11_those_2 (by decide) ?_
  refine lv_istore_n (lv' := [(3, .int 0), (2, .int 0), (0, .ref (am 0)), (1, .int x1)]) hx hb dX11_those_3 rfl hl (by decide) rfl (fun ls hl => ?_)
  obtain ⟨w9, e10, h⟩ := k_bd h
  refine bX11_those_L4 C0 hK hN hP x1 2000 0 0 _ ls (lv_sub hl [2, 3, 1, 0] rfl) e10 (fun ls hl => ?_)
  refine lv_iload_n hx hb dX11_those_43 rfl (lv_at hl 0 rfl) ?_
  obtain rfl := k_sm h
  exact W.iret hx hb hr (fun t ht hW => ⟨rfl, ht⟩) (fun _ h => by cases h) dX11_those_44
set_option maxHeartbeats 4000000 in
set_option maxRecDepth 100000 in
theorem bX11_bitsOf_L4 {p : Program} {l : Launch} {e : Env} {s : State} {m : MethodId} {args : Array Value} {below : List Frame} {meth : Method} {c : Code} {Q : State → Prop} (C0 : Cx p s m args meth c cX11_bitsOf 3 (some .int) RX11 wsX11_bitsOf) (x0 : Int32) : ∀ (n : Nat) (x1 : Int32) (x2 : Int32) (v : Int32) (ls : Array Slot), lv_has ls 3 [(0, .int x0), (1, .int x1), (2, .int x2)] → pX11_bitsOf_L4 x0 n x1 x2 = some v → (∀ (ls1 : Array Slot), lv_has ls1 3 [(1, .int v)] → W p l e rmX11_bitsOf s m args below meth c s.heap [] 0 0 Q (F0 m 24 ls1 [])) → W p l e rmX11_bitsOf s m args below meth c s.heap [] 0 0 Q (F0 m 4 ls []) := by
  obtain ⟨⟨hx, hb, hml, hown, hts⟩, hr, hlk⟩ := id C0
  intro n
  induction n with
  | zero =>
    intro x1 x2 v ls hl h kk
    exact absurd h (by simp [pX11_bitsOf_L4])
  | succ n ih =>
    intro x1 x2 v ls hl h kk
    rw [pX11_bitsOf_L4] at h
    refine lv_iload_n hx hb dX11_bitsOf_4 rfl (lv_at hl 2 rfl) ?_
    refine lv_bipush (v := 8) hx hb dX11_bitsOf_5 (by decide) ?_
    refine lv_icmp_ge (tgt := 24) hx hb dX11_bitsOf_7 (by decide) (fun c7 => ?_) (fun c7 => ?_)
    · replace h := k_ip c7 h
      obtain rfl := k_sm h
      exact kk _ (lv_sub hl [1] rfl)
    · replace h := k_in c7 h
      refine lv_iload_n hx hb dX11_bitsOf_10 rfl (lv_at hl 1 rfl) ?_
      refine lv_iload_n hx hb dX11_bitsOf_11 rfl (lv_at hl 0 rfl) ?_
      refine lv_iload_n hx hb dX11_bitsOf_12 rfl (lv_at hl 2 rfl) ?_
      refine lv_ishr hx hb dX11_bitsOf_13 ?_
      refine lv_iconst (v := 1) hx hb dX11_bitsOf_14 (by decide) ?_
      refine lv_iand hx hb dX11_bitsOf_15 ?_
      refine lv_iadd hx hb dX11_bitsOf_16 ?_
      obtain ⟨v1, e2, h⟩ := k_bd h
      refine lv_nmi (k_sm e2) ?_
      refine lv_istore_n (lv' := [(1, .int v1), (0, .int x0), (2, .int x2)]) hx hb dX11_bitsOf_17 rfl hl (by decide) rfl (fun ls hl => ?_)
      refine lv_iinc (v := (x2 + 1)) (lv' := [(2, .int (x2 + 1)), (1, .int v1), (0, .int x0)]) hx hb dX11_bitsOf_18 hl (k := 2) rfl rfl (by decide) rfl (fun ls hl => ?_)
      refine lv_goto (tgt := 4) hx hb dX11_bitsOf_21 (by decide) ?_
      exact ih v1 (x2 + 1) _ ls (lv_sub hl [2, 1, 0] rfl) h kk
set_option maxHeartbeats 4000000 in
set_option maxRecDepth 100000 in
theorem kX11_bitsOf (l : Launch) (x0 : Int32) (o : Int32) (h : pX11_bitsOf x0 = some o) : Met l yX11_bitsOf wsX11_bitsOf rmX11_bitsOf (va_Pc [.int x0] (fun _ => True)) (QcRead o) 0 0 (fun _ => False) := by
  refine Met.ofW (cc := cX11_bitsOf) (maxL := 3) (ret := (some .int)) (by decide) rfl ?_
  intro p e s m args below meth c s₁ B hml hv
  obtain ⟨rfl, -⟩ := hv
  have C0 : Cx p s m _ meth c cX11_bitsOf 3 (some .int) RX11 wsX11_bitsOf := ⟨⟨B.exec, B.bytes, hml, findClass_of_methodNamed B.named, atoms_spec B.pre⟩, B.returns, B.notSynchronized⟩
  obtain ⟨⟨hx, hb, -, hown, hts⟩, hr, hlk⟩ := id C0
  have hl := lv_entry ([.int x0]) (n := 3) (Nat.le_of_ble_eq_true rfl)
  rw [lg_entry_eq]
  generalize (lg_sl ([.int x0]) ++ List.replicate (3 - (lg_sl ([.int x0])).length) Slot.unset).toArray = ls at hl ⊢
  have hl : lv_has ls 3 [(0, .int x0)] := hl
  rw [pX11_bitsOf] at h
  refine lv_iconst (v := 0) hx hb dX11_bitsOf_0 (by decide) ?_
  refine lv_istore_n (lv' := [(1, .int 0), (0, .int x0)]) hx hb dX11_bitsOf_1 rfl hl (by decide) rfl (fun ls hl => ?_)
  refine lv_iconst (v := 0) hx hb dX11_bitsOf_2 (by decide) ?_
  refine lv_istore_n (lv' := [(2, .int 0), (1, .int 0), (0, .int x0)]) hx hb dX11_bitsOf_3 rfl hl (by decide) rfl (fun ls hl => ?_)
  obtain ⟨w3, e4, h⟩ := k_bd h
  refine bX11_bitsOf_L4 C0 x0 2000 0 0 _ ls (lv_sub hl [2, 1, 0] rfl) e4 (fun ls hl => ?_)
  refine lv_iload_n hx hb dX11_bitsOf_24 rfl (lv_at hl 0 rfl) ?_
  obtain rfl := k_sm h
  exact W.iret hx hb hr (fun t ht hW => ⟨rfl, ht⟩) (fun _ h => by cases h) dX11_bitsOf_25
set_option maxHeartbeats 4000000 in
set_option maxRecDepth 100000 in
theorem kX11_strengthAt (l : Launch) {D : va_G} {cI cB cZ : ClassId} {am : Nat → Nat} {τ : Int64} (σ : Sg) (x1 : Int32) (x2 : Int32) (o : Int32) (h : pX11_strengthAt σ x1 x2 = some o) : Met l yX11_strengthAt wsX11_strengthAt rmX11_strengthAt (va_Pc [.ref (am 0), .int x1, .int x2] (PW D cI cB cZ (MW cI cB cZ am τ σ))) (QcRead o) 0 0 (fun _ => False) := by
  refine Met.ofW (cc := cX11_strengthAt) (maxL := 3) (ret := (some .int)) (by decide) rfl ?_
  intro p e s m args below meth c s₁ B hml hv
  obtain ⟨rfl, hP, hK, hN⟩ := hv
  have C0 : Cx p s m _ meth c cX11_strengthAt 3 (some .int) RX11 wsX11_strengthAt := ⟨⟨B.exec, B.bytes, hml, findClass_of_methodNamed B.named, atoms_spec B.pre⟩, B.returns, B.notSynchronized⟩
  obtain ⟨⟨hx, hb, -, hown, hts⟩, hr, hlk⟩ := id C0
  have hl := lv_entry ([.ref (am 0), .int x1, .int x2]) (n := 3) (Nat.le_of_ble_eq_true rfl)
  rw [lg_entry_eq]
  generalize (lg_sl ([.ref (am 0), .int x1, .int x2]) ++ List.replicate (3 - (lg_sl ([.ref (am 0), .int x1, .int x2])).length) Slot.unset).toArray = ls at hl ⊢
  have hl : lv_has ls 3 [(0, .ref (am 0)), (1, .int x1), (2, .int x2)] := hl
  rw [pX11_strengthAt] at h
  refine lv_aload_n hx hb dX11_strengthAt_0 rfl (lv_at hl 0 rfl) ?_
  refine va_get (D := D) (ci := 11) (v := .ref (am 10)) (C := RX11) (T := TX11) (N := 30) hx hb hts iX11_strengthAt_X11 hown hK hP 0 mw_0 rfl 10 (by decide) (hts (.fieldLink RX11 38 RX11 "weight" "[I") (by decide +kernel)) (fun _ h9 => h9) rfl dX11_strengthAt_1 ?_
  refine lv_iload_n hx hb dX11_strengthAt_4 rfl (lv_at hl 1 rfl) ?_
  obtain ⟨v1, e2, h⟩ := k_bd h
  refine va_iald hx hb hK hP 10 0 mw_10 rfl (k_rd e2).1 dX11_strengthAt_5 ?_
  refine lv_nmi (k_rd e2).2 ?_
  refine lv_aload_n hx hb dX11_strengthAt_6 rfl (lv_at hl 0 rfl) ?_
  refine va_get (D := D) (ci := 11) (v := .ref (am 3)) (C := RX11) (T := TX11) (N := 30) hx hb hts iX11_strengthAt_X11 hown hK hP 0 mw_0 rfl 3 (by decide) (hts (.fieldLink RX11 17 RX11 "grip" "[I") (by decide +kernel)) (fun _ h9 => h9) rfl dX11_strengthAt_7 ?_
  refine lv_iload_n hx hb dX11_strengthAt_10 rfl (lv_at hl 2 rfl) ?_
  obtain ⟨v3, e4, h⟩ := k_bd h
  refine va_iald hx hb hK hP 3 0 mw_3 rfl (k_rd e4).1 dX11_strengthAt_11 ?_
  refine lv_nmi (k_rd e4).2 ?_
  refine lv_iconst (v := 1) hx hb dX11_strengthAt_12 (by decide) ?_
  refine lv_iadd hx hb dX11_strengthAt_13 ?_
  refine lv_imul hx hb dX11_strengthAt_14 ?_
  refine lv_aload_n hx hb dX11_strengthAt_15 rfl (lv_at hl 0 rfl) ?_
  refine va_get (D := D) (ci := 11) (v := .ref (am 13)) (C := RX11) (T := TX11) (N := 30) hx hb hts iX11_strengthAt_X11 hown hK hP 0 mw_0 rfl 19 (by decide) (hts (.fieldLink RX11 47 RX11 "now" "[I") (by decide +kernel)) (fun _ h9 => h9) rfl dX11_strengthAt_16 ?_
  refine lv_bipush (v := 8) hx hb dX11_strengthAt_19 (by decide) ?_
  refine lv_iload_n hx hb dX11_strengthAt_21 rfl (lv_at hl 1 rfl) ?_
  refine lv_iadd hx hb dX11_strengthAt_22 ?_
  obtain ⟨v5, e6, h⟩ := k_bd h
  refine va_iald hx hb hK hP 13 0 mw_13 rfl (k_rd e6).1 dX11_strengthAt_23 ?_
  refine lv_nmi (k_rd e6).2 ?_
  refine lv_aload_n hx hb dX11_strengthAt_24 rfl (lv_at hl 0 rfl) ?_
  refine va_get (D := D) (ci := 11) (v := .ref (am 2)) (C := RX11) (T := TX11) (N := 30) hx hb hts iX11_strengthAt_X11 hown hK hP 0 mw_0 rfl 2 (by decide) (hts (.fieldLink RX11 13 RX11 "deep" "[I") (by decide +kernel)) (fun _ h9 => h9) rfl dX11_strengthAt_25 ?_
  refine lv_iload_n hx hb dX11_strengthAt_28 rfl (lv_at hl 2 rfl) ?_
  obtain ⟨v7, e8, h⟩ := k_bd h
  refine va_iald hx hb hK hP 2 0 mw_2 rfl (k_rd e8).1 dX11_strengthAt_29 ?_
  refine lv_nmi (k_rd e8).2 ?_
  obtain ⟨v9, e10, h⟩ := k_bd h
  refine lv_idiv hx hb dX11_strengthAt_30 (k_dv e10).1 ?_
  refine lv_nmi (k_dv e10).2 ?_
  refine lv_iadd hx hb dX11_strengthAt_31 ?_
  obtain rfl := k_sm h
  exact W.iret hx hb hr (fun t ht hW => ⟨rfl, ht⟩) (fun _ h => by cases h) dX11_strengthAt_32
set_option maxHeartbeats 4000000 in
set_option maxRecDepth 100000 in
theorem kX11_strength (l : Launch) {D : va_G} {cI cB cZ : ClassId} {am : Nat → Nat} {τ : Int64} (σ : Sg) (x1 : Int32) (o : Int32) (h : pX11_strength σ x1 = some o) : Met l yX11_strength wsX11_strength rmX11_strength (va_Pc [.ref (am 0), .int x1] (PW D cI cB cZ (MW cI cB cZ am τ σ))) (QcRead o) 0 0 (fun _ => False) := by
  refine Met.ofW (cc := cX11_strength) (maxL := 2) (ret := (some .int)) (by decide) rfl ?_
  intro p e s m args below meth c s₁ B hml hv
  obtain ⟨rfl, hP, hK, hN⟩ := hv
  have C0 : Cx p s m _ meth c cX11_strength 2 (some .int) RX11 wsX11_strength := ⟨⟨B.exec, B.bytes, hml, findClass_of_methodNamed B.named, atoms_spec B.pre⟩, B.returns, B.notSynchronized⟩
  obtain ⟨⟨hx, hb, -, hown, hts⟩, hr, hlk⟩ := id C0
  have hl := lv_entry ([.ref (am 0), .int x1]) (n := 2) (Nat.le_of_ble_eq_true rfl)
  rw [lg_entry_eq]
  generalize (lg_sl ([.ref (am 0), .int x1]) ++ List.replicate (2 - (lg_sl ([.ref (am 0), .int x1])).length) Slot.unset).toArray = ls at hl ⊢
  have hl : lv_has ls 2 [(0, .ref (am 0)), (1, .int x1)] := hl
  rw [pX11_strength] at h
  refine lv_aload_n hx hb dX11_strength_0 rfl (lv_at hl 0 rfl) ?_
  refine lv_iload_n hx hb dX11_strength_1 rfl (lv_at hl 1 rfl) ?_
  refine lv_aload_n hx hb dX11_strength_2 rfl (lv_at hl 0 rfl) ?_
  refine va_get (D := D) (ci := 11) (v := .ref (am 13)) (C := RX11) (T := TX11) (N := 30) hx hb hts iX11_strength_X11 hown hK hP 0 mw_0 rfl 19 (by decide) (hts (.fieldLink RX11 47 RX11 "now" "[I") (by decide +kernel)) (fun _ h9 => h9) rfl dX11_strength_3 ?_
  refine lv_iconst (v := 0) hx hb dX11_strength_6 (by decide) ?_
  refine lv_iload_n hx hb dX11_strength_7 rfl (lv_at hl 1 rfl) ?_
  refine lv_iadd hx hb dX11_strength_8 ?_
  obtain ⟨v1, e2, h⟩ := k_bd h
  refine va_iald hx hb hK hP 13 0 mw_13 rfl (k_rd e2).1 dX11_strength_9 ?_
  refine lv_nmi (k_rd e2).2 ?_
  obtain ⟨v3, e4, h⟩ := k_bd h
  refine rd_calli (va_runV (As := [.int x1, .int v1]) (rest := []) C0.1 (kX11_strengthAt l (D := D) (cI := cI) (cB := cB) (cZ := cZ) (am := am) (τ := τ) σ x1 v1 _ e4) (wX11_strength_X11_strengthAt hts ⟨Nat.le_of_ble_eq_true rfl, Nat.le_of_ble_eq_true rfl⟩) ⟨PW.blind, mw_r0 hK hP, PW.mk hP hK hN⟩ rfl rfl hl.1 rfl (lv_room (Nat.le_of_ble_eq_true rfl)) dX11_strength_10 ⟨Nat.zero_le _, Nat.zero_le _⟩) ?_
  obtain rfl := k_sm h
  exact W.iret hx hb hr (fun t ht hW => ⟨rfl, ht⟩) (fun _ h => by cases h) dX11_strength_13
set_option maxHeartbeats 4000000 in
set_option maxRecDepth 100000 in
theorem bX11_hold_L4 {p : Program} {l : Launch} {e : Env} {s : State} {m : MethodId} {args : Array Value} {below : List Frame} {meth : Method} {c : Code} {Q : State → Prop} {D : va_G} {cI cB cZ : ClassId} {am : Nat → Nat} (C0 : Cx p s m args meth c cX11_hold 4 (some .int) RX11 wsX11_hold) (hK : va_K D vwCl (tysA cI cB cZ) s) (hN : NW s) {τ : Int64} {σ : Sg} (hP : va_P D vwCl (MW cI cB cZ am τ σ) s.heap) (x1 : Int32) : ∀ (n : Nat) (x2 : Int32) (x3 : Int32) (v : Int32) (ls : Array Slot), lv_has ls 4 [(0, .ref (am 0)), (1, .int x1), (2, .int x2), (3, .int x3)] → pX11_hold_L4 σ x1 n x2 x3 = some v → (∀ (ls1 : Array Slot), lv_has ls1 4 [(2, .int v)] → W p l e rmX11_hold s m args below meth c s.heap [] 0 0 Q (F0 m 59 ls1 [])) → W p l e rmX11_hold s m args below meth c s.heap [] 0 0 Q (F0 m 4 ls []) := by
  obtain ⟨⟨hx, hb, hml, hown, hts⟩, hr, hlk⟩ := id C0
  intro n
  induction n with
  | zero =>
    intro x2 x3 v ls hl h kk
    exact absurd h (by simp [pX11_hold_L4])
  | succ n ih =>
    intro x2 x3 v ls hl h kk
    rw [pX11_hold_L4] at h
    refine lv_iload_n hx hb dX11_hold_4 rfl (lv_at hl 3 rfl) ?_
    refine lv_aload_n hx hb dX11_hold_5 rfl (lv_at hl 0 rfl) ?_
    refine va_get (D := D) (ci := 11) (v := .ref (am 7)) (C := RX11) (T := TX11) (N := 30) hx hb hts iX11_hold_X11 hown hK hP 0 mw_0 rfl 7 (by decide) (hts (.fieldLink RX11 29 RX11 "anchors" "[I") (by decide +kernel)) (fun _ h9 => h9) rfl dX11_hold_6 ?_
    refine lv_iconst (v := 0) hx hb dX11_hold_9 (by decide) ?_
    obtain ⟨v1, e2, h⟩ := k_bd h
    refine va_iald hx hb hK hP 7 0 mw_7 rfl (k_rd e2).1 dX11_hold_10 ?_
    refine lv_nmi (k_rd e2).2 ?_
    refine lv_icmp_ge (tgt := 59) hx hb dX11_hold_11 (by decide) (fun c11 => ?_) (fun c11 => ?_)
    · replace h := k_ip c11 h
      obtain rfl := k_sm h
      exact kk _ (lv_sub hl [2] rfl)
    · replace h := k_in c11 h
      refine lv_iload_n hx hb dX11_hold_14 rfl (lv_at hl 2 rfl) ?_
      refine lv_aload_n hx hb dX11_hold_15 rfl (lv_at hl 0 rfl) ?_
      refine lv_iload_n hx hb dX11_hold_16 rfl (lv_at hl 3 rfl) ?_
      obtain ⟨v3, e4, h⟩ := k_bd h
      refine rd_calli (va_runV (As := [.int x3]) (rest := [.int x2]) C0.1 (kX11_isLying l (D := D) (cI := cI) (cB := cB) (cZ := cZ) (am := am) (τ := τ) σ x3 _ e4) (wX11_hold_X11_isLying hts ⟨Nat.le_of_ble_eq_true rfl, Nat.le_of_ble_eq_true rfl⟩) ⟨PW.blind, mw_r0 hK hP, PW.mk hP hK hN⟩ rfl rfl hl.1 rfl (lv_room (Nat.le_of_ble_eq_true rfl)) dX11_hold_17 ⟨Nat.zero_le _, Nat.zero_le _⟩) ?_
      refine lv_if_eq (tgt := 50) hx hb dX11_hold_20 (by decide) (fun c20 => ?_) (fun c20 => ?_)
      · replace h := k_ip c20 h
        refine lv_iconst (v := 0) hx hb dX11_hold_50 (by decide) ?_
        refine lv_iadd hx hb dX11_hold_51 ?_
        obtain ⟨v5, e6, h⟩ := k_bd h
        refine lv_nmi (k_sm e6) ?_
        refine lv_istore_n (lv' := [(2, .int v5), (0, .ref (am 0)), (1, .int x1), (3, .int x3)]) hx hb dX11_hold_52 rfl hl (by decide) rfl (fun ls hl => ?_)
        refine lv_iinc (v := (x3 + 1)) (lv' := [(3, .int (x3 + 1)), (2, .int v5), (0, .ref (am 0)), (1, .int x1)]) hx hb dX11_hold_53 hl (k := 3) rfl rfl (by decide) rfl (fun ls hl => ?_)
        refine lv_goto (tgt := 4) hx hb dX11_hold_56 (by decide) ?_
        exact ih v5 (x3 + 1) _ ls (lv_sub hl [2, 3, 1, 0] rfl) h kk
      · replace h := k_in c20 h
        refine lv_aload_n hx hb dX11_hold_23 rfl (lv_at hl 0 rfl) ?_
        refine va_get (D := D) (ci := 11) (v := .ref (am 13)) (C := RX11) (T := TX11) (N := 30) hx hb hts iX11_hold_X11 hown hK hP 0 mw_0 rfl 19 (by decide) (hts (.fieldLink RX11 47 RX11 "now" "[I") (by decide +kernel)) (fun _ h9 => h9) rfl dX11_hold_24 ?_
        refine lv_iconst (v := 0) hx hb dX11_hold_27 (by decide) ?_
        refine lv_iload_n hx hb dX11_hold_28 rfl (lv_at hl 3 rfl) ?_
        refine lv_iadd hx hb dX11_hold_29 ?_
        obtain ⟨v7, e8, h⟩ := k_bd h
        refine va_iald hx hb hK hP 13 0 mw_13 rfl (k_rd e8).1 dX11_hold_30 ?_
        refine lv_nmi (k_rd e8).2 ?_
        refine lv_aload_n hx hb dX11_hold_31 rfl (lv_at hl 0 rfl) ?_
        refine va_get (D := D) (ci := 11) (v := .ref (am 13)) (C := RX11) (T := TX11) (N := 30) hx hb hts iX11_hold_X11 hown hK hP 0 mw_0 rfl 19 (by decide) (hts (.fieldLink RX11 47 RX11 "now" "[I") (by decide +kernel)) (fun _ h9 => h9) rfl dX11_hold_32 ?_
        refine lv_iconst (v := 0) hx hb dX11_hold_35 (by decide) ?_
        refine lv_iload_n hx hb dX11_hold_36 rfl (lv_at hl 1 rfl) ?_
        refine lv_iadd hx hb dX11_hold_37 ?_
        obtain ⟨v9, e10, h⟩ := k_bd h
        refine va_iald hx hb hK hP 13 0 mw_13 rfl (k_rd e10).1 dX11_hold_38 ?_
        refine lv_nmi (k_rd e10).2 ?_
        refine lv_icmp_ne (tgt := 50) hx hb dX11_hold_39 (by decide) (fun c39 => ?_) (fun c39 => ?_)
        · replace h := k_in c39 h
          refine lv_iconst (v := 0) hx hb dX11_hold_50 (by decide) ?_
          refine lv_iadd hx hb dX11_hold_51 ?_
          obtain ⟨v11, e12, h⟩ := k_bd h
          refine lv_nmi (k_sm e12) ?_
          refine lv_istore_n (lv' := [(2, .int v11), (0, .ref (am 0)), (1, .int x1), (3, .int x3)]) hx hb dX11_hold_52 rfl hl (by decide) rfl (fun ls hl => ?_)
          refine lv_iinc (v := (x3 + 1)) (lv' := [(3, .int (x3 + 1)), (2, .int v11), (0, .ref (am 0)), (1, .int x1)]) hx hb dX11_hold_53 hl (k := 3) rfl rfl (by decide) rfl (fun ls hl => ?_)
          refine lv_goto (tgt := 4) hx hb dX11_hold_56 (by decide) ?_
          exact ih v11 (x3 + 1) _ ls (lv_sub hl [2, 3, 1, 0] rfl) h kk
        · replace h := k_ip c39 h
          refine lv_aload_n hx hb dX11_hold_42 rfl (lv_at hl 0 rfl) ?_
          refine lv_iload_n hx hb dX11_hold_43 rfl (lv_at hl 3 rfl) ?_
          obtain ⟨v13, e14, h⟩ := k_bd h
          refine rd_calli (va_runV (As := [.int x3]) (rest := [.int x2]) C0.1 (kX11_strength l (D := D) (cI := cI) (cB := cB) (cZ := cZ) (am := am) (τ := τ) σ x3 _ e14) (wX11_hold_X11_strength hts ⟨Nat.le_of_ble_eq_true rfl, Nat.le_of_ble_eq_true rfl⟩) ⟨PW.blind, mw_r0 hK hP, PW.mk hP hK hN⟩ rfl rfl hl.1 rfl (lv_room (Nat.le_of_ble_eq_true rfl)) dX11_hold_44 ⟨Nat.zero_le _, Nat.zero_le _⟩) ?_
          refine lv_goto (tgt := 51) hx hb dX11_hold_47 (by decide) ?_
          refine lv_iadd hx hb dX11_hold_51 ?_
          obtain ⟨v15, e16, h⟩ := k_bd h
          refine lv_nmi (k_sm e16) ?_
          refine lv_istore_n (lv' := [(2, .int v15), (0, .ref (am 0)), (1, .int x1), (3, .int x3)]) hx hb dX11_hold_52 rfl hl (by decide) rfl (fun ls hl => ?_)
          refine lv_iinc (v := (x3 + 1)) (lv' := [(3, .int (x3 + 1)), (2, .int v15), (0, .ref (am 0)), (1, .int x1)]) hx hb dX11_hold_53 hl (k := 3) rfl rfl (by decide) rfl (fun ls hl => ?_)
          refine lv_goto (tgt := 4) hx hb dX11_hold_56 (by decide) ?_
          exact ih v15 (x3 + 1) _ ls (lv_sub hl [2, 3, 1, 0] rfl) h kk
set_option maxHeartbeats 4000000 in
set_option maxRecDepth 100000 in
theorem kX11_hold (l : Launch) {D : va_G} {cI cB cZ : ClassId} {am : Nat → Nat} {τ : Int64} (σ : Sg) (x1 : Int32) (o : Int32) (h : pX11_hold σ x1 = some o) : Met l yX11_hold wsX11_hold rmX11_hold (va_Pc [.ref (am 0), .int x1] (PW D cI cB cZ (MW cI cB cZ am τ σ))) (QcRead o) 0 0 (fun _ => False) := by
  refine Met.ofW (cc := cX11_hold) (maxL := 4) (ret := (some .int)) (by decide) rfl ?_
  intro p e s m args below meth c s₁ B hml hv
  obtain ⟨rfl, hP, hK, hN⟩ := hv
  have C0 : Cx p s m _ meth c cX11_hold 4 (some .int) RX11 wsX11_hold := ⟨⟨B.exec, B.bytes, hml, findClass_of_methodNamed B.named, atoms_spec B.pre⟩, B.returns, B.notSynchronized⟩
  obtain ⟨⟨hx, hb, -, hown, hts⟩, hr, hlk⟩ := id C0
  have hl := lv_entry ([.ref (am 0), .int x1]) (n := 4) (Nat.le_of_ble_eq_true rfl)
  rw [lg_entry_eq]
  generalize (lg_sl ([.ref (am 0), .int x1]) ++ List.replicate (4 - (lg_sl ([.ref (am 0), .int x1])).length) Slot.unset).toArray = ls at hl ⊢
  have hl : lv_has ls 4 [(0, .ref (am 0)), (1, .int x1)] := hl
  rw [pX11_hold] at h
  refine lv_iconst (v := 0) hx hb dX11_hold_0 (by decide) ?_
  refine lv_istore_n (lv' := [(2, .int 0), (0, .ref (am 0)), (1, .int x1)]) hx hb dX11_hold_1 rfl hl (by decide) rfl (fun ls hl => ?_)
  refine lv_iconst (v := 0) hx hb dX11_hold_2 (by decide) ?_
  refine lv_istore_n (lv' := [(3, .int 0), (2, .int 0), (0, .ref (am 0)), (1, .int x1)]) hx hb dX11_hold_3 rfl hl (by decide) rfl (fun ls hl => ?_)
  obtain ⟨w17, e18, h⟩ := k_bd h
  refine bX11_hold_L4 C0 hK hN hP x1 2000 0 0 _ ls (lv_sub hl [2, 3, 1, 0] rfl) e18 (fun ls hl => ?_)
  refine lv_iload_n hx hb dX11_hold_59 rfl (lv_at hl 0 rfl) ?_
  obtain rfl := k_sm h
  exact W.iret hx hb hr (fun t ht hW => ⟨rfl, ht⟩) (fun _ h => by cases h) dX11_hold_60
set_option maxHeartbeats 4000000 in
set_option maxRecDepth 100000 in
theorem bX11_whose_L9 {p : Program} {l : Launch} {e : Env} {s : State} {m : MethodId} {args : Array Value} {below : List Frame} {meth : Method} {c : Code} {Q : State → Prop} {D : va_G} {cI cB cZ : ClassId} {am : Nat → Nat} (C0 : Cx p s m args meth c cX11_whose 4 (some .int) RX11 wsX11_whose) (hK : va_K D vwCl (tysA cI cB cZ) s) (hN : NW s) {τ : Int64} {σ : Sg} (hP : va_P D vwCl (MW cI cB cZ am τ σ) s.heap)  : ∀ (n : Nat) (x2 : Int32) (x3 : Int32) (v : Int32) (ls : Array Slot), lv_has ls 4 [(0, .ref (am 0)), (2, .int x2), (3, .int x3)] → pX11_whose_L9 σ n x2 x3 = some v → (∀ (ls1 : Array Slot), lv_has ls1 4 [(0, .ref (am 0)), (2, .int v)] → W p l e rmX11_whose s m args below meth c s.heap [] 0 0 Q (F0 m 45 ls1 [])) → W p l e rmX11_whose s m args below meth c s.heap [] 0 0 Q (F0 m 9 ls []) := by
  obtain ⟨⟨hx, hb, hml, hown, hts⟩, hr, hlk⟩ := id C0
  intro n
  induction n with
  | zero =>
    intro x2 x3 v ls hl h kk
    exact absurd h (by simp [pX11_whose_L9])
  | succ n ih =>
    intro x2 x3 v ls hl h kk
    rw [pX11_whose_L9] at h
    refine lv_iload_n hx hb dX11_whose_9 rfl (lv_at hl 2 rfl) ?_
    refine lv_bipush (v := 6) hx hb dX11_whose_10 (by decide) ?_
    refine lv_icmp_ge (tgt := 45) hx hb dX11_whose_12 (by decide) (fun c12 => ?_) (fun c12 => ?_)
    · replace h := k_ip c12 h
      obtain rfl := k_sm h
      exact kk _ (lv_sub hl [0, 1] rfl)
    · replace h := k_in c12 h
      refine lv_aload_n hx hb dX11_whose_15 rfl (lv_at hl 0 rfl) ?_
      refine va_get (D := D) (ci := 11) (v := .ref (am 13)) (C := RX11) (T := TX11) (N := 30) hx hb hts iX11_whose_X11 hown hK hP 0 mw_0 rfl 19 (by decide) (hts (.fieldLink RX11 47 RX11 "now" "[I") (by decide +kernel)) (fun _ h9 => h9) rfl dX11_whose_16 ?_
      refine lv_bipush (v := 32) hx hb dX11_whose_19 (by decide) ?_
      obtain ⟨v3, e4, h⟩ := k_bd h
      refine va_iald hx hb hK hP 13 0 mw_13 rfl (k_rd e4).1 dX11_whose_21 ?_
      refine lv_nmi (k_rd e4).2 ?_
      refine lv_iload_n hx hb dX11_whose_22 rfl (lv_at hl 1 rfl) ?_
      refine rd_calli (va_runS (As := [.int v3, .int x2]) (rest := []) C0.1 (kX11_has l v3 x2) (wX11_whose_X11_has hts ⟨Nat.le_of_ble_eq_true rfl, Nat.le_of_ble_eq_true rfl⟩) ⟨PT.blind, fun _ _ _ => ⟨rfl, trivial⟩⟩ rfl rfl hl.1 rfl (lv_room (Nat.le_of_ble_eq_true rfl)) dX11_whose_23 ⟨Nat.zero_le _, Nat.zero_le _⟩) ?_
      refine lv_if_eq (tgt := 45) hx hb dX11_whose_26 (by decide) (fun c26 => ?_) (fun c26 => ?_)
      · replace h := k_ip c26 h
        obtain rfl := k_sm h
        exact kk _ (lv_sub hl [0, 1] rfl)
      · replace h := k_in c26 h
        refine lv_aload_n hx hb dX11_whose_29 rfl (lv_at hl 0 rfl) ?_
        refine va_get (D := D) (ci := 11) (v := .ref (am 13)) (C := RX11) (T := TX11) (N := 30) hx hb hts iX11_whose_X11 hown hK hP 0 mw_0 rfl 19 (by decide) (hts (.fieldLink RX11 47 RX11 "now" "[I") (by decide +kernel)) (fun _ h9 => h9) rfl dX11_whose_30 ?_
        refine lv_bipush (v := 33) hx hb dX11_whose_33 (by decide) ?_
        refine lv_iload_n hx hb dX11_whose_35 rfl (lv_at hl 1 rfl) ?_
        refine lv_iadd hx hb dX11_whose_36 ?_
        obtain ⟨v5, e6, h⟩ := k_bd h
        refine va_iald hx hb hK hP 13 0 mw_13 rfl (k_rd e6).1 dX11_whose_37 ?_
        refine lv_nmi (k_rd e6).2 ?_
        refine lv_istore_n (lv' := [(2, .int v5), (0, .ref (am 0)), (3, .int x3)]) hx hb dX11_whose_38 rfl hl (by decide) rfl (fun ls hl => ?_)
        refine lv_iinc (v := (x3 + 1)) (lv' := [(3, .int (x3 + 1)), (2, .int v5), (0, .ref (am 0))]) hx hb dX11_whose_39 hl (k := 2) rfl rfl (by decide) rfl (fun ls hl => ?_)
        refine lv_goto (tgt := 9) hx hb dX11_whose_42 (by decide) ?_
        exact ih v5 (x3 + 1) _ ls (lv_sub hl [2, 1, 0] rfl) h kk
set_option maxHeartbeats 4000000 in
set_option maxRecDepth 100000 in
theorem kX11_whose (l : Launch) {D : va_G} {cI cB cZ : ClassId} {am : Nat → Nat} {τ : Int64} (σ : Sg) (x1 : Int32) (o : Int32) (h : pX11_whose σ x1 = some o) : Met l yX11_whose wsX11_whose rmX11_whose (va_Pc [.ref (am 0), .int x1] (PW D cI cB cZ (MW cI cB cZ am τ σ))) (QcRead o) 0 0 (fun _ => False) := by
  refine Met.ofW (cc := cX11_whose) (maxL := 4) (ret := (some .int)) (by decide) rfl ?_
  intro p e s m args below meth c s₁ B hml hv
  obtain ⟨rfl, hP, hK, hN⟩ := hv
  have C0 : Cx p s m _ meth c cX11_whose 4 (some .int) RX11 wsX11_whose := ⟨⟨B.exec, B.bytes, hml, findClass_of_methodNamed B.named, atoms_spec B.pre⟩, B.returns, B.notSynchronized⟩
  obtain ⟨⟨hx, hb, -, hown, hts⟩, hr, hlk⟩ := id C0
  have hl := lv_entry ([.ref (am 0), .int x1]) (n := 4) (Nat.le_of_ble_eq_true rfl)
  rw [lg_entry_eq]
  generalize (lg_sl ([.ref (am 0), .int x1]) ++ List.replicate (4 - (lg_sl ([.ref (am 0), .int x1])).length) Slot.unset).toArray = ls at hl ⊢
  have hl : lv_has ls 4 [(0, .ref (am 0)), (1, .int x1)] := hl
  rw [pX11_whose] at h
  refine lv_aload_n hx hb dX11_whose_0 rfl (lv_at hl 0 rfl) ?_
  refine va_get (D := D) (ci := 11) (v := .ref (am 8)) (C := RX11) (T := TX11) (N := 30) hx hb hts iX11_whose_X11 hown hK hP 0 mw_0 rfl 8 (by decide) (hts (.fieldLink RX11 32 RX11 "owner" "[I") (by decide +kernel)) (fun _ h9 => h9) rfl dX11_whose_1 ?_
  refine lv_iload_n hx hb dX11_whose_4 rfl (lv_at hl 1 rfl) ?_
  obtain ⟨v1, e2, h⟩ := k_bd h
  refine va_iald hx hb hK hP 8 0 mw_8 rfl (k_rd e2).1 dX11_whose_5 ?_
  refine lv_nmi (k_rd e2).2 ?_
  refine lv_istore_n (lv' := [(2, .int v1), (0, .ref (am 0)), (1, .int x1)]) hx hb dX11_whose_6 rfl hl (by decide) rfl (fun ls hl => ?_)
  refine lv_iconst (v := 0) hx hb dX11_whose_7 (by decide) ?_
  refine lv_istore_n (lv' := [(3, .int 0), (2, .int v1), (0, .ref (am 0)), (1, .int x1)]) hx hb dX11_whose_8 rfl hl (by decide) rfl (fun ls hl => ?_)
  obtain ⟨w7, e8, h⟩ := k_bd h
  refine bX11_whose_L9 C0 hK hN hP  2000 v1 0 _ ls (lv_sub hl [2, 1, 0] rfl) e8 (fun ls hl => ?_)
  refine lv_aload_n hx hb dX11_whose_45 rfl (lv_at hl 0 rfl) ?_
  refine va_get (D := D) (ci := 11) (v := .ref (am 13)) (C := RX11) (T := TX11) (N := 30) hx hb hts iX11_whose_X11 hown hK hP 0 mw_0 rfl 19 (by decide) (hts (.fieldLink RX11 47 RX11 "now" "[I") (by decide +kernel)) (fun _ h9 => h9) rfl dX11_whose_46 ?_
  refine lv_bipush (v := 32) hx hb dX11_whose_49 (by decide) ?_
  obtain ⟨v9, e10, h⟩ := k_bd h
  refine va_iald hx hb hK hP 13 0 mw_13 rfl (k_rd e10).1 dX11_whose_51 ?_
  refine lv_nmi (k_rd e10).2 ?_
  refine lv_iload_n hx hb dX11_whose_52 rfl (lv_at hl 1 rfl) ?_
  refine rd_calli (va_runS (As := [.int v9, .int w7]) (rest := []) C0.1 (kX11_has l v9 w7) (wX11_whose_X11_has hts ⟨Nat.le_of_ble_eq_true rfl, Nat.le_of_ble_eq_true rfl⟩) ⟨PT.blind, fun _ _ _ => ⟨rfl, trivial⟩⟩ rfl rfl hl.1 rfl (lv_room (Nat.le_of_ble_eq_true rfl)) dX11_whose_53 ⟨Nat.zero_le _, Nat.zero_le _⟩) ?_
  refine lv_if_eq (tgt := 64) hx hb dX11_whose_56 (by decide) (fun c56 => ?_) (fun c56 => ?_)
  · replace h := k_ip c56 h
    refine lv_iload_n hx hb dX11_whose_64 rfl (lv_at hl 1 rfl) ?_
    obtain rfl := k_sm h
    exact W.iret hx hb hr (fun t ht hW => ⟨rfl, ht⟩) (fun _ h => by cases h) dX11_whose_65
  · replace h := k_in c56 h
    refine lv_bipush (v := (-9)) hx hb dX11_whose_59 (by decide) ?_
    refine lv_goto (tgt := 65) hx hb dX11_whose_61 (by decide) ?_
    obtain rfl := k_sm h
    exact W.iret hx hb hr (fun t ht hW => ⟨rfl, ht⟩) (fun _ h => by cases h) dX11_whose_65
set_option maxHeartbeats 4000000 in
set_option maxRecDepth 100000 in
theorem kX11_leftOf (l : Launch) {D : va_G} {cI cB cZ : ClassId} {am : Nat → Nat} {τ : Int64} (σ : Sg) (x1 : Int32) (o : Int32) (h : pX11_leftOf σ x1 = some o) : Met l yX11_leftOf wsX11_leftOf rmX11_leftOf (va_Pc [.ref (am 0), .int x1] (PW D cI cB cZ (MW cI cB cZ am τ σ))) (QcRead o) 0 0 (fun _ => False) := by
  refine Met.ofW (cc := cX11_leftOf) (maxL := 2) (ret := (some .int)) (by decide) rfl ?_
  intro p e s m args below meth c s₁ B hml hv
  obtain ⟨rfl, hP, hK, hN⟩ := hv
  have C0 : Cx p s m _ meth c cX11_leftOf 2 (some .int) RX11 wsX11_leftOf := ⟨⟨B.exec, B.bytes, hml, findClass_of_methodNamed B.named, atoms_spec B.pre⟩, B.returns, B.notSynchronized⟩
  obtain ⟨⟨hx, hb, -, hown, hts⟩, hr, hlk⟩ := id C0
  have hl := lv_entry ([.ref (am 0), .int x1]) (n := 2) (Nat.le_of_ble_eq_true rfl)
  rw [lg_entry_eq]
  generalize (lg_sl ([.ref (am 0), .int x1]) ++ List.replicate (2 - (lg_sl ([.ref (am 0), .int x1])).length) Slot.unset).toArray = ls at hl ⊢
  have hl : lv_has ls 2 [(0, .ref (am 0)), (1, .int x1)] := hl
  rw [pX11_leftOf] at h
  refine lv_aload_n hx hb dX11_leftOf_0 rfl (lv_at hl 0 rfl) ?_
  refine va_get (D := D) (ci := 11) (v := .ref (am 12)) (C := RX11) (T := TX11) (N := 30) hx hb hts iX11_leftOf_X11 hown hK hP 0 mw_0 rfl 12 (by decide) (hts (.fieldLink RX11 44 RX11 "worth" "[I") (by decide +kernel)) (fun _ h9 => h9) rfl dX11_leftOf_1 ?_
  refine lv_iload_n hx hb dX11_leftOf_4 rfl (lv_at hl 1 rfl) ?_
  obtain ⟨v1, e2, h⟩ := k_bd h
  refine va_iald hx hb hK hP 12 0 mw_12 rfl (k_rd e2).1 dX11_leftOf_5 ?_
  refine lv_nmi (k_rd e2).2 ?_
  refine lv_aload_n hx hb dX11_leftOf_6 rfl (lv_at hl 0 rfl) ?_
  refine va_get (D := D) (ci := 11) (v := .ref (am 13)) (C := RX11) (T := TX11) (N := 30) hx hb hts iX11_leftOf_X11 hown hK hP 0 mw_0 rfl 19 (by decide) (hts (.fieldLink RX11 47 RX11 "now" "[I") (by decide +kernel)) (fun _ h9 => h9) rfl dX11_leftOf_7 ?_
  refine lv_bipush (v := 16) hx hb dX11_leftOf_10 (by decide) ?_
  refine lv_iload_n hx hb dX11_leftOf_12 rfl (lv_at hl 1 rfl) ?_
  refine lv_iadd hx hb dX11_leftOf_13 ?_
  obtain ⟨v3, e4, h⟩ := k_bd h
  refine va_iald hx hb hK hP 13 0 mw_13 rfl (k_rd e4).1 dX11_leftOf_14 ?_
  refine lv_nmi (k_rd e4).2 ?_
  refine lv_icmp_le (tgt := 37) hx hb dX11_leftOf_15 (by decide) (fun c15 => ?_) (fun c15 => ?_)
  · replace h := k_ip c15 h
    refine lv_iconst (v := 0) hx hb dX11_leftOf_37 (by decide) ?_
    obtain rfl := k_sm h
    exact W.iret hx hb hr (fun t ht hW => ⟨rfl, ht⟩) (fun _ h => by cases h) dX11_leftOf_38
  · replace h := k_in c15 h
    refine lv_aload_n hx hb dX11_leftOf_18 rfl (lv_at hl 0 rfl) ?_
    refine va_get (D := D) (ci := 11) (v := .ref (am 12)) (C := RX11) (T := TX11) (N := 30) hx hb hts iX11_leftOf_X11 hown hK hP 0 mw_0 rfl 12 (by decide) (hts (.fieldLink RX11 44 RX11 "worth" "[I") (by decide +kernel)) (fun _ h9 => h9) rfl dX11_leftOf_19 ?_
    refine lv_iload_n hx hb dX11_leftOf_22 rfl (lv_at hl 1 rfl) ?_
    obtain ⟨v5, e6, h⟩ := k_bd h
    refine va_iald hx hb hK hP 12 0 mw_12 rfl (k_rd e6).1 dX11_leftOf_23 ?_
    refine lv_nmi (k_rd e6).2 ?_
    refine lv_aload_n hx hb dX11_leftOf_24 rfl (lv_at hl 0 rfl) ?_
    refine va_get (D := D) (ci := 11) (v := .ref (am 13)) (C := RX11) (T := TX11) (N := 30) hx hb hts iX11_leftOf_X11 hown hK hP 0 mw_0 rfl 19 (by decide) (hts (.fieldLink RX11 47 RX11 "now" "[I") (by decide +kernel)) (fun _ h9 => h9) rfl dX11_leftOf_25 ?_
    refine lv_bipush (v := 16) hx hb dX11_leftOf_28 (by decide) ?_
    refine lv_iload_n hx hb dX11_leftOf_30 rfl (lv_at hl 1 rfl) ?_
    refine lv_iadd hx hb dX11_leftOf_31 ?_
    obtain ⟨v7, e8, h⟩ := k_bd h
    refine va_iald hx hb hK hP 13 0 mw_13 rfl (k_rd e8).1 dX11_leftOf_32 ?_
    refine lv_nmi (k_rd e8).2 ?_
    refine lv_isub hx hb dX11_leftOf_33 ?_
    refine lv_goto (tgt := 38) hx hb dX11_leftOf_34 (by decide) ?_
    obtain rfl := k_sm h
    exact W.iret hx hb hr (fun t ht hW => ⟨rfl, ht⟩) (fun _ h => by cases h) dX11_leftOf_38
