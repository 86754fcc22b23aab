set_option maxHeartbeats 4000000 in
set_option maxRecDepth 100000 in
theorem bX2_whoseIs_L14 {p : Program} {l : Launch} {e : Env} {s : State} {m : MethodId} {args : Array Value} {below : List Frame} {meth : Method} {c : Code} {D : va_G} {cI cB cZ : ClassId} {ad : Nat → Nat} (C0 : Cx p s m args meth c cX2_whoseIs 4 (some .int) RX2 wsX2_whoseIs) (hK : va_K D vwCl (tysA cI cB cZ) s) (hN : NW s) {τ : Int64} {σ : Sg} (hP : va_P D vwCl (CW cI ad τ σ) s.heap)  : ∀ (n : Nat) (x2 : Int32) (x3 : Int32) (o : Int32) (ls : Array Slot), lv_has ls 4 [(0, .ref (ad 42)), (2, .int x2), (3, .int x3)] → pX2_whoseIs_L14 σ n x2 x3 = some o → W p l e rmX2_whoseIs s m args below meth c s.heap [] 0 0 (MQ below (QcRead o) args s 0 0 (fun _ => False)) (F0 m 14 ls []) := by
  obtain ⟨⟨hx, hb, hml, hown, hts⟩, hr, hlk⟩ := id C0
  intro n
  induction n with
  | zero =>
    intro x2 x3 o ls hl h
    exact absurd h (by simp [pX2_whoseIs_L14])
  | succ n ih =>
    intro x2 x3 o ls hl h
    rw [pX2_whoseIs_L14] at h
    refine lv_iload_n hx hb dX2_whoseIs_14 rfl (lv_at hl 2 rfl) ?_
    refine lv_bipush (v := 6) hx hb dX2_whoseIs_15 (by decide) ?_
    refine lv_icmp_ge (tgt := 50) hx hb dX2_whoseIs_17 (by decide) (fun c17 => ?_) (fun c17 => ?_)
    · replace h := k_ip c17 h
      refine lv_bipush (v := (-9)) hx hb dX2_whoseIs_50 (by decide) ?_
      obtain rfl := k_sm h
      exact W.iret hx hb hr (fun t ht hW => ⟨rfl, ht⟩) (fun _ h => by cases h) dX2_whoseIs_52
    · replace h := k_in c17 h
      refine lv_aload_n hx hb dX2_whoseIs_20 rfl (lv_at hl 0 rfl) ?_
      refine va_get (D := D) (ci := 2) (v := .ref (ad 19)) (C := RX2) (T := TX2) (N := 2) hx hb hts iX2_whoseIs_X2 hown hK hP 42 cw_42 rfl 1 (by decide) (hts (.fieldLink RX2 15 RX2 "now" "LAnchorWills$Now;") (by decide +kernel)) (fun _ h9 => h9) rfl dX2_whoseIs_21 ?_
      refine lv_iload_n hx hb dX2_whoseIs_24 rfl (lv_at hl 1 rfl) ?_
      refine rd_calli (va_runVN (As := [.int x2]) (rest := []) C0.1 (kX5_isGone_20 l (D := D) (cI := cI) (cB := cB) (cZ := cZ) (ad := ad) (τ := τ) σ x2) (wX2_whoseIs_X5_isGone hts hN ⟨Nat.le_of_ble_eq_true rfl, Nat.le_of_ble_eq_true rfl⟩) ⟨PW.blind, cw_r19 hK hP, PW.mk hP hK hN⟩ rfl rfl hl.1 rfl (lv_room (Nat.le_of_ble_eq_true rfl)) dX2_whoseIs_25 ⟨Nat.zero_le _, Nat.zero_le _⟩) ?_
      refine lv_if_ne (tgt := 33) hx hb dX2_whoseIs_28 (by decide) (fun c28 => ?_) (fun c28 => ?_)
      · replace h := k_in c28 h
        refine lv_aload_n hx hb dX2_whoseIs_33 rfl (lv_at hl 0 rfl) ?_
        refine va_get (D := D) (ci := 2) (v := .ref (ad 19)) (C := RX2) (T := TX2) (N := 2) hx hb hts iX2_whoseIs_X2 hown hK hP 42 cw_42 rfl 1 (by decide) (hts (.fieldLink RX2 15 RX2 "now" "LAnchorWills$Now;") (by decide +kernel)) (fun _ h9 => h9) rfl dX2_whoseIs_34 ?_
        refine lv_bipush (v := 32) hx hb dX2_whoseIs_37 (by decide) ?_
        refine lv_iload_n hx hb dX2_whoseIs_39 rfl (lv_at hl 1 rfl) ?_
        refine rd_calli (va_runVN (As := [.int 32, .int x2]) (rest := []) C0.1 (kX5_get_20 l (D := D) (cI := cI) (cB := cB) (cZ := cZ) (ad := ad) (τ := τ) σ 32 x2) (wX2_whoseIs_X5_get hts hN ⟨Nat.le_of_ble_eq_true rfl, Nat.le_of_ble_eq_true rfl⟩) ⟨PW.blind, cw_r19 hK hP, PW.mk hP hK hN⟩ rfl rfl hl.1 rfl (lv_room (Nat.le_of_ble_eq_true rfl)) dX2_whoseIs_40 ⟨Nat.zero_le _, Nat.zero_le _⟩) ?_
        obtain ⟨v3, e4, h⟩ := k_bd h
        refine lv_nmi (k_sm e4) ?_
        refine lv_istore_n (lv' := [(2, .int v3), (0, .ref (ad 42)), (3, .int x3)]) hx hb dX2_whoseIs_43 rfl hl (by decide) rfl (fun ls hl => ?_)
        refine lv_iinc (v := (x3 + 1)) (lv' := [(3, .int (x3 + 1)), (2, .int v3), (0, .ref (ad 42))]) hx hb dX2_whoseIs_44 hl (k := 2) rfl rfl (by decide) rfl (fun ls hl => ?_)
        refine lv_goto (tgt := 14) hx hb dX2_whoseIs_47 (by decide) ?_
        exact ih v3 (x3 + 1) _ ls (lv_sub hl [2, 1, 0] rfl) h
      · replace h := k_ip c28 h
        refine lv_iload_n hx hb dX2_whoseIs_31 rfl (lv_at hl 1 rfl) ?_
        obtain rfl := k_sm h
        exact W.iret hx hb hr (fun t ht hW => ⟨rfl, ht⟩) (fun _ h => by cases h) dX2_whoseIs_32
set_option maxHeartbeats 4000000 in
set_option maxRecDepth 100000 in
theorem kX2_whoseIs (l : Launch) {D : va_G} {cI cB cZ : ClassId} {ad : Nat → Nat} {τ : Int64} (σ : Sg) (x1 : Int32) (o : Int32) (h : pX2_whoseIs σ x1 = some o) : Met l yX2_whoseIs wsX2_whoseIs rmX2_whoseIs (va_Pc [.ref (ad 42), .int x1] (PW D cI cB cZ (CW cI ad τ σ))) (QcRead o) 0 0 (fun _ => False) := by
  refine Met.ofW (cc := cX2_whoseIs) (maxL := 4) (ret := (some .int)) (by decide) rfl ?_
  intro p e s m args below meth c s₁ B hml hv
  obtain ⟨rfl, hP, hK, hN⟩ := hv
  have C0 : Cx p s m _ meth c cX2_whoseIs 4 (some .int) RX2 wsX2_whoseIs := ⟨⟨B.exec, B.bytes, hml, findClass_of_methodNamed B.named, atoms_spec B.pre⟩, B.returns, B.notSynchronized⟩
  obtain ⟨⟨hx, hb, -, hown, hts⟩, hr, hlk⟩ := id C0
  have hl := lv_entry ([.ref (ad 42), .int x1]) (n := 4) (Nat.le_of_ble_eq_true rfl)
  rw [lg_entry_eq]
  generalize (lg_sl ([.ref (ad 42), .int x1]) ++ List.replicate (4 - (lg_sl ([.ref (ad 42), .int x1])).length) Slot.unset).toArray = ls at hl ⊢
  have hl : lv_has ls 4 [(0, .ref (ad 42)), (1, .int x1)] := hl
  rw [pX2_whoseIs] at h
  refine lv_aload_n hx hb dX2_whoseIs_0 rfl (lv_at hl 0 rfl) ?_
  refine va_get (D := D) (ci := 2) (v := .ref (ad 1)) (C := RX2) (T := TX2) (N := 2) hx hb hts iX2_whoseIs_X2 hown hK hP 42 cw_42 rfl 0 (by decide) (hts (.fieldLink RX2 9 RX2 "told" "LAnchorWills$Told;") (by decide +kernel)) (fun _ h9 => h9) rfl dX2_whoseIs_1 ?_
  refine va_getN (D := D) (ci := 9) (v := .ref (ad 4)) (C := RX9) (T := TX9) (N := 10) hx hb hts iX2_whoseIs_X9 hown hK hP 1 cw_1 rfl 2 (by decide) (va_Nw.use rfl (nf_X2_19 hN)) (fun _ h9 => h9) rfl dX2_whoseIs_4 ?_
  refine lv_iload_n hx hb dX2_whoseIs_7 rfl (lv_at hl 1 rfl) ?_
  refine rd_calli (va_runSN (As := [.ref (ad 4), .int x1]) (rest := []) C0.1 (kX10_at l (ad 4) 8 (σ 4) x1 (by decide)) (wX2_whoseIs_X10_at hts hN ⟨Nat.le_of_ble_eq_true rfl, Nat.le_of_ble_eq_true rfl⟩) ⟨PAt.blind, PAt.mk (cw_t4 hK hP)⟩ rfl rfl hl.1 rfl (lv_room (Nat.le_of_ble_eq_true rfl)) dX2_whoseIs_8 ⟨Nat.zero_le _, Nat.zero_le _⟩) ?_
  obtain ⟨v1, e2, h⟩ := k_bd h
  refine lv_nmi (k_sm e2) ?_
  refine lv_istore_n (lv' := [(2, .int v1), (0, .ref (ad 42)), (1, .int x1)]) hx hb dX2_whoseIs_11 rfl hl (by decide) rfl (fun ls hl => ?_)
  refine lv_iconst (v := 0) hx hb dX2_whoseIs_12 (by decide) ?_
  refine lv_istore_n (lv' := [(3, .int 0), (2, .int v1), (0, .ref (ad 42)), (1, .int x1)]) hx hb dX2_whoseIs_13 rfl hl (by decide) rfl (fun ls hl => ?_)
  exact bX2_whoseIs_L14 C0 hK hN hP  2000 v1 0 _ ls (lv_sub hl [2, 1, 0] rfl) h
set_option maxHeartbeats 4000000 in
set_option maxRecDepth 100000 in
theorem kX2_valueOf (l : Launch) {D : va_G} {cI cB cZ : ClassId} {ad : Nat → Nat} {τ : Int64} (σ : Sg) (x1 : Int32) : Met l yX2_valueOf wsX2_valueOf rmX2_valueOf (va_Pc [.ref (ad 42), .int x1] (PW D cI cB cZ (CW cI ad τ σ))) (QcRead (pX2_valueOf σ x1)) 0 0 (fun _ => False) := by
  obtain ⟨o, h⟩ : ∃ o, pX2_valueOf σ x1 = o := ⟨_, rfl⟩
  rw [h]
  refine Met.ofW (cc := cX2_valueOf) (maxL := 2) (ret := (some .int)) (by decide) rfl ?_
  intro p e s m args below meth c s₁ B hml hv
  obtain ⟨rfl, hP, hK, hN⟩ := hv
  have C0 : Cx p s m _ meth c cX2_valueOf 2 (some .int) RX2 wsX2_valueOf := ⟨⟨B.exec, B.bytes, hml, findClass_of_methodNamed B.named, atoms_spec B.pre⟩, B.returns, B.notSynchronized⟩
  obtain ⟨⟨hx, hb, -, hown, hts⟩, hr, hlk⟩ := id C0
  have hl := lv_entry ([.ref (ad 42), .int x1]) (n := 2) (Nat.le_of_ble_eq_true rfl)
  rw [lg_entry_eq]
  generalize (lg_sl ([.ref (ad 42), .int x1]) ++ List.replicate (2 - (lg_sl ([.ref (ad 42), .int x1])).length) Slot.unset).toArray = ls at hl ⊢
  have hl : lv_has ls 2 [(0, .ref (ad 42)), (1, .int x1)] := hl
  rw [pX2_valueOf] at h
  refine lv_aload_n hx hb dX2_valueOf_0 rfl (lv_at hl 0 rfl) ?_
  refine va_get (D := D) (ci := 2) (v := .ref (ad 1)) (C := RX2) (T := TX2) (N := 2) hx hb hts iX2_valueOf_X2 hown hK hP 42 cw_42 rfl 0 (by decide) (hts (.fieldLink RX2 9 RX2 "told" "LAnchorWills$Told;") (by decide +kernel)) (fun _ h9 => h9) rfl dX2_valueOf_1 ?_
  refine va_getN (D := D) (ci := 9) (v := .ref (ad 6)) (C := RX9) (T := TX9) (N := 10) hx hb hts iX2_valueOf_X9 hown hK hP 1 cw_1 rfl 4 (by decide) (va_Nw.use rfl (nf_X2_39 hN)) (fun _ h9 => h9) rfl dX2_valueOf_4 ?_
  refine lv_iload_n hx hb dX2_valueOf_7 rfl (lv_at hl 1 rfl) ?_
  refine rd_calli (va_runSN (As := [.ref (ad 6), .int x1]) (rest := []) C0.1 (kX10_at l (ad 6) 8 (σ 6) x1 (by decide)) (wX2_valueOf_X10_at hts hN ⟨Nat.le_of_ble_eq_true rfl, Nat.le_of_ble_eq_true rfl⟩) ⟨PAt.blind, PAt.mk (cw_t6 hK hP)⟩ rfl rfl hl.1 rfl (lv_room (Nat.le_of_ble_eq_true rfl)) dX2_valueOf_8 ⟨Nat.zero_le _, Nat.zero_le _⟩) ?_
  refine lv_aload_n hx hb dX2_valueOf_11 rfl (lv_at hl 0 rfl) ?_
  refine va_get (D := D) (ci := 2) (v := .ref (ad 19)) (C := RX2) (T := TX2) (N := 2) hx hb hts iX2_valueOf_X2 hown hK hP 42 cw_42 rfl 1 (by decide) (hts (.fieldLink RX2 15 RX2 "now" "LAnchorWills$Now;") (by decide +kernel)) (fun _ h9 => h9) rfl dX2_valueOf_12 ?_
  refine lv_bipush (v := 16) hx hb dX2_valueOf_15 (by decide) ?_
  refine lv_iload_n hx hb dX2_valueOf_17 rfl (lv_at hl 1 rfl) ?_
  refine rd_calli (va_runVN (As := [.int 16, .int x1]) (rest := [.int (pX10_at (σ 6) 8 x1)]) C0.1 (kX5_get_20 l (D := D) (cI := cI) (cB := cB) (cZ := cZ) (ad := ad) (τ := τ) σ 16 x1) (wX2_valueOf_X5_get hts hN ⟨Nat.le_of_ble_eq_true rfl, Nat.le_of_ble_eq_true rfl⟩) ⟨PW.blind, cw_r19 hK hP, PW.mk hP hK hN⟩ rfl rfl hl.1 rfl (lv_room (Nat.le_of_ble_eq_true rfl)) dX2_valueOf_18 ⟨Nat.zero_le _, Nat.zero_le _⟩) ?_
  refine lv_isub hx hb dX2_valueOf_21 ?_
  refine lv_iconst (v := 0) hx hb dX2_valueOf_22 (by decide) ?_
  refine va_mmax hx hb (hml.trans hl.1.symm) hown (hts (.methodLink RX2 42 Lib.Math.max.name) (by decide +kernel)) (hts (.static Lib.Math.max.name) (by decide +kernel)) (hts (.initialized "java/lang/Math") (by decide +kernel)) (hts (.code Lib.Math.max.name Lib.Math.max.code 2 (some .int)) (by decide +kernel)) (Nat.le_of_ble_eq_true rfl) (Nat.le_of_ble_eq_true rfl) (Nat.zero_le _) (Nat.zero_le _) dX2_valueOf_23 ?_
  subst h
  exact W.iret hx hb hr (fun t ht hW => ⟨rfl, ht⟩) (fun _ h => by cases h) dX2_valueOf_26
set_option maxHeartbeats 4000000 in
set_option maxRecDepth 100000 in
theorem bX2_estateOf_L4 {p : Program} {l : Launch} {e : Env} {s : State} {m : MethodId} {args : Array Value} {below : List Frame} {meth : Method} {c : Code} {Q : State → Prop} {D : va_G} {cI cB cZ : ClassId} {ad : Nat → Nat} (C0 : Cx p s m args meth c cX2_estateOf 4 (some .int) RX2 wsX2_estateOf) (hK : va_K D vwCl (tysA cI cB cZ) s) (hN : NW s) {τ : Int64} {σ : Sg} (hP : va_P D vwCl (CW cI ad τ σ) s.heap) (x1 : Int32) : ∀ (n : Nat) (x2 : Int32) (x3 : Int32) (v : Int32) (ls : Array Slot), lv_has ls 4 [(0, .ref (ad 42)), (1, .int x1), (2, .int x2), (3, .int x3)] → pX2_estateOf_L4 σ x1 n x2 x3 = some v → (∀ (ls1 : Array Slot), lv_has ls1 4 [(2, .int v)] → W p l e rmX2_estateOf s m args below meth c s.heap [] 0 0 Q (F0 m 49 ls1 [])) → W p l e rmX2_estateOf s m args below meth c s.heap [] 0 0 Q (F0 m 4 ls []) := by
  obtain ⟨⟨hx, hb, hml, hown, hts⟩, hr, hlk⟩ := id C0
  intro n
  induction n with
  | zero =>
    intro x2 x3 v ls hl h kk
    exact absurd h (by simp [pX2_estateOf_L4])
  | succ n ih =>
    intro x2 x3 v ls hl h kk
    rw [pX2_estateOf_L4] at h
    refine lv_iload_n hx hb dX2_estateOf_4 rfl (lv_at hl 3 rfl) ?_
    refine lv_aload_n hx hb dX2_estateOf_5 rfl (lv_at hl 0 rfl) ?_
    refine va_get (D := D) (ci := 2) (v := .ref (ad 1)) (C := RX2) (T := TX2) (N := 2) hx hb hts iX2_estateOf_X2 hown hK hP 42 cw_42 rfl 0 (by decide) (hts (.fieldLink RX2 9 RX2 "told" "LAnchorWills$Told;") (by decide +kernel)) (fun _ h9 => h9) rfl dX2_estateOf_6 ?_
    refine va_getN (D := D) (ci := 9) (v := .int (σ 1 8)) (C := RX9) (T := TX9) (N := 10) hx hb hts iX2_estateOf_X9 hown hK hP 1 cw_1 rfl 8 (by decide) (va_Nw.use rfl (nf_X2_58 hN)) (fun _ h9 => h9) rfl dX2_estateOf_9 ?_
    refine lv_icmp_ge (tgt := 49) hx hb dX2_estateOf_12 (by decide) (fun c12 => ?_) (fun c12 => ?_)
    · replace h := k_ip c12 h
      obtain rfl := k_sm h
      exact kk _ (lv_sub hl [2] rfl)
    · replace h := k_in c12 h
      refine lv_aload_n hx hb dX2_estateOf_15 rfl (lv_at hl 0 rfl) ?_
      refine va_get (D := D) (ci := 2) (v := .ref (ad 19)) (C := RX2) (T := TX2) (N := 2) hx hb hts iX2_estateOf_X2 hown hK hP 42 cw_42 rfl 1 (by decide) (hts (.fieldLink RX2 15 RX2 "now" "LAnchorWills$Now;") (by decide +kernel)) (fun _ h9 => h9) rfl dX2_estateOf_16 ?_
      refine lv_iload_n hx hb dX2_estateOf_19 rfl (lv_at hl 3 rfl) ?_
      refine rd_calli (va_runVN (As := [.int x3]) (rest := []) C0.1 (kX5_lies_20 l (D := D) (cI := cI) (cB := cB) (cZ := cZ) (ad := ad) (τ := τ) σ x3) (wX2_estateOf_X5_lies hts hN ⟨Nat.le_of_ble_eq_true rfl, Nat.le_of_ble_eq_true rfl⟩) ⟨PW.blind, cw_r19 hK hP, PW.mk hP hK hN⟩ rfl rfl hl.1 rfl (lv_room (Nat.le_of_ble_eq_true rfl)) dX2_estateOf_20 ⟨Nat.zero_le _, Nat.zero_le _⟩) ?_
      refine lv_if_eq (tgt := 43) hx hb dX2_estateOf_23 (by decide) (fun c23 => ?_) (fun c23 => ?_)
      · replace h := k_ip c23 h
        refine lv_iinc (v := (x3 + 1)) (lv' := [(3, .int (x3 + 1)), (0, .ref (ad 42)), (1, .int x1), (2, .int x2)]) hx hb dX2_estateOf_43 hl (k := 3) rfl rfl (by decide) rfl (fun ls hl => ?_)
        refine lv_goto (tgt := 4) hx hb dX2_estateOf_46 (by decide) ?_
        exact ih x2 (x3 + 1) _ ls (lv_sub hl [1, 2, 3, 0] rfl) h kk
      · replace h := k_in c23 h
        refine lv_aload_n hx hb dX2_estateOf_26 rfl (lv_at hl 0 rfl) ?_
        refine lv_iload_n hx hb dX2_estateOf_27 rfl (lv_at hl 3 rfl) ?_
        obtain ⟨v1, e2, h⟩ := k_bd h
        refine rd_calli (va_runV (As := [.int x3]) (rest := []) C0.1 (kX2_whoseIs l (D := D) (cI := cI) (cB := cB) (cZ := cZ) (ad := ad) (τ := τ) σ x3 _ e2) (wX2_estateOf_X2_whoseIs hts ⟨Nat.le_of_ble_eq_true rfl, Nat.le_of_ble_eq_true rfl⟩) ⟨PW.blind, cw_r42 hK hP, PW.mk hP hK hN⟩ rfl rfl hl.1 rfl (lv_room (Nat.le_of_ble_eq_true rfl)) dX2_estateOf_28 ⟨Nat.zero_le _, Nat.zero_le _⟩) ?_
        refine lv_iload_n hx hb dX2_estateOf_31 rfl (lv_at hl 1 rfl) ?_
        refine lv_icmp_ne (tgt := 43) hx hb dX2_estateOf_32 (by decide) (fun c32 => ?_) (fun c32 => ?_)
        · replace h := k_in c32 h
          refine lv_iinc (v := (x3 + 1)) (lv' := [(3, .int (x3 + 1)), (0, .ref (ad 42)), (1, .int x1), (2, .int x2)]) hx hb dX2_estateOf_43 hl (k := 3) rfl rfl (by decide) rfl (fun ls hl => ?_)
          refine lv_goto (tgt := 4) hx hb dX2_estateOf_46 (by decide) ?_
          exact ih x2 (x3 + 1) _ ls (lv_sub hl [1, 2, 3, 0] rfl) h kk
        · replace h := k_ip c32 h
          refine lv_iload_n hx hb dX2_estateOf_35 rfl (lv_at hl 2 rfl) ?_
          refine lv_aload_n hx hb dX2_estateOf_36 rfl (lv_at hl 0 rfl) ?_
          refine lv_iload_n hx hb dX2_estateOf_37 rfl (lv_at hl 3 rfl) ?_
          refine rd_calli (va_runV (As := [.int x3]) (rest := [.int x2]) C0.1 (kX2_valueOf l (D := D) (cI := cI) (cB := cB) (cZ := cZ) (ad := ad) (τ := τ) σ x3) (wX2_estateOf_X2_valueOf hts ⟨Nat.le_of_ble_eq_true rfl, Nat.le_of_ble_eq_true rfl⟩) ⟨PW.blind, cw_r42 hK hP, PW.mk hP hK hN⟩ rfl rfl hl.1 rfl (lv_room (Nat.le_of_ble_eq_true rfl)) dX2_estateOf_38 ⟨Nat.zero_le _, Nat.zero_le _⟩) ?_
          refine lv_iadd hx hb dX2_estateOf_41 ?_
          obtain ⟨v3, e4, h⟩ := k_bd h
          refine lv_nmi (k_sm e4) ?_
          refine lv_istore_n (lv' := [(2, .int v3), (0, .ref (ad 42)), (1, .int x1), (3, .int x3)]) hx hb dX2_estateOf_42 rfl hl (by decide) rfl (fun ls hl => ?_)
          refine lv_iinc (v := (x3 + 1)) (lv' := [(3, .int (x3 + 1)), (2, .int v3), (0, .ref (ad 42)), (1, .int x1)]) hx hb dX2_estateOf_43 hl (k := 3) rfl rfl (by decide) rfl (fun ls hl => ?_)
          refine lv_goto (tgt := 4) hx hb dX2_estateOf_46 (by decide) ?_
          exact ih v3 (x3 + 1) _ ls (lv_sub hl [2, 3, 1, 0] rfl) h kk
set_option maxHeartbeats 4000000 in
set_option maxRecDepth 100000 in
theorem kX2_estateOf (l : Launch) {D : va_G} {cI cB cZ : ClassId} {ad : Nat → Nat} {τ : Int64} (σ : Sg) (x1 : Int32) (o : Int32) (h : pX2_estateOf σ x1 = some o) : Met l yX2_estateOf wsX2_estateOf rmX2_estateOf (va_Pc [.ref (ad 42), .int x1] (PW D cI cB cZ (CW cI ad τ σ))) (QcRead o) 0 0 (fun _ => False) := by
  refine Met.ofW (cc := cX2_estateOf) (maxL := 4) (ret := (some .int)) (by decide) rfl ?_
  intro p e s m args below meth c s₁ B hml hv
  obtain ⟨rfl, hP, hK, hN⟩ := hv
  have C0 : Cx p s m _ meth c cX2_estateOf 4 (some .int) RX2 wsX2_estateOf := ⟨⟨B.exec, B.bytes, hml, findClass_of_methodNamed B.named, atoms_spec B.pre⟩, B.returns, B.notSynchronized⟩
  obtain ⟨⟨hx, hb, -, hown, hts⟩, hr, hlk⟩ := id C0
  have hl := lv_entry ([.ref (ad 42), .int x1]) (n := 4) (Nat.le_of_ble_eq_true rfl)
  rw [lg_entry_eq]
  generalize (lg_sl ([.ref (ad 42), .int x1]) ++ List.replicate (4 - (lg_sl ([.ref (ad 42), .int x1])).length) Slot.unset).toArray = ls at hl ⊢
  have hl : lv_has ls 4 [(0, .ref (ad 42)), (1, .int x1)] := hl
  rw [pX2_estateOf] at h
  refine lv_iconst (v := 0) hx hb dX2_estateOf_0 (by decide) ?_
  refine lv_istore_n (lv' := [(2, .int 0), (0, .ref (ad 42)), (1, .int x1)]) hx hb dX2_estateOf_1 rfl hl (by decide) rfl (fun ls hl => ?_)
  refine lv_iconst (v := 0) hx hb dX2_estateOf_2 (by decide) ?_
  refine lv_istore_n (lv' := [(3, .int 0), (2, .int 0), (0, .ref (ad 42)), (1, .int x1)]) hx hb dX2_estateOf_3 rfl hl (by decide) rfl (fun ls hl => ?_)
  obtain ⟨w5, e6, h⟩ := k_bd h
  refine bX2_estateOf_L4 C0 hK hN hP x1 2000 0 0 _ ls (lv_sub hl [2, 3, 1, 0] rfl) e6 (fun ls hl => ?_)
  refine lv_iload_n hx hb dX2_estateOf_49 rfl (lv_at hl 0 rfl) ?_
  obtain rfl := k_sm h
  exact W.iret hx hb hr (fun t ht hW => ⟨rfl, ht⟩) (fun _ h => by cases h) dX2_estateOf_50
set_option maxHeartbeats 4000000 in
set_option maxRecDepth 100000 in
theorem bX2_townOf_L16 {p : Program} {l : Launch} {e : Env} {s : State} {m : MethodId} {args : Array Value} {below : List Frame} {meth : Method} {c : Code} {Q : State → Prop} {D : va_G} {cI cB cZ : ClassId} {ad : Nat → Nat} (C0 : Cx p s m args meth c cX2_townOf 5 (some .int) RX2 wsX2_townOf) (hK : va_K D vwCl (tysA cI cB cZ) s) (hN : NW s) {τ : Int64} {σ : Sg} (hP : va_P D vwCl (CW cI ad τ σ) s.heap) (x3 : Int32) : ∀ (n : Nat) (x2 : Int32) (x4 : Int32) (v : Int32) (ls : Array Slot), lv_has ls 5 [(0, .ref (ad 42)), (2, .int x2), (3, .int x3), (4, .int x4)] → pX2_townOf_L16 σ x3 n x2 x4 = some v → (∀ (ls1 : Array Slot), lv_has ls1 5 [(0, .ref (ad 42)), (2, .int v), (3, .int x3)] → W p l e rmX2_townOf s m args below meth c s.heap [] 0 0 Q (F0 m 58 ls1 [])) → W p l e rmX2_townOf s m args below meth c s.heap [] 0 0 Q (F0 m 16 ls []) := by
  obtain ⟨⟨hx, hb, hml, hown, hts⟩, hr, hlk⟩ := id C0
  intro n
  induction n with
  | zero =>
    intro x2 x4 v ls hl h kk
    exact absurd h (by simp [pX2_townOf_L16])
  | succ n ih =>
    intro x2 x4 v ls hl h kk
    rw [pX2_townOf_L16] at h
    refine lv_iload hx hb dX2_townOf_16 (lv_at hl 3 rfl) ?_
    refine lv_aload_n hx hb dX2_townOf_18 rfl (lv_at hl 0 rfl) ?_
    refine va_get (D := D) (ci := 2) (v := .ref (ad 1)) (C := RX2) (T := TX2) (N := 2) hx hb hts iX2_townOf_X2 hown hK hP 42 cw_42 rfl 0 (by decide) (hts (.fieldLink RX2 9 RX2 "told" "LAnchorWills$Told;") (by decide +kernel)) (fun _ h9 => h9) rfl dX2_townOf_19 ?_
    refine va_getN (D := D) (ci := 9) (v := .int (σ 1 7)) (C := RX9) (T := TX9) (N := 10) hx hb hts iX2_townOf_X9 hown hK hP 1 cw_1 rfl 7 (by decide) (va_Nw.use rfl (nf_X2_69 hN)) (fun _ h9 => h9) rfl dX2_townOf_22 ?_
    refine lv_icmp_ge (tgt := 58) hx hb dX2_townOf_25 (by decide) (fun c25 => ?_) (fun c25 => ?_)
    · replace h := k_ip c25 h
      obtain rfl := k_sm h
      exact kk _ (lv_sub hl [0, 1, 2] rfl)
    · replace h := k_in c25 h
      refine lv_iload_n hx hb dX2_townOf_28 rfl (lv_at hl 1 rfl) ?_
      refine lv_iload hx hb dX2_townOf_29 (lv_at hl 3 rfl) ?_
      refine rd_calli (va_runSN (As := [.int x2, .int x4]) (rest := []) C0.1 (kX10_has l x2 x4) (wX2_townOf_X10_has hts hN ⟨Nat.le_of_ble_eq_true rfl, Nat.le_of_ble_eq_true rfl⟩) ⟨PT.blind, fun _ _ _ => ⟨rfl, trivial⟩⟩ rfl rfl hl.1 rfl (lv_room (Nat.le_of_ble_eq_true rfl)) dX2_townOf_31 ⟨Nat.zero_le _, Nat.zero_le _⟩) ?_
      refine lv_if_eq (tgt := 52) hx hb dX2_townOf_34 (by decide) (fun c34 => ?_) (fun c34 => ?_)
      · replace h := k_ip c34 h
        refine lv_iinc (v := (x4 + 1)) (lv' := [(4, .int (x4 + 1)), (0, .ref (ad 42)), (2, .int x2), (3, .int x3)]) hx hb dX2_townOf_52 hl (k := 3) rfl rfl (by decide) rfl (fun ls hl => ?_)
        refine lv_goto (tgt := 16) hx hb dX2_townOf_55 (by decide) ?_
        exact ih x2 (x4 + 1) _ ls (lv_sub hl [1, 2, 3, 0] rfl) h kk
      · replace h := k_in c34 h
        refine lv_iload_n hx hb dX2_townOf_37 rfl (lv_at hl 1 rfl) ?_
        refine lv_aload_n hx hb dX2_townOf_38 rfl (lv_at hl 0 rfl) ?_
        refine va_get (D := D) (ci := 2) (v := .ref (ad 1)) (C := RX2) (T := TX2) (N := 2) hx hb hts iX2_townOf_X2 hown hK hP 42 cw_42 rfl 0 (by decide) (hts (.fieldLink RX2 9 RX2 "told" "LAnchorWills$Told;") (by decide +kernel)) (fun _ h9 => h9) rfl dX2_townOf_39 ?_
        refine va_getN (D := D) (ci := 9) (v := .ref (ad 7)) (C := RX9) (T := TX9) (N := 10) hx hb hts iX2_townOf_X9 hown hK hP 1 cw_1 rfl 5 (by decide) (va_Nw.use rfl (nf_X2_75 hN)) (fun _ h9 => h9) rfl dX2_townOf_42 ?_
        refine lv_iload hx hb dX2_townOf_45 (lv_at hl 3 rfl) ?_
        refine rd_calli (va_runSN (As := [.ref (ad 7), .int x4]) (rest := [.int x2]) C0.1 (kX10_at l (ad 7) 6 (σ 7) x4 (by decide)) (wX2_townOf_X10_at hts hN ⟨Nat.le_of_ble_eq_true rfl, Nat.le_of_ble_eq_true rfl⟩) ⟨PAt.blind, PAt.mk (cw_t7 hK hP)⟩ rfl rfl hl.1 rfl (lv_room (Nat.le_of_ble_eq_true rfl)) dX2_townOf_47 ⟨Nat.zero_le _, Nat.zero_le _⟩) ?_
        refine lv_ior hx hb dX2_townOf_50 ?_
        obtain ⟨v3, e4, h⟩ := k_bd h
        refine lv_nmi (k_sm e4) ?_
        refine lv_istore_n (lv' := [(2, .int v3), (0, .ref (ad 42)), (3, .int x3), (4, .int x4)]) hx hb dX2_townOf_51 rfl hl (by decide) rfl (fun ls hl => ?_)
        refine lv_iinc (v := (x4 + 1)) (lv' := [(4, .int (x4 + 1)), (2, .int v3), (0, .ref (ad 42)), (3, .int x3)]) hx hb dX2_townOf_52 hl (k := 3) rfl rfl (by decide) rfl (fun ls hl => ?_)
        refine lv_goto (tgt := 16) hx hb dX2_townOf_55 (by decide) ?_
        exact ih v3 (x4 + 1) _ ls (lv_sub hl [2, 1, 3, 0] rfl) h kk
set_option maxHeartbeats 4000000 in
set_option maxRecDepth 100000 in
theorem bX2_townOf_L7 {p : Program} {l : Launch} {e : Env} {s : State} {m : MethodId} {args : Array Value} {below : List Frame} {meth : Method} {c : Code} {Q : State → Prop} {D : va_G} {cI cB cZ : ClassId} {ad : Nat → Nat} (C0 : Cx p s m args meth c cX2_townOf 5 (some .int) RX2 wsX2_townOf) (hK : va_K D vwCl (tysA cI cB cZ) s) (hN : NW s) {τ : Int64} {σ : Sg} (hP : va_P D vwCl (CW cI ad τ σ) s.heap)  : ∀ (n : Nat) (x2 : Int32) (x3 : Int32) (v : Int32) (ls : Array Slot), lv_has ls 5 [(0, .ref (ad 42)), (2, .int x2), (3, .int x3)] → pX2_townOf_L7 σ n x2 x3 = some v → (∀ (ls1 : Array Slot), lv_has ls1 5 [(2, .int v)] → W p l e rmX2_townOf s m args below meth c s.heap [] 0 0 Q (F0 m 64 ls1 [])) → W p l e rmX2_townOf s m args below meth c s.heap [] 0 0 Q (F0 m 7 ls []) := by
  obtain ⟨⟨hx, hb, hml, hown, hts⟩, hr, hlk⟩ := id C0
  intro n
  induction n with
  | zero =>
    intro x2 x3 v ls hl h kk
    exact absurd h (by simp [pX2_townOf_L7])
  | succ n ih =>
    intro x2 x3 v ls hl h kk
    rw [pX2_townOf_L7] at h
    refine lv_iload_n hx hb dX2_townOf_7 rfl (lv_at hl 2 rfl) ?_
    refine lv_bipush (v := 6) hx hb dX2_townOf_8 (by decide) ?_
    refine lv_icmp_ge (tgt := 64) hx hb dX2_townOf_10 (by decide) (fun c10 => ?_) (fun c10 => ?_)
    · replace h := k_ip c10 h
      obtain rfl := k_sm h
      exact kk _ (lv_sub hl [1] rfl)
    · replace h := k_in c10 h
      refine lv_iconst (v := 0) hx hb dX2_townOf_13 (by decide) ?_
      refine lv_istore (lv' := [(4, .int 0), (0, .ref (ad 42)), (2, .int x2), (3, .int x3)]) hx hb dX2_townOf_14 hl (by decide) rfl (fun ls hl => ?_)
      obtain ⟨w5, e6, h⟩ := k_bd h
      refine bX2_townOf_L16 C0 hK hN hP x3 2000 x2 0 _ ls (lv_sub hl [1, 2, 3, 0] rfl) e6 (fun ls hl => ?_)
      refine lv_iinc (v := (x3 + 1)) (lv' := [(3, .int (x3 + 1)), (0, .ref (ad 42)), (2, .int w5)]) hx hb dX2_townOf_58 hl (k := 2) rfl rfl (by decide) rfl (fun ls hl => ?_)
      refine lv_goto (tgt := 7) hx hb dX2_townOf_61 (by decide) ?_
      exact ih w5 (x3 + 1) _ ls (lv_sub hl [1, 2, 0] rfl) h kk
set_option maxHeartbeats 4000000 in
set_option maxRecDepth 100000 in
theorem kX2_townOf (l : Launch) {D : va_G} {cI cB cZ : ClassId} {ad : Nat → Nat} {τ : Int64} (σ : Sg) (x1 : Int32) (o : Int32) (h : pX2_townOf σ x1 = some o) : Met l yX2_townOf wsX2_townOf rmX2_townOf (va_Pc [.ref (ad 42), .int x1] (PW D cI cB cZ (CW cI ad τ σ))) (QcRead o) 0 0 (fun _ => False) := by
  refine Met.ofW (cc := cX2_townOf) (maxL := 5) (ret := (some .int)) (by decide) rfl ?_
  intro p e s m args below meth c s₁ B hml hv
  obtain ⟨rfl, hP, hK, hN⟩ := hv
  have C0 : Cx p s m _ meth c cX2_townOf 5 (some .int) RX2 wsX2_townOf := ⟨⟨B.exec, B.bytes, hml, findClass_of_methodNamed B.named, atoms_spec B.pre⟩, B.returns, B.notSynchronized⟩
  obtain ⟨⟨hx, hb, -, hown, hts⟩, hr, hlk⟩ := id C0
  have hl := lv_entry ([.ref (ad 42), .int x1]) (n := 5) (Nat.le_of_ble_eq_true rfl)
  rw [lg_entry_eq]
  generalize (lg_sl ([.ref (ad 42), .int x1]) ++ List.replicate (5 - (lg_sl ([.ref (ad 42), .int x1])).length) Slot.unset).toArray = ls at hl ⊢
  have hl : lv_has ls 5 [(0, .ref (ad 42)), (1, .int x1)] := hl
  rw [pX2_townOf] at h
  refine lv_iload_n hx hb dX2_townOf_0 rfl (lv_at hl 1 rfl) ?_
  refine rd_calli (va_runSN (As := [.int x1]) (rest := []) C0.1 (kX10_bit l x1) (wX2_townOf_X10_bit hts hN ⟨Nat.le_of_ble_eq_true rfl, Nat.le_of_ble_eq_true rfl⟩) ⟨PT.blind, fun _ _ _ => ⟨rfl, trivial⟩⟩ rfl rfl hl.1 rfl (lv_room (Nat.le_of_ble_eq_true rfl)) dX2_townOf_1 ⟨Nat.zero_le _, Nat.zero_le _⟩) ?_
  obtain ⟨v1, e2, h⟩ := k_bd h
  refine lv_nmi (k_sm e2) ?_
  refine lv_istore_n (lv' := [(2, .int v1), (0, .ref (ad 42)), (1, .int x1)]) hx hb dX2_townOf_4 rfl hl (by decide) rfl (fun ls hl => ?_)
  refine lv_iconst (v := 0) hx hb dX2_townOf_5 (by decide) ?_
  refine lv_istore_n (lv' := [(3, .int 0), (2, .int v1), (0, .ref (ad 42)), (1, .int x1)]) hx hb dX2_townOf_6 rfl hl (by decide) rfl (fun ls hl => ?_)
  obtain ⟨w7, e8, h⟩ := k_bd h
  refine bX2_townOf_L7 C0 hK hN hP  2000 v1 0 _ ls (lv_sub hl [2, 1, 0] rfl) e8 (fun ls hl => ?_)
  refine lv_iload_n hx hb dX2_townOf_64 rfl (lv_at hl 0 rfl) ?_
  obtain rfl := k_sm h
  exact W.iret hx hb hr (fun t ht hW => ⟨rfl, ht⟩) (fun _ h => by cases h) dX2_townOf_65
set_option maxHeartbeats 4000000 in
set_option maxRecDepth 100000 in
theorem kX2_adds (l : Launch) {D : va_G} {cI cB cZ : ClassId} {ad : Nat → Nat} {τ : Int64} (σ : Sg) (x1 : Int32) (x2 : Int32) : Met l yX2_adds wsX2_adds rmX2_adds (va_Pc [.ref (ad 42), .int x1, .int x2] (PW D cI cB cZ (CW cI ad τ σ))) (QcRead (pX2_adds σ x1 x2)) 0 0 (fun _ => False) := by
  obtain ⟨o, h⟩ : ∃ o, pX2_adds σ x1 x2 = o := ⟨_, rfl⟩
  rw [h]
  refine Met.ofW (cc := cX2_adds) (maxL := 3) (ret := (some .boolean)) (by decide) rfl ?_
  intro p e s m args below meth c s₁ B hml hv
  obtain ⟨rfl, hP, hK, hN⟩ := hv
  have C0 : Cx p s m _ meth c cX2_adds 3 (some .boolean) RX2 wsX2_adds := ⟨⟨B.exec, B.bytes, hml, findClass_of_methodNamed B.named, atoms_spec B.pre⟩, B.returns, B.notSynchronized⟩
  obtain ⟨⟨hx, hb, -, hown, hts⟩, hr, hlk⟩ := id C0
  have hl := lv_entry ([.ref (ad 42), .int x1, .int x2]) (n := 3) (Nat.le_of_ble_eq_true rfl)
  rw [lg_entry_eq]
  generalize (lg_sl ([.ref (ad 42), .int x1, .int x2]) ++ List.replicate (3 - (lg_sl ([.ref (ad 42), .int x1, .int x2])).length) Slot.unset).toArray = ls at hl ⊢
  have hl : lv_has ls 3 [(0, .ref (ad 42)), (1, .int x1), (2, .int x2)] := hl
  rw [pX2_adds] at h
  refine lv_aload_n hx hb dX2_adds_0 rfl (lv_at hl 0 rfl) ?_
  refine va_get (D := D) (ci := 2) (v := .ref (ad 19)) (C := RX2) (T := TX2) (N := 2) hx hb hts iX2_adds_X2 hown hK hP 42 cw_42 rfl 1 (by decide) (hts (.fieldLink RX2 15 RX2 "now" "LAnchorWills$Now;") (by decide +kernel)) (fun _ h9 => h9) rfl dX2_adds_1 ?_
  refine lv_iload_n hx hb dX2_adds_4 rfl (lv_at hl 2 rfl) ?_
  refine rd_calli (va_runVN (As := [.int x2]) (rest := []) C0.1 (kX5_lies_20 l (D := D) (cI := cI) (cB := cB) (cZ := cZ) (ad := ad) (τ := τ) σ x2) (wX2_adds_X5_lies hts hN ⟨Nat.le_of_ble_eq_true rfl, Nat.le_of_ble_eq_true rfl⟩) ⟨PW.blind, cw_r19 hK hP, PW.mk hP hK hN⟩ rfl rfl hl.1 rfl (lv_room (Nat.le_of_ble_eq_true rfl)) dX2_adds_5 ⟨Nat.zero_le _, Nat.zero_le _⟩) ?_
  refine lv_if_eq (tgt := 33) hx hb dX2_adds_8 (by decide) (fun c8 => ?_) (fun c8 => ?_)
  · replace h := k_ip c8 h
    refine lv_iconst (v := 0) hx hb dX2_adds_33 (by decide) ?_
    subst h
    exact W.zret hx hb hr rfl (fun t ht hW => ⟨rfl, ht⟩) (fun _ h => by cases h) dX2_adds_34
  · replace h := k_in c8 h
    refine lv_iload_n hx hb dX2_adds_11 rfl (lv_at hl 1 rfl) ?_
    refine lv_aload_n hx hb dX2_adds_12 rfl (lv_at hl 0 rfl) ?_
    refine va_get (D := D) (ci := 2) (v := .ref (ad 1)) (C := RX2) (T := TX2) (N := 2) hx hb hts iX2_adds_X2 hown hK hP 42 cw_42 rfl 0 (by decide) (hts (.fieldLink RX2 9 RX2 "told" "LAnchorWills$Told;") (by decide +kernel)) (fun _ h9 => h9) rfl dX2_adds_13 ?_
    refine va_getN (D := D) (ci := 9) (v := .ref (ad 4)) (C := RX9) (T := TX9) (N := 10) hx hb hts iX2_adds_X9 hown hK hP 1 cw_1 rfl 2 (by decide) (va_Nw.use rfl (nf_X2_19 hN)) (fun _ h9 => h9) rfl dX2_adds_16 ?_
    refine lv_iload_n hx hb dX2_adds_19 rfl (lv_at hl 2 rfl) ?_
    refine rd_calli (va_runSN (As := [.ref (ad 4), .int x2]) (rest := [.int x1]) C0.1 (kX10_at l (ad 4) 8 (σ 4) x2 (by decide)) (wX2_adds_X10_at hts hN ⟨Nat.le_of_ble_eq_true rfl, Nat.le_of_ble_eq_true rfl⟩) ⟨PAt.blind, PAt.mk (cw_t4 hK hP)⟩ rfl rfl hl.1 rfl (lv_room (Nat.le_of_ble_eq_true rfl)) dX2_adds_20 ⟨Nat.zero_le _, Nat.zero_le _⟩) ?_
    refine rd_calli (va_runSN (As := [.int x1, .int (pX10_at (σ 4) 8 x2)]) (rest := []) C0.1 (kX10_has l x1 (pX10_at (σ 4) 8 x2)) (wX2_adds_X10_has hts hN ⟨Nat.le_of_ble_eq_true rfl, Nat.le_of_ble_eq_true rfl⟩) ⟨PT.blind, fun _ _ _ => ⟨rfl, trivial⟩⟩ rfl rfl hl.1 rfl (lv_room (Nat.le_of_ble_eq_true rfl)) dX2_adds_23 ⟨Nat.zero_le _, Nat.zero_le _⟩) ?_
    refine lv_if_eq (tgt := 33) hx hb dX2_adds_26 (by decide) (fun c26 => ?_) (fun c26 => ?_)
    · replace h := k_ip c26 h
      refine lv_iconst (v := 0) hx hb dX2_adds_33 (by decide) ?_
      subst h
      exact W.zret hx hb hr rfl (fun t ht hW => ⟨rfl, ht⟩) (fun _ h => by cases h) dX2_adds_34
    · replace h := k_in c26 h
      refine lv_iconst (v := 1) hx hb dX2_adds_29 (by decide) ?_
      refine lv_goto (tgt := 34) hx hb dX2_adds_30 (by decide) ?_
      subst h
      exact W.zret hx hb hr rfl (fun t ht hW => ⟨rfl, ht⟩) (fun _ h => by cases h) dX2_adds_34
set_option maxHeartbeats 4000000 in
set_option maxRecDepth 100000 in
theorem bX2_mightOf_L4 {p : Program} {l : Launch} {e : Env} {s : State} {m : MethodId} {args : Array Value} {below : List Frame} {meth : Method} {c : Code} {Q : State → Prop} {D : va_G} {cI cB cZ : ClassId} {ad : Nat → Nat} (C0 : Cx p s m args meth c cX2_mightOf 4 (some .int) RX2 wsX2_mightOf) (hK : va_K D vwCl (tysA cI cB cZ) s) (hN : NW s) {τ : Int64} {σ : Sg} (hP : va_P D vwCl (CW cI ad τ σ) s.heap) (x1 : Int32) : ∀ (n : Nat) (x2 : Int32) (x3 : Int32) (v : Int32) (ls : Array Slot), lv_has ls 4 [(0, .ref (ad 42)), (1, .int x1), (2, .int x2), (3, .int x3)] → pX2_mightOf_L4 σ x1 n x2 x3 = some v → (∀ (ls1 : Array Slot), lv_has ls1 4 [(2, .int v)] → W p l e rmX2_mightOf s m args below meth c s.heap [] 0 0 Q (F0 m 45 ls1 [])) → W p l e rmX2_mightOf s m args below meth c s.heap [] 0 0 Q (F0 m 4 ls []) := by
  obtain ⟨⟨hx, hb, hml, hown, hts⟩, hr, hlk⟩ := id C0
  intro n
  induction n with
  | zero =>
    intro x2 x3 v ls hl h kk
    exact absurd h (by simp [pX2_mightOf_L4])
  | succ n ih =>
    intro x2 x3 v ls hl h kk
    rw [pX2_mightOf_L4] at h
    refine lv_iload_n hx hb dX2_mightOf_4 rfl (lv_at hl 3 rfl) ?_
    refine lv_aload_n hx hb dX2_mightOf_5 rfl (lv_at hl 0 rfl) ?_
    refine va_get (D := D) (ci := 2) (v := .ref (ad 1)) (C := RX2) (T := TX2) (N := 2) hx hb hts iX2_mightOf_X2 hown hK hP 42 cw_42 rfl 0 (by decide) (hts (.fieldLink RX2 9 RX2 "told" "LAnchorWills$Told;") (by decide +kernel)) (fun _ h9 => h9) rfl dX2_mightOf_6 ?_
    refine va_getN (D := D) (ci := 9) (v := .int (σ 1 8)) (C := RX9) (T := TX9) (N := 10) hx hb hts iX2_mightOf_X9 hown hK hP 1 cw_1 rfl 8 (by decide) (va_Nw.use rfl (nf_X2_58 hN)) (fun _ h9 => h9) rfl dX2_mightOf_9 ?_
    refine lv_icmp_ge (tgt := 45) hx hb dX2_mightOf_12 (by decide) (fun c12 => ?_) (fun c12 => ?_)
    · replace h := k_ip c12 h
      obtain rfl := k_sm h
      exact kk _ (lv_sub hl [2] rfl)
    · replace h := k_in c12 h
      refine lv_aload_n hx hb dX2_mightOf_15 rfl (lv_at hl 0 rfl) ?_
      refine lv_iload_n hx hb dX2_mightOf_16 rfl (lv_at hl 1 rfl) ?_
      refine lv_iload_n hx hb dX2_mightOf_17 rfl (lv_at hl 3 rfl) ?_
      refine rd_calli (va_runV (As := [.int x1, .int x3]) (rest := []) C0.1 (kX2_adds l (D := D) (cI := cI) (cB := cB) (cZ := cZ) (ad := ad) (τ := τ) σ x1 x3) (wX2_mightOf_X2_adds hts ⟨Nat.le_of_ble_eq_true rfl, Nat.le_of_ble_eq_true rfl⟩) ⟨PW.blind, cw_r42 hK hP, PW.mk hP hK hN⟩ rfl rfl hl.1 rfl (lv_room (Nat.le_of_ble_eq_true rfl)) dX2_mightOf_18 ⟨Nat.zero_le _, Nat.zero_le _⟩) ?_
      refine lv_if_eq (tgt := 39) hx hb dX2_mightOf_21 (by decide) (fun c21 => ?_) (fun c21 => ?_)
      · replace h := k_ip c21 h
        refine lv_iinc (v := (x3 + 1)) (lv' := [(3, .int (x3 + 1)), (0, .ref (ad 42)), (1, .int x1), (2, .int x2)]) hx hb dX2_mightOf_39 hl (k := 3) rfl rfl (by decide) rfl (fun ls hl => ?_)
        refine lv_goto (tgt := 4) hx hb dX2_mightOf_42 (by decide) ?_
        exact ih x2 (x3 + 1) _ ls (lv_sub hl [1, 2, 3, 0] rfl) h kk
      · replace h := k_in c21 h
        refine lv_iload_n hx hb dX2_mightOf_24 rfl (lv_at hl 2 rfl) ?_
        refine lv_aload_n hx hb dX2_mightOf_25 rfl (lv_at hl 0 rfl) ?_
        refine va_get (D := D) (ci := 2) (v := .ref (ad 1)) (C := RX2) (T := TX2) (N := 2) hx hb hts iX2_mightOf_X2 hown hK hP 42 cw_42 rfl 0 (by decide) (hts (.fieldLink RX2 9 RX2 "told" "LAnchorWills$Told;") (by decide +kernel)) (fun _ h9 => h9) rfl dX2_mightOf_26 ?_
        refine lv_aload_n hx hb dX2_mightOf_29 rfl (lv_at hl 0 rfl) ?_
        refine va_get (D := D) (ci := 2) (v := .ref (ad 19)) (C := RX2) (T := TX2) (N := 2) hx hb hts iX2_mightOf_X2 hown hK hP 42 cw_42 rfl 1 (by decide) (hts (.fieldLink RX2 15 RX2 "now" "LAnchorWills$Now;") (by decide +kernel)) (fun _ h9 => h9) rfl dX2_mightOf_30 ?_
        refine lv_iload_n hx hb dX2_mightOf_33 rfl (lv_at hl 3 rfl) ?_
        obtain ⟨v1, e2, h⟩ := k_bd h
        refine rd_calli (va_runVN (As := [.ref (ad 19), .int x3]) (rest := [.int x2]) C0.1 (kX9_strengthOf_20 l (D := D) (cI := cI) (cB := cB) (cZ := cZ) (ad := ad) (τ := τ) σ x3 _ e2) (wX2_mightOf_X9_strengthOf hts hN ⟨Nat.le_of_ble_eq_true rfl, Nat.le_of_ble_eq_true rfl⟩) ⟨PW.blind, cw_r1 hK hP, PW.mk hP hK hN⟩ rfl rfl hl.1 rfl (lv_room (Nat.le_of_ble_eq_true rfl)) dX2_mightOf_34 ⟨Nat.zero_le _, Nat.zero_le _⟩) ?_
        refine lv_iadd hx hb dX2_mightOf_37 ?_
        obtain ⟨v3, e4, h⟩ := k_bd h
        refine lv_nmi (k_sm e4) ?_
        refine lv_istore_n (lv' := [(2, .int v3), (0, .ref (ad 42)), (1, .int x1), (3, .int x3)]) hx hb dX2_mightOf_38 rfl hl (by decide) rfl (fun ls hl => ?_)
        refine lv_iinc (v := (x3 + 1)) (lv' := [(3, .int (x3 + 1)), (2, .int v3), (0, .ref (ad 42)), (1, .int x1)]) hx hb dX2_mightOf_39 hl (k := 3) rfl rfl (by decide) rfl (fun ls hl => ?_)
        refine lv_goto (tgt := 4) hx hb dX2_mightOf_42 (by decide) ?_
        exact ih v3 (x3 + 1) _ ls (lv_sub hl [2, 3, 1, 0] rfl) h kk
set_option maxHeartbeats 4000000 in
set_option maxRecDepth 100000 in
theorem kX2_mightOf (l : Launch) {D : va_G} {cI cB cZ : ClassId} {ad : Nat → Nat} {τ : Int64} (σ : Sg) (x1 : Int32) (o : Int32) (h : pX2_mightOf σ x1 = some o) : Met l yX2_mightOf wsX2_mightOf rmX2_mightOf (va_Pc [.ref (ad 42), .int x1] (PW D cI cB cZ (CW cI ad τ σ))) (QcRead o) 0 0 (fun _ => False) := by
  refine Met.ofW (cc := cX2_mightOf) (maxL := 4) (ret := (some .int)) (by decide) rfl ?_
  intro p e s m args below meth c s₁ B hml hv
  obtain ⟨rfl, hP, hK, hN⟩ := hv
  have C0 : Cx p s m _ meth c cX2_mightOf 4 (some .int) RX2 wsX2_mightOf := ⟨⟨B.exec, B.bytes, hml, findClass_of_methodNamed B.named, atoms_spec B.pre⟩, B.returns, B.notSynchronized⟩
  obtain ⟨⟨hx, hb, -, hown, hts⟩, hr, hlk⟩ := id C0
  have hl := lv_entry ([.ref (ad 42), .int x1]) (n := 4) (Nat.le_of_ble_eq_true rfl)
  rw [lg_entry_eq]
  generalize (lg_sl ([.ref (ad 42), .int x1]) ++ List.replicate (4 - (lg_sl ([.ref (ad 42), .int x1])).length) Slot.unset).toArray = ls at hl ⊢
  have hl : lv_has ls 4 [(0, .ref (ad 42)), (1, .int x1)] := hl
  rw [pX2_mightOf] at h
  refine lv_iconst (v := 0) hx hb dX2_mightOf_0 (by decide) ?_
  refine lv_istore_n (lv' := [(2, .int 0), (0, .ref (ad 42)), (1, .int x1)]) hx hb dX2_mightOf_1 rfl hl (by decide) rfl (fun ls hl => ?_)
  refine lv_iconst (v := 0) hx hb dX2_mightOf_2 (by decide) ?_
  refine lv_istore_n (lv' := [(3, .int 0), (2, .int 0), (0, .ref (ad 42)), (1, .int x1)]) hx hb dX2_mightOf_3 rfl hl (by decide) rfl (fun ls hl => ?_)
  obtain ⟨w5, e6, h⟩ := k_bd h
  refine bX2_mightOf_L4 C0 hK hN hP x1 2000 0 0 _ ls (lv_sub hl [2, 3, 1, 0] rfl) e6 (fun ls hl => ?_)
  refine lv_iload_n hx hb dX2_mightOf_45 rfl (lv_at hl 0 rfl) ?_
  obtain rfl := k_sm h
  exact W.iret hx hb hr (fun t ht hW => ⟨rfl, ht⟩) (fun _ h => by cases h) dX2_mightOf_46
set_option maxHeartbeats 4000000 in
set_option maxRecDepth 100000 in
theorem bX8_weighHolds_L10_20 {p : Program} {l : Launch} {e : Env} {s : State} {m : MethodId} {args : Array Value} {below : List Frame} {meth : Method} {c : Code} {Q : State → Prop} {D : va_G} {cI cB cZ : ClassId} {ad : Nat → Nat} (C0 : Cx p s m args meth c cX8_weighHolds 4 none RX8 wsX8_weighHolds) (hK : va_K D vwCl (tysA cI cB cZ) s) (hN : NW s) (hap : cwX ad) {τ : Int64}  : ∀ (n : Nat) (x2 : Int32) (σ : Sg) (v : Sg) (H : Heap) (locs : List Loc) (ls : Array Slot), va_P D vwCl (CW cI ad τ σ) H → va_S (cwA ad) s.heap H locs → lv_has ls 4 [(0, .ref (ad 35)), (1, .ref (ad 19)), (2, .int x2)] → pX8_weighHolds_L10 20 n x2 σ = some v → (∀ (H1 : Heap) (locs1 : List Loc) (ls1 : Array Slot), va_P D vwCl (CW cI ad τ v) H1 → va_S (cwA ad) s.heap H1 locs1 → lv_has ls1 4 [] → W p l e rmX8_weighHolds s m args below meth c H1 locs1 0 0 Q (F0 m 68 ls1 [])) → W p l e rmX8_weighHolds s m args below meth c H locs 0 0 Q (F0 m 10 ls []) := by
  obtain ⟨⟨hx, hb, hml, hown, hts⟩, hr, hlk⟩ := id C0
  intro n
  induction n with
  | zero =>
    intro x2 σ v H locs ls hP hS hl h kk
    exact absurd h (by simp [pX8_weighHolds_L10])
  | succ n ih =>
    intro x2 σ v H locs ls hP hS hl h kk
    rw [pX8_weighHolds_L10] at h
    refine lv_iload_n hx hb dX8_weighHolds_10 rfl (lv_at hl 2 rfl) ?_
    refine lv_aload_n hx hb dX8_weighHolds_11 rfl (lv_at hl 0 rfl) ?_
    refine va_get (D := D) (ci := 8) (v := .ref (ad 1)) (C := RX8) (T := TX8) (N := 4) hx hb hts iX8_weighHolds_X8 hown hK hP 35 cw_35 rfl 0 (by decide) (hts (.fieldLink RX8 22 RX8 "told" "LAnchorWills$Told;") (by decide +kernel)) (fun _ h9 => h9) rfl dX8_weighHolds_12 ?_
    refine va_getN (D := D) (ci := 9) (v := .int (σ 1 8)) (C := RX9) (T := TX9) (N := 10) hx hb hts iX8_weighHolds_X9 hown hK hP 1 cw_1 rfl 8 (by decide) (va_Nw.use rfl (nf_X8_45 hN)) (fun _ h9 => h9) rfl dX8_weighHolds_15 ?_
    refine lv_icmp_ge (tgt := 68) hx hb dX8_weighHolds_18 (by decide) (fun c18 => ?_) (fun c18 => ?_)
    · replace h := k_ip c18 h
      obtain rfl := k_sm h
      exact kk _ _ _ hP hS (lv_sub hl [] rfl)
    · replace h := k_in c18 h
      refine lv_aload_n hx hb dX8_weighHolds_21 rfl (lv_at hl 1 rfl) ?_
      refine lv_iload_n hx hb dX8_weighHolds_22 rfl (lv_at hl 2 rfl) ?_
      refine rd_calli (va_runVN (As := [.int x2]) (rest := []) C0.1 (kX5_lies_20 l (D := D) (cI := cI) (cB := cB) (cZ := cZ) (ad := ad) (τ := τ) σ x2) (wX8_weighHolds_X5_lies hts hN ⟨Nat.le_of_ble_eq_true rfl, Nat.le_of_ble_eq_true rfl⟩) ⟨PW.blind, cw_r19 hK hP, PW.mk hP hK hN⟩ rfl rfl hl.1 rfl (lv_room (Nat.le_of_ble_eq_true rfl)) dX8_weighHolds_23 ⟨Nat.zero_le _, Nat.zero_le _⟩) ?_
      refine lv_if_eq (tgt := 62) hx hb dX8_weighHolds_26 (by decide) (fun c26 => ?_) (fun c26 => ?_)
      · replace h := k_ip c26 h
        refine lv_iinc (v := (x2 + 1)) (lv' := [(2, .int (x2 + 1)), (0, .ref (ad 35)), (1, .ref (ad 19))]) hx hb dX8_weighHolds_62 hl (k := 2) rfl rfl (by decide) rfl (fun ls hl => ?_)
        refine lv_goto (tgt := 10) hx hb dX8_weighHolds_65 (by decide) ?_
        exact ih (x2 + 1) σ _ _ _ ls hP hS (lv_sub hl [1, 2, 0] rfl) h kk
      · replace h := k_in c26 h
        refine lv_aload_n hx hb dX8_weighHolds_29 rfl (lv_at hl 1 rfl) ?_
        refine lv_iconst (v := 0) hx hb dX8_weighHolds_30 (by decide) ?_
        refine lv_iload_n hx hb dX8_weighHolds_31 rfl (lv_at hl 2 rfl) ?_
        refine rd_calli (va_runVN (As := [.int 0, .int x2]) (rest := []) C0.1 (kX5_get_20 l (D := D) (cI := cI) (cB := cB) (cZ := cZ) (ad := ad) (τ := τ) σ 0 x2) (wX8_weighHolds_X5_get hts hN ⟨Nat.le_of_ble_eq_true rfl, Nat.le_of_ble_eq_true rfl⟩) ⟨PW.blind, cw_r19 hK hP, PW.mk hP hK hN⟩ rfl rfl hl.1 rfl (lv_room (Nat.le_of_ble_eq_true rfl)) dX8_weighHolds_32 ⟨Nat.zero_le _, Nat.zero_le _⟩) ?_
        obtain ⟨v3, e4, h⟩ := k_bd h
        refine lv_nmi (k_sm e4) ?_
        refine lv_istore_n (lv' := [(3, .int v3), (0, .ref (ad 35)), (1, .ref (ad 19)), (2, .int x2)]) hx hb dX8_weighHolds_35 rfl hl (by decide) rfl (fun ls hl => ?_)
        refine lv_aload_n hx hb dX8_weighHolds_36 rfl (lv_at hl 1 rfl) ?_
        refine va_get (D := D) (ci := 8) (v := .ref (ad 38)) (C := RX8) (T := TX8) (N := 4) hx hb hts iX8_weighHolds_X8 hown hK hP 35 cw_35 rfl 3 (by decide) (hts (.fieldLink RX8 18 RX8 "holds" "[I") (by decide +kernel)) (fun _ h9 => h9) rfl dX8_weighHolds_37 ?_
        refine lv_iload_n hx hb dX8_weighHolds_40 rfl (lv_at hl 0 rfl) ?_
        refine lv_aload_n hx hb dX8_weighHolds_41 rfl (lv_at hl 1 rfl) ?_
        refine va_get (D := D) (ci := 8) (v := .ref (ad 38)) (C := RX8) (T := TX8) (N := 4) hx hb hts iX8_weighHolds_X8 hown hK hP 35 cw_35 rfl 3 (by decide) (hts (.fieldLink RX8 18 RX8 "holds" "[I") (by decide +kernel)) (fun _ h9 => h9) rfl dX8_weighHolds_42 ?_
        refine lv_iload_n hx hb dX8_weighHolds_45 rfl (lv_at hl 0 rfl) ?_
        refine rd_calli (va_runSN (As := [.ref (ad 38), .int v3]) (rest := [.int v3, .ref (ad 38)]) C0.1 (kX10_at l (ad 38) 10 (σ 38) v3 (by decide)) (wX8_weighHolds_X10_at hts hN ⟨Nat.le_of_ble_eq_true rfl, Nat.le_of_ble_eq_true rfl⟩) ⟨PAt.blind, PAt.mk (cw_t38 hK hP)⟩ rfl rfl hl.1 rfl (lv_room (Nat.le_of_ble_eq_true rfl)) dX8_weighHolds_46 ⟨Nat.zero_le _, Nat.zero_le _⟩) ?_
        refine lv_aload_n hx hb dX8_weighHolds_49 rfl (lv_at hl 1 rfl) ?_
        refine va_get (D := D) (ci := 8) (v := .ref (ad 1)) (C := RX8) (T := TX8) (N := 4) hx hb hts iX8_weighHolds_X8 hown hK hP 35 cw_35 rfl 0 (by decide) (hts (.fieldLink RX8 22 RX8 "told" "LAnchorWills$Told;") (by decide +kernel)) (fun _ h9 => h9) rfl dX8_weighHolds_50 ?_
        refine lv_aload_n hx hb dX8_weighHolds_53 rfl (lv_at hl 2 rfl) ?_
        refine lv_iload_n hx hb dX8_weighHolds_54 rfl (lv_at hl 3 rfl) ?_
        obtain ⟨v5, e6, h⟩ := k_bd h
        refine rd_calli (va_runVN (As := [.ref (ad 19), .int x2]) (rest := [.int (pX10_at (σ 38) 10 v3), .int v3, .ref (ad 38)]) C0.1 (kX9_strengthOf_20 l (D := D) (cI := cI) (cB := cB) (cZ := cZ) (ad := ad) (τ := τ) σ x2 _ e6) (wX8_weighHolds_X9_strengthOf hts hN ⟨Nat.le_of_ble_eq_true rfl, Nat.le_of_ble_eq_true rfl⟩) ⟨PW.blind, cw_r1 hK hP, PW.mk hP hK hN⟩ rfl rfl hl.1 rfl (lv_room (Nat.le_of_ble_eq_true rfl)) dX8_weighHolds_55 ⟨Nat.zero_le _, Nat.zero_le _⟩) ?_
        refine lv_iadd hx hb dX8_weighHolds_58 ?_
        refine wr_callv (va_runSN (As := [.ref (ad 38), .int v3, .int ((pX10_at (σ 38) 10 v3) + v5)]) (rest := []) C0.1 (kX10_put l (cw_D hap) 38 cw_38 (by decide) v3 ((pX10_at (σ 38) 10 v3) + v5)) (wX8_weighHolds_X10_put hts hN ⟨Nat.le_of_ble_eq_true rfl, Nat.le_of_ble_eq_true rfl⟩) ⟨PW.blind, PW.mk hP hK hN⟩ rfl rfl hl.1 rfl (lv_room (Nat.le_of_ble_eq_true rfl)) dX8_weighHolds_59 ⟨Nat.zero_le _, Nat.zero_le _⟩) hS (fun _ h => h) (fun H locs hP hS => ?_)
        have hP := cw_s38 hP
        obtain ⟨σ7, e8, h⟩ := k_bd h
        rw [k_sm e8] at hP
        refine lv_iinc (v := (x2 + 1)) (lv' := [(2, .int (x2 + 1)), (3, .int v3), (0, .ref (ad 35)), (1, .ref (ad 19))]) hx hb dX8_weighHolds_62 hl (k := 3) rfl rfl (by decide) rfl (fun ls hl => ?_)
        refine lv_goto (tgt := 10) hx hb dX8_weighHolds_65 (by decide) ?_
        exact ih (x2 + 1) σ7 _ _ _ ls hP hS (lv_sub hl [2, 3, 0] rfl) h kk
set_option maxHeartbeats 4000000 in
set_option maxRecDepth 100000 in
theorem kX8_weighHolds_20 (l : Launch) {D : va_G} {cI cB cZ : ClassId} {ad : Nat → Nat} {τ : Int64} (hap : cwX ad) (σ : Sg) (o : Sg) (h : pX8_weighHolds 20 σ = some o) : Met l yX8_weighHolds wsX8_weighHolds rmX8_weighHolds (va_Pc [.ref (ad 35), .ref (ad 19)] (PW D cI cB cZ (CW cI ad τ σ))) (QV D (CW cI ad τ) (cwA ad) o) 0 0 (cwA ad) := by
  refine Met.ofW (cc := cX8_weighHolds) (maxL := 4) (ret := none) (by decide) rfl ?_
  intro p e s m args below meth c s₁ B hml hv
  obtain ⟨rfl, hP, hK, hN⟩ := hv
  have C0 : Cx p s m _ meth c cX8_weighHolds 4 none RX8 wsX8_weighHolds := ⟨⟨B.exec, B.bytes, hml, findClass_of_methodNamed B.named, atoms_spec B.pre⟩, B.returns, B.notSynchronized⟩
  obtain ⟨⟨hx, hb, -, hown, hts⟩, hr, hlk⟩ := id C0
  have hS : va_S (cwA ad) s.heap s.heap [] := va_S.rf
  have hl := lv_entry ([.ref (ad 35), .ref (ad 19)]) (n := 4) (Nat.le_of_ble_eq_true rfl)
  rw [lg_entry_eq]
  generalize (lg_sl ([.ref (ad 35), .ref (ad 19)]) ++ List.replicate (4 - (lg_sl ([.ref (ad 35), .ref (ad 19)])).length) Slot.unset).toArray = ls at hl ⊢
  have hl : lv_has ls 4 [(0, .ref (ad 35)), (1, .ref (ad 19))] := hl
  rw [pX8_weighHolds] at h
  refine lv_aload_n hx hb dX8_weighHolds_0 rfl (lv_at hl 0 rfl) ?_
  refine va_get (D := D) (ci := 8) (v := .ref (ad 38)) (C := RX8) (T := TX8) (N := 4) hx hb hts iX8_weighHolds_X8 hown hK hP 35 cw_35 rfl 3 (by decide) (hts (.fieldLink RX8 18 RX8 "holds" "[I") (by decide +kernel)) (fun _ h9 => h9) rfl dX8_weighHolds_1 ?_
  refine lv_iconst (v := 0) hx hb dX8_weighHolds_4 (by decide) ?_
  refine wr_callv (va_runSN (As := [.ref (ad 38), .int 0]) (rest := []) C0.1 (kX10_fill l (cw_D hap) 38 cw_38 (by decide) 0) (wX8_weighHolds_X10_fill hts hN ⟨Nat.le_of_ble_eq_true rfl, Nat.le_of_ble_eq_true rfl⟩) ⟨PW.blind, PW.mk hP hK hN⟩ rfl rfl hl.1 rfl (lv_room (Nat.le_of_ble_eq_true rfl)) dX8_weighHolds_5 ⟨Nat.zero_le _, Nat.zero_le _⟩) hS (fun _ h => h) (fun H locs hP hS => ?_)
  have hP := cw_s38 hP
  obtain ⟨σ1, e2, h⟩ := k_bd h
  rw [k_sm e2] at hP
  refine lv_iconst (v := 0) hx hb dX8_weighHolds_8 (by decide) ?_
  refine lv_istore_n (lv' := [(2, .int 0), (0, .ref (ad 35)), (1, .ref (ad 19))]) hx hb dX8_weighHolds_9 rfl hl (by decide) rfl (fun ls hl => ?_)
  obtain ⟨w9, e10, h⟩ := k_bd h
  refine bX8_weighHolds_L10_20 C0 hK hN hap  2000 0 σ1 _ _ _ ls hP hS (lv_sub hl [1, 2, 0] rfl) e10 (fun H locs ls hP hS hl => ?_)
  obtain rfl := k_sm h
  exact W.vret hx hb hr (fun t ht hW => ⟨⟨_, rfl, rfl, pw_end ht hP⟩, hS.F ht⟩) hS.2.2 dX8_weighHolds_68
set_option maxHeartbeats 4000000 in
set_option maxRecDepth 100000 in
theorem bX8_weighHolds_L10_37 {p : Program} {l : Launch} {e : Env} {s : State} {m : MethodId} {args : Array Value} {below : List Frame} {meth : Method} {c : Code} {Q : State → Prop} {D : va_G} {cI cB cZ : ClassId} {ad : Nat → Nat} (C0 : Cx p s m args meth c cX8_weighHolds 4 none RX8 wsX8_weighHolds) (hK : va_K D vwCl (tysA cI cB cZ) s) (hN : NW s) (hap : cwX ad) {τ : Int64}  : ∀ (n : Nat) (x2 : Int32) (σ : Sg) (v : Sg) (H : Heap) (locs : List Loc) (ls : Array Slot), va_P D vwCl (CW cI ad τ σ) H → va_S (cwA ad) s.heap H locs → lv_has ls 4 [(0, .ref (ad 35)), (1, .ref (ad 36)), (2, .int x2)] → pX8_weighHolds_L10 37 n x2 σ = some v → (∀ (H1 : Heap) (locs1 : List Loc) (ls1 : Array Slot), va_P D vwCl (CW cI ad τ v) H1 → va_S (cwA ad) s.heap H1 locs1 → lv_has ls1 4 [] → W p l e rmX8_weighHolds s m args below meth c H1 locs1 0 0 Q (F0 m 68 ls1 [])) → W p l e rmX8_weighHolds s m args below meth c H locs 0 0 Q (F0 m 10 ls []) := by
  obtain ⟨⟨hx, hb, hml, hown, hts⟩, hr, hlk⟩ := id C0
  intro n
  induction n with
  | zero =>
    intro x2 σ v H locs ls hP hS hl h kk
    exact absurd h (by simp [pX8_weighHolds_L10])
  | succ n ih =>
    intro x2 σ v H locs ls hP hS hl h kk
    rw [pX8_weighHolds_L10] at h
    refine lv_iload_n hx hb dX8_weighHolds_10 rfl (lv_at hl 2 rfl) ?_
    refine lv_aload_n hx hb dX8_weighHolds_11 rfl (lv_at hl 0 rfl) ?_
    refine va_get (D := D) (ci := 8) (v := .ref (ad 1)) (C := RX8) (T := TX8) (N := 4) hx hb hts iX8_weighHolds_X8 hown hK hP 35 cw_35 rfl 0 (by decide) (hts (.fieldLink RX8 22 RX8 "told" "LAnchorWills$Told;") (by decide +kernel)) (fun _ h9 => h9) rfl dX8_weighHolds_12 ?_
    refine va_getN (D := D) (ci := 9) (v := .int (σ 1 8)) (C := RX9) (T := TX9) (N := 10) hx hb hts iX8_weighHolds_X9 hown hK hP 1 cw_1 rfl 8 (by decide) (va_Nw.use rfl (nf_X8_45 hN)) (fun _ h9 => h9) rfl dX8_weighHolds_15 ?_
    refine lv_icmp_ge (tgt := 68) hx hb dX8_weighHolds_18 (by decide) (fun c18 => ?_) (fun c18 => ?_)
    · replace h := k_ip c18 h
      obtain rfl := k_sm h
      exact kk _ _ _ hP hS (lv_sub hl [] rfl)
    · replace h := k_in c18 h
      refine lv_aload_n hx hb dX8_weighHolds_21 rfl (lv_at hl 1 rfl) ?_
      refine lv_iload_n hx hb dX8_weighHolds_22 rfl (lv_at hl 2 rfl) ?_
      refine rd_calli (va_runVN (As := [.int x2]) (rest := []) C0.1 (kX5_lies_37 l (D := D) (cI := cI) (cB := cB) (cZ := cZ) (ad := ad) (τ := τ) σ x2) (wX8_weighHolds_X5_lies hts hN ⟨Nat.le_of_ble_eq_true rfl, Nat.le_of_ble_eq_true rfl⟩) ⟨PW.blind, cw_r36 hK hP, PW.mk hP hK hN⟩ rfl rfl hl.1 rfl (lv_room (Nat.le_of_ble_eq_true rfl)) dX8_weighHolds_23 ⟨Nat.zero_le _, Nat.zero_le _⟩) ?_
      refine lv_if_eq (tgt := 62) hx hb dX8_weighHolds_26 (by decide) (fun c26 => ?_) (fun c26 => ?_)
      · replace h := k_ip c26 h
        refine lv_iinc (v := (x2 + 1)) (lv' := [(2, .int (x2 + 1)), (0, .ref (ad 35)), (1, .ref (ad 36))]) hx hb dX8_weighHolds_62 hl (k := 2) rfl rfl (by decide) rfl (fun ls hl => ?_)
        refine lv_goto (tgt := 10) hx hb dX8_weighHolds_65 (by decide) ?_
        exact ih (x2 + 1) σ _ _ _ ls hP hS (lv_sub hl [1, 2, 0] rfl) h kk
      · replace h := k_in c26 h
        refine lv_aload_n hx hb dX8_weighHolds_29 rfl (lv_at hl 1 rfl) ?_
        refine lv_iconst (v := 0) hx hb dX8_weighHolds_30 (by decide) ?_
        refine lv_iload_n hx hb dX8_weighHolds_31 rfl (lv_at hl 2 rfl) ?_
        refine rd_calli (va_runVN (As := [.int 0, .int x2]) (rest := []) C0.1 (kX5_get_37 l (D := D) (cI := cI) (cB := cB) (cZ := cZ) (ad := ad) (τ := τ) σ 0 x2) (wX8_weighHolds_X5_get hts hN ⟨Nat.le_of_ble_eq_true rfl, Nat.le_of_ble_eq_true rfl⟩) ⟨PW.blind, cw_r36 hK hP, PW.mk hP hK hN⟩ rfl rfl hl.1 rfl (lv_room (Nat.le_of_ble_eq_true rfl)) dX8_weighHolds_32 ⟨Nat.zero_le _, Nat.zero_le _⟩) ?_
        obtain ⟨v3, e4, h⟩ := k_bd h
        refine lv_nmi (k_sm e4) ?_
        refine lv_istore_n (lv' := [(3, .int v3), (0, .ref (ad 35)), (1, .ref (ad 36)), (2, .int x2)]) hx hb dX8_weighHolds_35 rfl hl (by decide) rfl (fun ls hl => ?_)
        refine lv_aload_n hx hb dX8_weighHolds_36 rfl (lv_at hl 1 rfl) ?_
        refine va_get (D := D) (ci := 8) (v := .ref (ad 38)) (C := RX8) (T := TX8) (N := 4) hx hb hts iX8_weighHolds_X8 hown hK hP 35 cw_35 rfl 3 (by decide) (hts (.fieldLink RX8 18 RX8 "holds" "[I") (by decide +kernel)) (fun _ h9 => h9) rfl dX8_weighHolds_37 ?_
        refine lv_iload_n hx hb dX8_weighHolds_40 rfl (lv_at hl 0 rfl) ?_
        refine lv_aload_n hx hb dX8_weighHolds_41 rfl (lv_at hl 1 rfl) ?_
        refine va_get (D := D) (ci := 8) (v := .ref (ad 38)) (C := RX8) (T := TX8) (N := 4) hx hb hts iX8_weighHolds_X8 hown hK hP 35 cw_35 rfl 3 (by decide) (hts (.fieldLink RX8 18 RX8 "holds" "[I") (by decide +kernel)) (fun _ h9 => h9) rfl dX8_weighHolds_42 ?_
        refine lv_iload_n hx hb dX8_weighHolds_45 rfl (lv_at hl 0 rfl) ?_
        refine rd_calli (va_runSN (As := [.ref (ad 38), .int v3]) (rest := [.int v3, .ref (ad 38)]) C0.1 (kX10_at l (ad 38) 10 (σ 38) v3 (by decide)) (wX8_weighHolds_X10_at hts hN ⟨Nat.le_of_ble_eq_true rfl, Nat.le_of_ble_eq_true rfl⟩) ⟨PAt.blind, PAt.mk (cw_t38 hK hP)⟩ rfl rfl hl.1 rfl (lv_room (Nat.le_of_ble_eq_true rfl)) dX8_weighHolds_46 ⟨Nat.zero_le _, Nat.zero_le _⟩) ?_
        refine lv_aload_n hx hb dX8_weighHolds_49 rfl (lv_at hl 1 rfl) ?_
        refine va_get (D := D) (ci := 8) (v := .ref (ad 1)) (C := RX8) (T := TX8) (N := 4) hx hb hts iX8_weighHolds_X8 hown hK hP 35 cw_35 rfl 0 (by decide) (hts (.fieldLink RX8 22 RX8 "told" "LAnchorWills$Told;") (by decide +kernel)) (fun _ h9 => h9) rfl dX8_weighHolds_50 ?_
        refine lv_aload_n hx hb dX8_weighHolds_53 rfl (lv_at hl 2 rfl) ?_
        refine lv_iload_n hx hb dX8_weighHolds_54 rfl (lv_at hl 3 rfl) ?_
        obtain ⟨v5, e6, h⟩ := k_bd h
        refine rd_calli (va_runVN (As := [.ref (ad 36), .int x2]) (rest := [.int (pX10_at (σ 38) 10 v3), .int v3, .ref (ad 38)]) C0.1 (kX9_strengthOf_37 l (D := D) (cI := cI) (cB := cB) (cZ := cZ) (ad := ad) (τ := τ) σ x2 _ e6) (wX8_weighHolds_X9_strengthOf hts hN ⟨Nat.le_of_ble_eq_true rfl, Nat.le_of_ble_eq_true rfl⟩) ⟨PW.blind, cw_r1 hK hP, PW.mk hP hK hN⟩ rfl rfl hl.1 rfl (lv_room (Nat.le_of_ble_eq_true rfl)) dX8_weighHolds_55 ⟨Nat.zero_le _, Nat.zero_le _⟩) ?_
        refine lv_iadd hx hb dX8_weighHolds_58 ?_
        refine wr_callv (va_runSN (As := [.ref (ad 38), .int v3, .int ((pX10_at (σ 38) 10 v3) + v5)]) (rest := []) C0.1 (kX10_put l (cw_D hap) 38 cw_38 (by decide) v3 ((pX10_at (σ 38) 10 v3) + v5)) (wX8_weighHolds_X10_put hts hN ⟨Nat.le_of_ble_eq_true rfl, Nat.le_of_ble_eq_true rfl⟩) ⟨PW.blind, PW.mk hP hK hN⟩ rfl rfl hl.1 rfl (lv_room (Nat.le_of_ble_eq_true rfl)) dX8_weighHolds_59 ⟨Nat.zero_le _, Nat.zero_le _⟩) hS (fun _ h => h) (fun H locs hP hS => ?_)
        have hP := cw_s38 hP
        obtain ⟨σ7, e8, h⟩ := k_bd h
        rw [k_sm e8] at hP
        refine lv_iinc (v := (x2 + 1)) (lv' := [(2, .int (x2 + 1)), (3, .int v3), (0, .ref (ad 35)), (1, .ref (ad 36))]) hx hb dX8_weighHolds_62 hl (k := 3) rfl rfl (by decide) rfl (fun ls hl => ?_)
        refine lv_goto (tgt := 10) hx hb dX8_weighHolds_65 (by decide) ?_
        exact ih (x2 + 1) σ7 _ _ _ ls hP hS (lv_sub hl [2, 3, 0] rfl) h kk
set_option maxHeartbeats 4000000 in
set_option maxRecDepth 100000 in
theorem kX8_weighHolds_37 (l : Launch) {D : va_G} {cI cB cZ : ClassId} {ad : Nat → Nat} {τ : Int64} (hap : cwX ad) (σ : Sg) (o : Sg) (h : pX8_weighHolds 37 σ = some o) : Met l yX8_weighHolds wsX8_weighHolds rmX8_weighHolds (va_Pc [.ref (ad 35), .ref (ad 36)] (PW D cI cB cZ (CW cI ad τ σ))) (QV D (CW cI ad τ) (cwA ad) o) 0 0 (cwA ad) := by
  refine Met.ofW (cc := cX8_weighHolds) (maxL := 4) (ret := none) (by decide) rfl ?_
  intro p e s m args below meth c s₁ B hml hv
  obtain ⟨rfl, hP, hK, hN⟩ := hv
  have C0 : Cx p s m _ meth c cX8_weighHolds 4 none RX8 wsX8_weighHolds := ⟨⟨B.exec, B.bytes, hml, findClass_of_methodNamed B.named, atoms_spec B.pre⟩, B.returns, B.notSynchronized⟩
  obtain ⟨⟨hx, hb, -, hown, hts⟩, hr, hlk⟩ := id C0
  have hS : va_S (cwA ad) s.heap s.heap [] := va_S.rf
  have hl := lv_entry ([.ref (ad 35), .ref (ad 36)]) (n := 4) (Nat.le_of_ble_eq_true rfl)
  rw [lg_entry_eq]
  generalize (lg_sl ([.ref (ad 35), .ref (ad 36)]) ++ List.replicate (4 - (lg_sl ([.ref (ad 35), .ref (ad 36)])).length) Slot.unset).toArray = ls at hl ⊢
  have hl : lv_has ls 4 [(0, .ref (ad 35)), (1, .ref (ad 36))] := hl
  rw [pX8_weighHolds] at h
  refine lv_aload_n hx hb dX8_weighHolds_0 rfl (lv_at hl 0 rfl) ?_
  refine va_get (D := D) (ci := 8) (v := .ref (ad 38)) (C := RX8) (T := TX8) (N := 4) hx hb hts iX8_weighHolds_X8 hown hK hP 35 cw_35 rfl 3 (by decide) (hts (.fieldLink RX8 18 RX8 "holds" "[I") (by decide +kernel)) (fun _ h9 => h9) rfl dX8_weighHolds_1 ?_
  refine lv_iconst (v := 0) hx hb dX8_weighHolds_4 (by decide) ?_
  refine wr_callv (va_runSN (As := [.ref (ad 38), .int 0]) (rest := []) C0.1 (kX10_fill l (cw_D hap) 38 cw_38 (by decide) 0) (wX8_weighHolds_X10_fill hts hN ⟨Nat.le_of_ble_eq_true rfl, Nat.le_of_ble_eq_true rfl⟩) ⟨PW.blind, PW.mk hP hK hN⟩ rfl rfl hl.1 rfl (lv_room (Nat.le_of_ble_eq_true rfl)) dX8_weighHolds_5 ⟨Nat.zero_le _, Nat.zero_le _⟩) hS (fun _ h => h) (fun H locs hP hS => ?_)
  have hP := cw_s38 hP
  obtain ⟨σ1, e2, h⟩ := k_bd h
  rw [k_sm e2] at hP
  refine lv_iconst (v := 0) hx hb dX8_weighHolds_8 (by decide) ?_
  refine lv_istore_n (lv' := [(2, .int 0), (0, .ref (ad 35)), (1, .ref (ad 36))]) hx hb dX8_weighHolds_9 rfl hl (by decide) rfl (fun ls hl => ?_)
  obtain ⟨w9, e10, h⟩ := k_bd h
  refine bX8_weighHolds_L10_37 C0 hK hN hap  2000 0 σ1 _ _ _ ls hP hS (lv_sub hl [1, 2, 0] rfl) e10 (fun H locs ls hP hS hl => ?_)
  obtain rfl := k_sm h
  exact W.vret hx hb hr (fun t ht hW => ⟨⟨_, rfl, rfl, pw_end ht hP⟩, hS.F ht⟩) hS.2.2 dX8_weighHolds_68
set_option maxHeartbeats 4000000 in
set_option maxRecDepth 100000 in
theorem kX8_holdOf (l : Launch) {D : va_G} {cI cB cZ : ClassId} {ad : Nat → Nat} {τ : Int64} (hap : cwX ad) (σ : Sg) (x1 : Int32) (o : (Int32 × Sg)) (h : pX8_holdOf σ x1 = some o) : Met l yX8_holdOf wsX8_holdOf rmX8_holdOf (va_Pc [.ref (ad 35), .int x1] (PW D cI cB cZ (CW cI ad τ σ))) (QI D (CW cI ad τ) (cwA ad) o.1 o.2) 0 0 (cwA ad) := by
  refine Met.ofW (cc := cX8_holdOf) (maxL := 2) (ret := (some .int)) (by decide) rfl ?_
  intro p e s m args below meth c s₁ B hml hv
  obtain ⟨rfl, hP, hK, hN⟩ := hv
  have C0 : Cx p s m _ meth c cX8_holdOf 2 (some .int) RX8 wsX8_holdOf := ⟨⟨B.exec, B.bytes, hml, findClass_of_methodNamed B.named, atoms_spec B.pre⟩, B.returns, B.notSynchronized⟩
  obtain ⟨⟨hx, hb, -, hown, hts⟩, hr, hlk⟩ := id C0
  have hS : va_S (cwA ad) s.heap s.heap [] := va_S.rf
  have hl := lv_entry ([.ref (ad 35), .int x1]) (n := 2) (Nat.le_of_ble_eq_true rfl)
  rw [lg_entry_eq]
  generalize (lg_sl ([.ref (ad 35), .int x1]) ++ List.replicate (2 - (lg_sl ([.ref (ad 35), .int x1])).length) Slot.unset).toArray = ls at hl ⊢
  have hl : lv_has ls 2 [(0, .ref (ad 35)), (1, .int x1)] := hl
  rw [pX8_holdOf] at h
  refine lv_aload_n hx hb dX8_holdOf_0 rfl (lv_at hl 0 rfl) ?_
  refine lv_aload_n hx hb dX8_holdOf_1 rfl (lv_at hl 0 rfl) ?_
  refine va_get (D := D) (ci := 8) (v := .ref (ad 19)) (C := RX8) (T := TX8) (N := 4) hx hb hts iX8_holdOf_X8 hown hK hP 35 cw_35 rfl 1 (by decide) (hts (.fieldLink RX8 26 RX8 "now" "LAnchorWills$Now;") (by decide +kernel)) (fun _ h9 => h9) rfl dX8_holdOf_2 ?_
  obtain ⟨u1, e2, h⟩ := k_bd h
  refine wr_callv (va_runV (As := [.ref (ad 19)]) (rest := []) C0.1 (kX8_weighHolds_20 l (D := D) (cI := cI) (cB := cB) (cZ := cZ) (τ := τ) hap σ  _ e2) (wX8_holdOf_X8_weighHolds hts ⟨Nat.le_of_ble_eq_true rfl, Nat.le_of_ble_eq_true rfl⟩) ⟨PW.blind, cw_r35 hK hP, PW.mk hP hK hN⟩ rfl rfl hl.1 rfl (lv_room (Nat.le_of_ble_eq_true rfl)) dX8_holdOf_5 ⟨Nat.zero_le _, Nat.zero_le _⟩) hS (fun _ h => h) (fun H locs hP hS => ?_)
  have hP : va_P D vwCl (CW cI ad τ u1) H := hP
  refine lv_aload_n hx hb dX8_holdOf_8 rfl (lv_at hl 0 rfl) ?_
  refine va_get (D := D) (ci := 8) (v := .ref (ad 38)) (C := RX8) (T := TX8) (N := 4) hx hb hts iX8_holdOf_X8 hown hK hP 35 cw_35 rfl 3 (by decide) (hts (.fieldLink RX8 18 RX8 "holds" "[I") (by decide +kernel)) (fun _ h9 => h9) rfl dX8_holdOf_9 ?_
  refine lv_aload_n hx hb dX8_holdOf_12 rfl (lv_at hl 0 rfl) ?_
  refine va_get (D := D) (ci := 8) (v := .ref (ad 19)) (C := RX8) (T := TX8) (N := 4) hx hb hts iX8_holdOf_X8 hown hK hP 35 cw_35 rfl 1 (by decide) (hts (.fieldLink RX8 26 RX8 "now" "LAnchorWills$Now;") (by decide +kernel)) (fun _ h9 => h9) rfl dX8_holdOf_13 ?_
  refine lv_iconst (v := 0) hx hb dX8_holdOf_16 (by decide) ?_
  refine lv_iload_n hx hb dX8_holdOf_17 rfl (lv_at hl 1 rfl) ?_
  refine rd_calli (va_runVN (As := [.int 0, .int x1]) (rest := [.ref (ad 38)]) C0.1 (kX5_get_20 l (D := D) (cI := cI) (cB := cB) (cZ := cZ) (ad := ad) (τ := τ) u1 0 x1) (wX8_holdOf_X5_get hts hN ⟨Nat.le_of_ble_eq_true rfl, Nat.le_of_ble_eq_true rfl⟩) ⟨PW.blind, cw_r19 hK hP, PW.mk hP hK hN⟩ rfl rfl hl.1 rfl (lv_room (Nat.le_of_ble_eq_true rfl)) dX8_holdOf_18 ⟨Nat.zero_le _, Nat.zero_le _⟩) ?_
  refine rd_calli (va_runSN (As := [.ref (ad 38), .int (pX5_get 20 u1 0 x1)]) (rest := []) C0.1 (kX10_at l (ad 38) 10 (u1 38) (pX5_get 20 u1 0 x1) (by decide)) (wX8_holdOf_X10_at hts hN ⟨Nat.le_of_ble_eq_true rfl, Nat.le_of_ble_eq_true rfl⟩) ⟨PAt.blind, PAt.mk (cw_t38 hK hP)⟩ rfl rfl hl.1 rfl (lv_room (Nat.le_of_ble_eq_true rfl)) dX8_holdOf_21 ⟨Nat.zero_le _, Nat.zero_le _⟩) ?_
  obtain rfl := k_sm h
  exact W.iret hx hb hr (fun t ht hW => ⟨⟨_, _, rfl, ⟨rfl, rfl⟩, pw_end ht hP⟩, hS.F ht⟩) hS.2.2 dX8_holdOf_24
set_option maxHeartbeats 4000000 in
set_option maxRecDepth 100000 in
theorem bX8_blowsOver_L11_20 {p : Program} {l : Launch} {e : Env} {s : State} {m : MethodId} {args : Array Value} {below : List Frame} {meth : Method} {c : Code} {Q : State → Prop} {D : va_G} {cI cB cZ : ClassId} {ad : Nat → Nat} (C0 : Cx p s m args meth c cX8_blowsOver 8 (some .int) RX8 wsX8_blowsOver) (hK : va_K D vwCl (tysA cI cB cZ) s) (hN : NW s) (hap : cwX ad) {τ : Int64} (x2 : Int32) (x3 : Int32) : ∀ (n : Nat) (x4 : Int32) (x5 : Int32) (σ : Sg) (v : (Int32 × Sg)) (H : Heap) (locs : List Loc) (ls : Array Slot), va_P D vwCl (CW cI ad τ σ) H → va_S (cwA ad) s.heap H locs → lv_has ls 8 [(0, .ref (ad 35)), (1, .ref (ad 19)), (2, .int x2), (3, .int x3), (4, .int x4), (5, .int x5)] → pX8_blowsOver_L11 20 x2 x3 n x4 x5 σ = some v → (∀ (H1 : Heap) (locs1 : List Loc) (ls1 : Array Slot), va_P D vwCl (CW cI ad τ v.2) H1 → va_S (cwA ad) s.heap H1 locs1 → lv_has ls1 8 [(4, .int v.1)] → W p l e rmX8_blowsOver s m args below meth c H1 locs1 0 0 Q (F0 m 112 ls1 [])) → W p l e rmX8_blowsOver s m args below meth c H locs 0 0 Q (F0 m 11 ls []) := by
  obtain ⟨⟨hx, hb, hml, hown, hts⟩, hr, hlk⟩ := id C0
  intro n
  induction n with
  | zero =>
    intro x4 x5 σ v H locs ls hP hS hl h kk
    exact absurd h (by simp [pX8_blowsOver_L11])
  | succ n ih =>
    intro x4 x5 σ v H locs ls hP hS hl h kk
    rw [pX8_blowsOver_L11] at h
    refine lv_iload hx hb dX8_blowsOver_11 (lv_at hl 5 rfl) ?_
    refine lv_aload_n hx hb dX8_blowsOver_13 rfl (lv_at hl 0 rfl) ?_
    refine va_get (D := D) (ci := 8) (v := .ref (ad 1)) (C := RX8) (T := TX8) (N := 4) hx hb hts iX8_blowsOver_X8 hown hK hP 35 cw_35 rfl 0 (by decide) (hts (.fieldLink RX8 22 RX8 "told" "LAnchorWills$Told;") (by decide +kernel)) (fun _ h9 => h9) rfl dX8_blowsOver_14 ?_
    refine va_getN (D := D) (ci := 9) (v := .int (σ 1 8)) (C := RX9) (T := TX9) (N := 10) hx hb hts iX8_blowsOver_X9 hown hK hP 1 cw_1 rfl 8 (by decide) (va_Nw.use rfl (nf_X8_45 hN)) (fun _ h9 => h9) rfl dX8_blowsOver_17 ?_
    refine lv_icmp_ge (tgt := 112) hx hb dX8_blowsOver_20 (by decide) (fun c20 => ?_) (fun c20 => ?_)
    · replace h := k_ip c20 h
      obtain rfl := k_sm h
      exact kk _ _ _ hP hS (lv_sub hl [4] rfl)
    · replace h := k_in c20 h
      refine lv_aload_n hx hb dX8_blowsOver_23 rfl (lv_at hl 1 rfl) ?_
      refine lv_iconst (v := 0) hx hb dX8_blowsOver_24 (by decide) ?_
      refine lv_iload hx hb dX8_blowsOver_25 (lv_at hl 5 rfl) ?_
      refine rd_calli (va_runVN (As := [.int 0, .int x5]) (rest := []) C0.1 (kX5_get_20 l (D := D) (cI := cI) (cB := cB) (cZ := cZ) (ad := ad) (τ := τ) σ 0 x5) (wX8_blowsOver_X5_get hts hN ⟨Nat.le_of_ble_eq_true rfl, Nat.le_of_ble_eq_true rfl⟩) ⟨PW.blind, cw_r19 hK hP, PW.mk hP hK hN⟩ rfl rfl hl.1 rfl (lv_room (Nat.le_of_ble_eq_true rfl)) dX8_blowsOver_27 ⟨Nat.zero_le _, Nat.zero_le _⟩) ?_
      obtain ⟨v3, e4, h⟩ := k_bd h
      refine lv_nmi (k_sm e4) ?_
      refine lv_istore (lv' := [(6, .int v3), (0, .ref (ad 35)), (1, .ref (ad 19)), (2, .int x2), (3, .int x3), (4, .int x4), (5, .int x5)]) hx hb dX8_blowsOver_30 hl (by decide) rfl (fun ls hl => ?_)
      refine lv_aload_n hx hb dX8_blowsOver_32 rfl (lv_at hl 2 rfl) ?_
      refine lv_iload hx hb dX8_blowsOver_33 (lv_at hl 6 rfl) ?_
      refine rd_calli (va_runVN (As := [.int x5]) (rest := []) C0.1 (kX5_lies_20 l (D := D) (cI := cI) (cB := cB) (cZ := cZ) (ad := ad) (τ := τ) σ x5) (wX8_blowsOver_X5_lies hts hN ⟨Nat.le_of_ble_eq_true rfl, Nat.le_of_ble_eq_true rfl⟩) ⟨PW.blind, cw_r19 hK hP, PW.mk hP hK hN⟩ rfl rfl hl.1 rfl (lv_room (Nat.le_of_ble_eq_true rfl)) dX8_blowsOver_35 ⟨Nat.zero_le _, Nat.zero_le _⟩) ?_
      refine lv_if_eq (tgt := 106) hx hb dX8_blowsOver_38 (by decide) (fun c38 => ?_) (fun c38 => ?_)
      · replace h := k_ip c38 h
        refine lv_iinc (v := (x5 + 1)) (lv' := [(5, .int (x5 + 1)), (6, .int v3), (0, .ref (ad 35)), (1, .ref (ad 19)), (2, .int x2), (3, .int x3), (4, .int x4)]) hx hb dX8_blowsOver_106 hl (k := 6) rfl rfl (by decide) rfl (fun ls hl => ?_)
        refine lv_goto (tgt := 11) hx hb dX8_blowsOver_109 (by decide) ?_
        exact ih x4 (x5 + 1) σ _ _ _ ls hP hS (lv_sub hl [2, 3, 4, 5, 6, 0] rfl) h kk
      · replace h := k_in c38 h
        refine lv_aload_n hx hb dX8_blowsOver_41 rfl (lv_at hl 1 rfl) ?_
        refine va_get (D := D) (ci := 8) (v := .ref (ad 38)) (C := RX8) (T := TX8) (N := 4) hx hb hts iX8_blowsOver_X8 hown hK hP 35 cw_35 rfl 3 (by decide) (hts (.fieldLink RX8 18 RX8 "holds" "[I") (by decide +kernel)) (fun _ h9 => h9) rfl dX8_blowsOver_42 ?_
        refine lv_iload hx hb dX8_blowsOver_45 (lv_at hl 0 rfl) ?_
        refine rd_calli (va_runSN (As := [.ref (ad 38), .int v3]) (rest := []) C0.1 (kX10_at l (ad 38) 10 (σ 38) v3 (by decide)) (wX8_blowsOver_X10_at hts hN ⟨Nat.le_of_ble_eq_true rfl, Nat.le_of_ble_eq_true rfl⟩) ⟨PAt.blind, PAt.mk (cw_t38 hK hP)⟩ rfl rfl hl.1 rfl (lv_room (Nat.le_of_ble_eq_true rfl)) dX8_blowsOver_47 ⟨Nat.zero_le _, Nat.zero_le _⟩) ?_
        refine lv_iload_n hx hb dX8_blowsOver_50 rfl (lv_at hl 3 rfl) ?_
        refine lv_icmp_ge (tgt := 106) hx hb dX8_blowsOver_51 (by decide) (fun c51 => ?_) (fun c51 => ?_)
        · replace h := k_ip c51 h
          refine lv_iinc (v := (x5 + 1)) (lv' := [(5, .int (x5 + 1)), (6, .int v3), (0, .ref (ad 35)), (1, .ref (ad 19)), (2, .int x2), (3, .int x3), (4, .int x4)]) hx hb dX8_blowsOver_106 hl (k := 6) rfl rfl (by decide) rfl (fun ls hl => ?_)
          refine lv_goto (tgt := 11) hx hb dX8_blowsOver_109 (by decide) ?_
          exact ih x4 (x5 + 1) σ _ _ _ ls hP hS (lv_sub hl [2, 3, 4, 5, 6, 0] rfl) h kk
        · replace h := k_in c51 h
          refine lv_iload_n hx hb dX8_blowsOver_54 rfl (lv_at hl 4 rfl) ?_
          obtain ⟨j5, e6, h⟩ := k_bd h
          have key : ∀ (H : Heap) (locs : List Loc) (ls : Array Slot), va_P D vwCl (CW cI ad τ σ) H → va_S (cwA ad) s.heap H locs → lv_has ls 8 [(0, .ref (ad 35)), (1, .ref (ad 19)), (2, .int x2), (3, .int x3), (4, .int x4), (5, .int x5)] → W p l e rmX8_blowsOver s m args below meth c H locs 0 0 Q (F0 m 69 ls [.int j5]) := by
            intro H locs ls hP hS hl
            refine lv_istore (lv' := [(7, .int j5), (0, .ref (ad 35)), (1, .ref (ad 19)), (2, .int x2), (3, .int x3), (4, .int x4), (5, .int x5)]) hx hb dX8_blowsOver_69 hl (by decide) rfl (fun ls hl => ?_)
            refine lv_iload hx hb dX8_blowsOver_71 (lv_at hl 0 rfl) ?_
            refine lv_iconst (v := 0) hx hb dX8_blowsOver_73 (by decide) ?_
            refine lv_bipush (v := 9) hx hb dX8_blowsOver_74 (by decide) ?_
            refine rd_calli (va_runSN (As := [.int j5, .int 0, .int 9]) (rest := []) C0.1 (kX10_isOutside l j5 0 9) (wX8_blowsOver_X10_isOutside hts hN ⟨Nat.le_of_ble_eq_true rfl, Nat.le_of_ble_eq_true rfl⟩) ⟨PT.blind, fun _ _ _ => ⟨rfl, trivial⟩⟩ rfl rfl hl.1 rfl (lv_room (Nat.le_of_ble_eq_true rfl)) dX8_blowsOver_76 ⟨Nat.zero_le _, Nat.zero_le _⟩) ?_
            refine lv_if_eq (tgt := 97) hx hb dX8_blowsOver_79 (by decide) (fun c79 => ?_) (fun c79 => ?_)
            · replace h := k_ip c79 h
              refine lv_aload_n hx hb dX8_blowsOver_97 rfl (lv_at hl 2 rfl) ?_
              refine lv_iconst (v := 0) hx hb dX8_blowsOver_98 (by decide) ?_
              refine lv_iload hx hb dX8_blowsOver_99 (lv_at hl 6 rfl) ?_
              refine lv_iload hx hb dX8_blowsOver_101 (lv_at hl 0 rfl) ?_
              obtain ⟨u7, e8, h⟩ := k_bd h
              refine wr_callv (va_runVN (As := [.int 0, .int x5, .int j5]) (rest := []) C0.1 (kX5_set_20 l (D := D) (cI := cI) (cB := cB) (cZ := cZ) (τ := τ) hap σ 0 x5 j5 _ e8) (wX8_blowsOver_X5_set hts hN ⟨Nat.le_of_ble_eq_true rfl, Nat.le_of_ble_eq_true rfl⟩) ⟨PW.blind, cw_r19 hK hP, PW.mk hP hK hN⟩ rfl rfl hl.1 rfl (lv_room (Nat.le_of_ble_eq_true rfl)) dX8_blowsOver_103 ⟨Nat.zero_le _, Nat.zero_le _⟩) hS (fun _ h => h) (fun H locs hP hS => ?_)
              have hP : va_P D vwCl (CW cI ad τ u7) H := hP
              refine lv_iinc (v := (x5 + 1)) (lv' := [(5, .int (x5 + 1)), (7, .int j5), (0, .ref (ad 35)), (1, .ref (ad 19)), (2, .int x2), (3, .int x3), (4, .int x4)]) hx hb dX8_blowsOver_106 hl (k := 6) rfl rfl (by decide) rfl (fun ls hl => ?_)
              refine lv_goto (tgt := 11) hx hb dX8_blowsOver_109 (by decide) ?_
              exact ih x4 (x5 + 1) u7 _ _ _ ls hP hS (lv_sub hl [2, 3, 4, 5, 6, 0] rfl) h kk
            · replace h := k_in c79 h
              refine lv_aload_n hx hb dX8_blowsOver_82 rfl (lv_at hl 2 rfl) ?_
              refine lv_bipush (v := 24) hx hb dX8_blowsOver_83 (by decide) ?_
              refine lv_iload hx hb dX8_blowsOver_85 (lv_at hl 6 rfl) ?_
              refine lv_iconst (v := 2) hx hb dX8_blowsOver_87 (by decide) ?_
              obtain ⟨u9, e10, h⟩ := k_bd h
              refine wr_callv (va_runVN (As := [.int 24, .int x5, .int 2]) (rest := []) C0.1 (kX5_set_20 l (D := D) (cI := cI) (cB := cB) (cZ := cZ) (τ := τ) hap σ 24 x5 2 _ e10) (wX8_blowsOver_X5_set hts hN ⟨Nat.le_of_ble_eq_true rfl, Nat.le_of_ble_eq_true rfl⟩) ⟨PW.blind, cw_r19 hK hP, PW.mk hP hK hN⟩ rfl rfl hl.1 rfl (lv_room (Nat.le_of_ble_eq_true rfl)) dX8_blowsOver_88 ⟨Nat.zero_le _, Nat.zero_le _⟩) hS (fun _ h => h) (fun H locs hP hS => ?_)
              have hP : va_P D vwCl (CW cI ad τ u9) H := hP
              refine lv_iinc (v := (x4 + 1)) (lv' := [(4, .int (x4 + 1)), (7, .int j5), (0, .ref (ad 35)), (1, .ref (ad 19)), (2, .int x2), (3, .int x3), (5, .int x5)]) hx hb dX8_blowsOver_91 hl (k := 5) rfl rfl (by decide) rfl (fun ls hl => ?_)
              refine lv_goto (tgt := 106) hx hb dX8_blowsOver_94 (by decide) ?_
              refine lv_iinc (v := (x5 + 1)) (lv' := [(5, .int (x5 + 1)), (4, .int (x4 + 1)), (7, .int j5), (0, .ref (ad 35)), (1, .ref (ad 19)), (2, .int x2), (3, .int x3)]) hx hb dX8_blowsOver_106 hl (k := 6) rfl rfl (by decide) rfl (fun ls hl => ?_)
              refine lv_goto (tgt := 11) hx hb dX8_blowsOver_109 (by decide) ?_
              exact ih (x4 + 1) (x5 + 1) u9 _ _ _ ls hP hS (lv_sub hl [3, 4, 5, 6, 1, 0] rfl) h kk
          clear h
          have h := e6
          clear e6
          refine lv_if_ne (tgt := 65) hx hb dX8_blowsOver_55 (by decide) (fun c55 => ?_) (fun c55 => ?_)
          · replace h := k_in c55 h
            refine lv_iload hx hb dX8_blowsOver_65 (lv_at hl 0 rfl) ?_
            refine lv_iconst (v := 1) hx hb dX8_blowsOver_67 (by decide) ?_
            refine lv_iadd hx hb dX8_blowsOver_68 ?_
            obtain rfl := k_sm h
            exact key _ _ _ hP hS (lv_sub hl [1, 2, 3, 4, 5, 6] rfl)
          · replace h := k_ip c55 h
            refine lv_iload hx hb dX8_blowsOver_58 (lv_at hl 0 rfl) ?_
            refine lv_iconst (v := 1) hx hb dX8_blowsOver_60 (by decide) ?_
            refine lv_isub hx hb dX8_blowsOver_61 ?_
            refine lv_goto (tgt := 69) hx hb dX8_blowsOver_62 (by decide) ?_
            obtain rfl := k_sm h
            exact key _ _ _ hP hS (lv_sub hl [1, 2, 3, 4, 5, 6] rfl)
set_option maxHeartbeats 4000000 in
set_option maxRecDepth 100000 in
theorem kX8_blowsOver_20 (l : Launch) {D : va_G} {cI cB cZ : ClassId} {ad : Nat → Nat} {τ : Int64} (hap : cwX ad) (σ : Sg) (x2 : Int32) (x3 : Int32) (o : (Int32 × Sg)) (h : pX8_blowsOver 20 σ x2 x3 = some o) : Met l yX8_blowsOver wsX8_blowsOver rmX8_blowsOver (va_Pc [.ref (ad 35), .ref (ad 19), .int x2, .int x3] (PW D cI cB cZ (CW cI ad τ σ))) (QI D (CW cI ad τ) (cwA ad) o.1 o.2) 0 0 (cwA ad) := by
  refine Met.ofW (cc := cX8_blowsOver) (maxL := 8) (ret := (some .int)) (by decide) rfl ?_
  intro p e s m args below meth c s₁ B hml hv
  obtain ⟨rfl, hP, hK, hN⟩ := hv
  have C0 : Cx p s m _ meth c cX8_blowsOver 8 (some .int) RX8 wsX8_blowsOver := ⟨⟨B.exec, B.bytes, hml, findClass_of_methodNamed B.named, atoms_spec B.pre⟩, B.returns, B.notSynchronized⟩
  obtain ⟨⟨hx, hb, -, hown, hts⟩, hr, hlk⟩ := id C0
  have hS : va_S (cwA ad) s.heap s.heap [] := va_S.rf
  have hl := lv_entry ([.ref (ad 35), .ref (ad 19), .int x2, .int x3]) (n := 8) (Nat.le_of_ble_eq_true rfl)
  rw [lg_entry_eq]
  generalize (lg_sl ([.ref (ad 35), .ref (ad 19), .int x2, .int x3]) ++ List.replicate (8 - (lg_sl ([.ref (ad 35), .ref (ad 19), .int x2, .int x3])).length) Slot.unset).toArray = ls at hl ⊢
  have hl : lv_has ls 8 [(0, .ref (ad 35)), (1, .ref (ad 19)), (2, .int x2), (3, .int x3)] := hl
  rw [pX8_blowsOver] at h
  refine lv_aload_n hx hb dX8_blowsOver_0 rfl (lv_at hl 0 rfl) ?_
  refine lv_aload_n hx hb dX8_blowsOver_1 rfl (lv_at hl 1 rfl) ?_
  obtain ⟨u1, e2, h⟩ := k_bd h
  refine wr_callv (va_runV (As := [.ref (ad 19)]) (rest := []) C0.1 (kX8_weighHolds_20 l (D := D) (cI := cI) (cB := cB) (cZ := cZ) (τ := τ) hap σ  _ e2) (wX8_blowsOver_X8_weighHolds hts ⟨Nat.le_of_ble_eq_true rfl, Nat.le_of_ble_eq_true rfl⟩) ⟨PW.blind, cw_r35 hK hP, PW.mk hP hK hN⟩ rfl rfl hl.1 rfl (lv_room (Nat.le_of_ble_eq_true rfl)) dX8_blowsOver_2 ⟨Nat.zero_le _, Nat.zero_le _⟩) hS (fun _ h => h) (fun H locs hP hS => ?_)
  have hP : va_P D vwCl (CW cI ad τ u1) H := hP
  refine lv_iconst (v := 0) hx hb dX8_blowsOver_5 (by decide) ?_
  refine lv_istore (lv' := [(4, .int 0), (0, .ref (ad 35)), (1, .ref (ad 19)), (2, .int x2), (3, .int x3)]) hx hb dX8_blowsOver_6 hl (by decide) rfl (fun ls hl => ?_)
  refine lv_iconst (v := 0) hx hb dX8_blowsOver_8 (by decide) ?_
  refine lv_istore (lv' := [(5, .int 0), (4, .int 0), (0, .ref (ad 35)), (1, .ref (ad 19)), (2, .int x2), (3, .int x3)]) hx hb dX8_blowsOver_9 hl (by decide) rfl (fun ls hl => ?_)
  obtain ⟨w11, e12, h⟩ := k_bd h
  refine bX8_blowsOver_L11_20 C0 hK hN hap x2 x3 2000 0 0 u1 _ _ _ ls hP hS (lv_sub hl [2, 3, 4, 5, 1, 0] rfl) e12 (fun H locs ls hP hS hl => ?_)
  refine lv_iload hx hb dX8_blowsOver_112 (lv_at hl 0 rfl) ?_
  obtain rfl := k_sm h
  exact W.iret hx hb hr (fun t ht hW => ⟨⟨_, _, rfl, ⟨rfl, rfl⟩, pw_end ht hP⟩, hS.F ht⟩) hS.2.2 dX8_blowsOver_114
set_option maxHeartbeats 4000000 in
set_option maxRecDepth 100000 in
theorem bX8_blowsOver_L11_37 {p : Program} {l : Launch} {e : Env} {s : State} {m : MethodId} {args : Array Value} {below : List Frame} {meth : Method} {c : Code} {Q : State → Prop} {D : va_G} {cI cB cZ : ClassId} {ad : Nat → Nat} (C0 : Cx p s m args meth c cX8_blowsOver 8 (some .int) RX8 wsX8_blowsOver) (hK : va_K D vwCl (tysA cI cB cZ) s) (hN : NW s) (hap : cwX ad) {τ : Int64} (x2 : Int32) (x3 : Int32) : ∀ (n : Nat) (x4 : Int32) (x5 : Int32) (σ : Sg) (v : (Int32 × Sg)) (H : Heap) (locs : List Loc) (ls : Array Slot), va_P D vwCl (CW cI ad τ σ) H → va_S (cwA ad) s.heap H locs → lv_has ls 8 [(0, .ref (ad 35)), (1, .ref (ad 36)), (2, .int x2), (3, .int x3), (4, .int x4), (5, .int x5)] → pX8_blowsOver_L11 37 x2 x3 n x4 x5 σ = some v → (∀ (H1 : Heap) (locs1 : List Loc) (ls1 : Array Slot), va_P D vwCl (CW cI ad τ v.2) H1 → va_S (cwA ad) s.heap H1 locs1 → lv_has ls1 8 [(4, .int v.1)] → W p l e rmX8_blowsOver s m args below meth c H1 locs1 0 0 Q (F0 m 112 ls1 [])) → W p l e rmX8_blowsOver s m args below meth c H locs 0 0 Q (F0 m 11 ls []) := by
  obtain ⟨⟨hx, hb, hml, hown, hts⟩, hr, hlk⟩ := id C0
  intro n
  induction n with
  | zero =>
    intro x4 x5 σ v H locs ls hP hS hl h kk
    exact absurd h (by simp [pX8_blowsOver_L11])
  | succ n ih =>
    intro x4 x5 σ v H locs ls hP hS hl h kk
    rw [pX8_blowsOver_L11] at h
    refine lv_iload hx hb dX8_blowsOver_11 (lv_at hl 5 rfl) ?_
    refine lv_aload_n hx hb dX8_blowsOver_13 rfl (lv_at hl 0 rfl) ?_
    refine va_get (D := D) (ci := 8) (v := .ref (ad 1)) (C := RX8) (T := TX8) (N := 4) hx hb hts iX8_blowsOver_X8 hown hK hP 35 cw_35 rfl 0 (by decide) (hts (.fieldLink RX8 22 RX8 "told" "LAnchorWills$Told;") (by decide +kernel)) (fun _ h9 => h9) rfl dX8_blowsOver_14 ?_
    refine va_getN (D := D) (ci := 9) (v := .int (σ 1 8)) (C := RX9) (T := TX9) (N := 10) hx hb hts iX8_blowsOver_X9 hown hK hP 1 cw_1 rfl 8 (by decide) (va_Nw.use rfl (nf_X8_45 hN)) (fun _ h9 => h9) rfl dX8_blowsOver_17 ?_
    refine lv_icmp_ge (tgt := 112) hx hb dX8_blowsOver_20 (by decide) (fun c20 => ?_) (fun c20 => ?_)
    · replace h := k_ip c20 h
      obtain rfl := k_sm h
      exact kk _ _ _ hP hS (lv_sub hl [4] rfl)
    · replace h := k_in c20 h
      refine lv_aload_n hx hb dX8_blowsOver_23 rfl (lv_at hl 1 rfl) ?_
      refine lv_iconst (v := 0) hx hb dX8_blowsOver_24 (by decide) ?_
      refine lv_iload hx hb dX8_blowsOver_25 (lv_at hl 5 rfl) ?_
      refine rd_calli (va_runVN (As := [.int 0, .int x5]) (rest := []) C0.1 (kX5_get_37 l (D := D) (cI := cI) (cB := cB) (cZ := cZ) (ad := ad) (τ := τ) σ 0 x5) (wX8_blowsOver_X5_get hts hN ⟨Nat.le_of_ble_eq_true rfl, Nat.le_of_ble_eq_true rfl⟩) ⟨PW.blind, cw_r36 hK hP, PW.mk hP hK hN⟩ rfl rfl hl.1 rfl (lv_room (Nat.le_of_ble_eq_true rfl)) dX8_blowsOver_27 ⟨Nat.zero_le _, Nat.zero_le _⟩) ?_
      obtain ⟨v3, e4, h⟩ := k_bd h
      refine lv_nmi (k_sm e4) ?_
      refine lv_istore (lv' := [(6, .int v3), (0, .ref (ad 35)), (1, .ref (ad 36)), (2, .int x2), (3, .int x3), (4, .int x4), (5, .int x5)]) hx hb dX8_blowsOver_30 hl (by decide) rfl (fun ls hl => ?_)
      refine lv_aload_n hx hb dX8_blowsOver_32 rfl (lv_at hl 2 rfl) ?_
      refine lv_iload hx hb dX8_blowsOver_33 (lv_at hl 6 rfl) ?_
      refine rd_calli (va_runVN (As := [.int x5]) (rest := []) C0.1 (kX5_lies_37 l (D := D) (cI := cI) (cB := cB) (cZ := cZ) (ad := ad) (τ := τ) σ x5) (wX8_blowsOver_X5_lies hts hN ⟨Nat.le_of_ble_eq_true rfl, Nat.le_of_ble_eq_true rfl⟩) ⟨PW.blind, cw_r36 hK hP, PW.mk hP hK hN⟩ rfl rfl hl.1 rfl (lv_room (Nat.le_of_ble_eq_true rfl)) dX8_blowsOver_35 ⟨Nat.zero_le _, Nat.zero_le _⟩) ?_
      refine lv_if_eq (tgt := 106) hx hb dX8_blowsOver_38 (by decide) (fun c38 => ?_) (fun c38 => ?_)
      · replace h := k_ip c38 h
        refine lv_iinc (v := (x5 + 1)) (lv' := [(5, .int (x5 + 1)), (6, .int v3), (0, .ref (ad 35)), (1, .ref (ad 36)), (2, .int x2), (3, .int x3), (4, .int x4)]) hx hb dX8_blowsOver_106 hl (k := 6) rfl rfl (by decide) rfl (fun ls hl => ?_)
        refine lv_goto (tgt := 11) hx hb dX8_blowsOver_109 (by decide) ?_
        exact ih x4 (x5 + 1) σ _ _ _ ls hP hS (lv_sub hl [2, 3, 4, 5, 6, 0] rfl) h kk
      · replace h := k_in c38 h
        refine lv_aload_n hx hb dX8_blowsOver_41 rfl (lv_at hl 1 rfl) ?_
        refine va_get (D := D) (ci := 8) (v := .ref (ad 38)) (C := RX8) (T := TX8) (N := 4) hx hb hts iX8_blowsOver_X8 hown hK hP 35 cw_35 rfl 3 (by decide) (hts (.fieldLink RX8 18 RX8 "holds" "[I") (by decide +kernel)) (fun _ h9 => h9) rfl dX8_blowsOver_42 ?_
        refine lv_iload hx hb dX8_blowsOver_45 (lv_at hl 0 rfl) ?_
        refine rd_calli (va_runSN (As := [.ref (ad 38), .int v3]) (rest := []) C0.1 (kX10_at l (ad 38) 10 (σ 38) v3 (by decide)) (wX8_blowsOver_X10_at hts hN ⟨Nat.le_of_ble_eq_true rfl, Nat.le_of_ble_eq_true rfl⟩) ⟨PAt.blind, PAt.mk (cw_t38 hK hP)⟩ rfl rfl hl.1 rfl (lv_room (Nat.le_of_ble_eq_true rfl)) dX8_blowsOver_47 ⟨Nat.zero_le _, Nat.zero_le _⟩) ?_
        refine lv_iload_n hx hb dX8_blowsOver_50 rfl (lv_at hl 3 rfl) ?_
        refine lv_icmp_ge (tgt := 106) hx hb dX8_blowsOver_51 (by decide) (fun c51 => ?_) (fun c51 => ?_)
        · replace h := k_ip c51 h
          refine lv_iinc (v := (x5 + 1)) (lv' := [(5, .int (x5 + 1)), (6, .int v3), (0, .ref (ad 35)), (1, .ref (ad 36)), (2, .int x2), (3, .int x3), (4, .int x4)]) hx hb dX8_blowsOver_106 hl (k := 6) rfl rfl (by decide) rfl (fun ls hl => ?_)
          refine lv_goto (tgt := 11) hx hb dX8_blowsOver_109 (by decide) ?_
          exact ih x4 (x5 + 1) σ _ _ _ ls hP hS (lv_sub hl [2, 3, 4, 5, 6, 0] rfl) h kk
        · replace h := k_in c51 h
          refine lv_iload_n hx hb dX8_blowsOver_54 rfl (lv_at hl 4 rfl) ?_
          obtain ⟨j5, e6, h⟩ := k_bd h
          have key : ∀ (H : Heap) (locs : List Loc) (ls : Array Slot), va_P D vwCl (CW cI ad τ σ) H → va_S (cwA ad) s.heap H locs → lv_has ls 8 [(0, .ref (ad 35)), (1, .ref (ad 36)), (2, .int x2), (3, .int x3), (4, .int x4), (5, .int x5)] → W p l e rmX8_blowsOver s m args below meth c H locs 0 0 Q (F0 m 69 ls [.int j5]) := by
            intro H locs ls hP hS hl
            refine lv_istore (lv' := [(7, .int j5), (0, .ref (ad 35)), (1, .ref (ad 36)), (2, .int x2), (3, .int x3), (4, .int x4), (5, .int x5)]) hx hb dX8_blowsOver_69 hl (by decide) rfl (fun ls hl => ?_)
            refine lv_iload hx hb dX8_blowsOver_71 (lv_at hl 0 rfl) ?_
            refine lv_iconst (v := 0) hx hb dX8_blowsOver_73 (by decide) ?_
            refine lv_bipush (v := 9) hx hb dX8_blowsOver_74 (by decide) ?_
            refine rd_calli (va_runSN (As := [.int j5, .int 0, .int 9]) (rest := []) C0.1 (kX10_isOutside l j5 0 9) (wX8_blowsOver_X10_isOutside hts hN ⟨Nat.le_of_ble_eq_true rfl, Nat.le_of_ble_eq_true rfl⟩) ⟨PT.blind, fun _ _ _ => ⟨rfl, trivial⟩⟩ rfl rfl hl.1 rfl (lv_room (Nat.le_of_ble_eq_true rfl)) dX8_blowsOver_76 ⟨Nat.zero_le _, Nat.zero_le _⟩) ?_
            refine lv_if_eq (tgt := 97) hx hb dX8_blowsOver_79 (by decide) (fun c79 => ?_) (fun c79 => ?_)
            · replace h := k_ip c79 h
              refine lv_aload_n hx hb dX8_blowsOver_97 rfl (lv_at hl 2 rfl) ?_
              refine lv_iconst (v := 0) hx hb dX8_blowsOver_98 (by decide) ?_
              refine lv_iload hx hb dX8_blowsOver_99 (lv_at hl 6 rfl) ?_
              refine lv_iload hx hb dX8_blowsOver_101 (lv_at hl 0 rfl) ?_
              obtain ⟨u7, e8, h⟩ := k_bd h
              refine wr_callv (va_runVN (As := [.int 0, .int x5, .int j5]) (rest := []) C0.1 (kX5_set_37 l (D := D) (cI := cI) (cB := cB) (cZ := cZ) (τ := τ) hap σ 0 x5 j5 _ e8) (wX8_blowsOver_X5_set hts hN ⟨Nat.le_of_ble_eq_true rfl, Nat.le_of_ble_eq_true rfl⟩) ⟨PW.blind, cw_r36 hK hP, PW.mk hP hK hN⟩ rfl rfl hl.1 rfl (lv_room (Nat.le_of_ble_eq_true rfl)) dX8_blowsOver_103 ⟨Nat.zero_le _, Nat.zero_le _⟩) hS (fun _ h => h) (fun H locs hP hS => ?_)
              have hP : va_P D vwCl (CW cI ad τ u7) H := hP
              refine lv_iinc (v := (x5 + 1)) (lv' := [(5, .int (x5 + 1)), (7, .int j5), (0, .ref (ad 35)), (1, .ref (ad 36)), (2, .int x2), (3, .int x3), (4, .int x4)]) hx hb dX8_blowsOver_106 hl (k := 6) rfl rfl (by decide) rfl (fun ls hl => ?_)
              refine lv_goto (tgt := 11) hx hb dX8_blowsOver_109 (by decide) ?_
              exact ih x4 (x5 + 1) u7 _ _ _ ls hP hS (lv_sub hl [2, 3, 4, 5, 6, 0] rfl) h kk
            · replace h := k_in c79 h
              refine lv_aload_n hx hb dX8_blowsOver_82 rfl (lv_at hl 2 rfl) ?_
              refine lv_bipush (v := 24) hx hb dX8_blowsOver_83 (by decide) ?_
              refine lv_iload hx hb dX8_blowsOver_85 (lv_at hl 6 rfl) ?_
              refine lv_iconst (v := 2) hx hb dX8_blowsOver_87 (by decide) ?_
              obtain ⟨u9, e10, h⟩ := k_bd h
              refine wr_callv (va_runVN (As := [.int 24, .int x5, .int 2]) (rest := []) C0.1 (kX5_set_37 l (D := D) (cI := cI) (cB := cB) (cZ := cZ) (τ := τ) hap σ 24 x5 2 _ e10) (wX8_blowsOver_X5_set hts hN ⟨Nat.le_of_ble_eq_true rfl, Nat.le_of_ble_eq_true rfl⟩) ⟨PW.blind, cw_r36 hK hP, PW.mk hP hK hN⟩ rfl rfl hl.1 rfl (lv_room (Nat.le_of_ble_eq_true rfl)) dX8_blowsOver_88 ⟨Nat.zero_le _, Nat.zero_le _⟩) hS (fun _ h => h) (fun H locs hP hS => ?_)
              have hP : va_P D vwCl (CW cI ad τ u9) H := hP
              refine lv_iinc (v := (x4 + 1)) (lv' := [(4, .int (x4 + 1)), (7, .int j5), (0, .ref (ad 35)), (1, .ref (ad 36)), (2, .int x2), (3, .int x3), (5, .int x5)]) hx hb dX8_blowsOver_91 hl (k := 5) rfl rfl (by decide) rfl (fun ls hl => ?_)
              refine lv_goto (tgt := 106) hx hb dX8_blowsOver_94 (by decide) ?_
              refine lv_iinc (v := (x5 + 1)) (lv' := [(5, .int (x5 + 1)), (4, .int (x4 + 1)), (7, .int j5), (0, .ref (ad 35)), (1, .ref (ad 36)), (2, .int x2), (3, .int x3)]) hx hb dX8_blowsOver_106 hl (k := 6) rfl rfl (by decide) rfl (fun ls hl => ?_)
              refine lv_goto (tgt := 11) hx hb dX8_blowsOver_109 (by decide) ?_
              exact ih (x4 + 1) (x5 + 1) u9 _ _ _ ls hP hS (lv_sub hl [3, 4, 5, 6, 1, 0] rfl) h kk
          clear h
          have h := e6
          clear e6
          refine lv_if_ne (tgt := 65) hx hb dX8_blowsOver_55 (by decide) (fun c55 => ?_) (fun c55 => ?_)
          · replace h := k_in c55 h
            refine lv_iload hx hb dX8_blowsOver_65 (lv_at hl 0 rfl) ?_
            refine lv_iconst (v := 1) hx hb dX8_blowsOver_67 (by decide) ?_
            refine lv_iadd hx hb dX8_blowsOver_68 ?_
            obtain rfl := k_sm h
            exact key _ _ _ hP hS (lv_sub hl [1, 2, 3, 4, 5, 6] rfl)
          · replace h := k_ip c55 h
            refine lv_iload hx hb dX8_blowsOver_58 (lv_at hl 0 rfl) ?_
            refine lv_iconst (v := 1) hx hb dX8_blowsOver_60 (by decide) ?_
            refine lv_isub hx hb dX8_blowsOver_61 ?_
            refine lv_goto (tgt := 69) hx hb dX8_blowsOver_62 (by decide) ?_
            obtain rfl := k_sm h
            exact key _ _ _ hP hS (lv_sub hl [1, 2, 3, 4, 5, 6] rfl)
set_option maxHeartbeats 4000000 in
set_option maxRecDepth 100000 in
theorem kX8_blowsOver_37 (l : Launch) {D : va_G} {cI cB cZ : ClassId} {ad : Nat → Nat} {τ : Int64} (hap : cwX ad) (σ : Sg) (x2 : Int32) (x3 : Int32) (o : (Int32 × Sg)) (h : pX8_blowsOver 37 σ x2 x3 = some o) : Met l yX8_blowsOver wsX8_blowsOver rmX8_blowsOver (va_Pc [.ref (ad 35), .ref (ad 36), .int x2, .int x3] (PW D cI cB cZ (CW cI ad τ σ))) (QI D (CW cI ad τ) (cwA ad) o.1 o.2) 0 0 (cwA ad) := by
  refine Met.ofW (cc := cX8_blowsOver) (maxL := 8) (ret := (some .int)) (by decide) rfl ?_
  intro p e s m args below meth c s₁ B hml hv
  obtain ⟨rfl, hP, hK, hN⟩ := hv
  have C0 : Cx p s m _ meth c cX8_blowsOver 8 (some .int) RX8 wsX8_blowsOver := ⟨⟨B.exec, B.bytes, hml, findClass_of_methodNamed B.named, atoms_spec B.pre⟩, B.returns, B.notSynchronized⟩
  obtain ⟨⟨hx, hb, -, hown, hts⟩, hr, hlk⟩ := id C0
  have hS : va_S (cwA ad) s.heap s.heap [] := va_S.rf
  have hl := lv_entry ([.ref (ad 35), .ref (ad 36), .int x2, .int x3]) (n := 8) (Nat.le_of_ble_eq_true rfl)
  rw [lg_entry_eq]
  generalize (lg_sl ([.ref (ad 35), .ref (ad 36), .int x2, .int x3]) ++ List.replicate (8 - (lg_sl ([.ref (ad 35), .ref (ad 36), .int x2, .int x3])).length) Slot.unset).toArray = ls at hl ⊢
  have hl : lv_has ls 8 [(0, .ref (ad 35)), (1, .ref (ad 36)), (2, .int x2), (3, .int x3)] := hl
  rw [pX8_blowsOver] at h
  refine lv_aload_n hx hb dX8_blowsOver_0 rfl (lv_at hl 0 rfl) ?_
  refine lv_aload_n hx hb dX8_blowsOver_1 rfl (lv_at hl 1 rfl) ?_
  obtain ⟨u1, e2, h⟩ := k_bd h
  refine wr_callv (va_runV (As := [.ref (ad 36)]) (rest := []) C0.1 (kX8_weighHolds_37 l (D := D) (cI := cI) (cB := cB) (cZ := cZ) (τ := τ) hap σ  _ e2) (wX8_blowsOver_X8_weighHolds hts ⟨Nat.le_of_ble_eq_true rfl, Nat.le_of_ble_eq_true rfl⟩) ⟨PW.blind, cw_r35 hK hP, PW.mk hP hK hN⟩ rfl rfl hl.1 rfl (lv_room (Nat.le_of_ble_eq_true rfl)) dX8_blowsOver_2 ⟨Nat.zero_le _, Nat.zero_le _⟩) hS (fun _ h => h) (fun H locs hP hS => ?_)
  have hP : va_P D vwCl (CW cI ad τ u1) H := hP
  refine lv_iconst (v := 0) hx hb dX8_blowsOver_5 (by decide) ?_
  refine lv_istore (lv' := [(4, .int 0), (0, .ref (ad 35)), (1, .ref (ad 36)), (2, .int x2), (3, .int x3)]) hx hb dX8_blowsOver_6 hl (by decide) rfl (fun ls hl => ?_)
  refine lv_iconst (v := 0) hx hb dX8_blowsOver_8 (by decide) ?_
  refine lv_istore (lv' := [(5, .int 0), (4, .int 0), (0, .ref (ad 35)), (1, .ref (ad 36)), (2, .int x2), (3, .int x3)]) hx hb dX8_blowsOver_9 hl (by decide) rfl (fun ls hl => ?_)
  obtain ⟨w11, e12, h⟩ := k_bd h
  refine bX8_blowsOver_L11_37 C0 hK hN hap x2 x3 2000 0 0 u1 _ _ _ ls hP hS (lv_sub hl [2, 3, 4, 5, 1, 0] rfl) e12 (fun H locs ls hP hS hl => ?_)
  refine lv_iload hx hb dX8_blowsOver_112 (lv_at hl 0 rfl) ?_
  obtain rfl := k_sm h
  exact W.iret hx hb hr (fun t ht hW => ⟨⟨_, _, rfl, ⟨rfl, rfl⟩, pw_end ht hP⟩, hS.F ht⟩) hS.2.2 dX8_blowsOver_114
set_option maxHeartbeats 4000000 in
set_option maxRecDepth 100000 in
theorem bX2_mayHaul_L46 {p : Program} {l : Launch} {e : Env} {s : State} {m : MethodId} {args : Array Value} {below : List Frame} {meth : Method} {c : Code} {D : va_G} {cI cB cZ : ClassId} {ad : Nat → Nat} (C0 : Cx p s m args meth c cX2_mayHaul 6 (some .boolean) RX2 wsX2_mayHaul) (hK : va_K D vwCl (tysA cI cB cZ) s) (hN : NW s) {τ : Int64} {σ : Sg} (hP : va_P D vwCl (CW cI ad τ σ) s.heap) (x1 : Int32) (x3 : Int32) : ∀ (n : Nat) (x4 : Int32) (o : Int32) (ls : Array Slot), lv_has ls 6 [(0, .ref (ad 42)), (1, .int x1), (3, .int x3), (4, .int x4)] → pX2_mayHaul_L46 σ x1 x3 n x4 = some o → W p l e rmX2_mayHaul s m args below meth c s.heap [] 0 0 (MQ below (QcRead o) args s 0 0 (fun _ => False)) (F0 m 46 ls []) := by
  obtain ⟨⟨hx, hb, hml, hown, hts⟩, hr, hlk⟩ := id C0
  intro n
  induction n with
  | zero =>
    intro x4 o ls hl h
    exact absurd h (by simp [pX2_mayHaul_L46])
  | succ n ih =>
    intro x4 o ls hl h
    rw [pX2_mayHaul_L46] at h
    refine lv_iload hx hb dX2_mayHaul_46 (lv_at hl 3 rfl) ?_
    refine lv_aload_n hx hb dX2_mayHaul_48 rfl (lv_at hl 0 rfl) ?_
    refine va_get (D := D) (ci := 2) (v := .ref (ad 1)) (C := RX2) (T := TX2) (N := 2) hx hb hts iX2_mayHaul_X2 hown hK hP 42 cw_42 rfl 0 (by decide) (hts (.fieldLink RX2 9 RX2 "told" "LAnchorWills$Told;") (by decide +kernel)) (fun _ h9 => h9) rfl dX2_mayHaul_49 ?_
    refine va_getN (D := D) (ci := 9) (v := .int (σ 1 8)) (C := RX9) (T := TX9) (N := 10) hx hb hts iX2_mayHaul_X9 hown hK hP 1 cw_1 rfl 8 (by decide) (va_Nw.use rfl (nf_X2_58 hN)) (fun _ h9 => h9) rfl dX2_mayHaul_52 ?_
    refine lv_icmp_ge (tgt := 96) hx hb dX2_mayHaul_55 (by decide) (fun c55 => ?_) (fun c55 => ?_)
    · replace h := k_ip c55 h
      refine lv_iconst (v := 1) hx hb dX2_mayHaul_96 (by decide) ?_
      obtain rfl := k_sm h
      exact W.zret hx hb hr rfl (fun t ht hW => ⟨rfl, ht⟩) (fun _ h => by cases h) dX2_mayHaul_97
    · replace h := k_in c55 h
      refine lv_aload_n hx hb dX2_mayHaul_58 rfl (lv_at hl 0 rfl) ?_
      refine lv_iload hx hb dX2_mayHaul_59 (lv_at hl 3 rfl) ?_
      obtain ⟨v5, e6, h⟩ := k_bd h
      refine rd_calli (va_runV (As := [.int x4]) (rest := []) C0.1 (kX2_whoseIs l (D := D) (cI := cI) (cB := cB) (cZ := cZ) (ad := ad) (τ := τ) σ x4 _ e6) (wX2_mayHaul_X2_whoseIs hts ⟨Nat.le_of_ble_eq_true rfl, Nat.le_of_ble_eq_true rfl⟩) ⟨PW.blind, cw_r42 hK hP, PW.mk hP hK hN⟩ rfl rfl hl.1 rfl (lv_room (Nat.le_of_ble_eq_true rfl)) dX2_mayHaul_61 ⟨Nat.zero_le _, Nat.zero_le _⟩) ?_
      refine lv_istore (lv' := [(5, .int v5), (0, .ref (ad 42)), (1, .int x1), (3, .int x3), (4, .int x4)]) hx hb dX2_mayHaul_64 hl (by decide) rfl (fun ls hl => ?_)
      refine lv_iload_n hx hb dX2_mayHaul_66 rfl (lv_at hl 3 rfl) ?_
      refine lv_iload hx hb dX2_mayHaul_67 (lv_at hl 4 rfl) ?_
      refine rd_calli (va_runSN (As := [.int x3, .int x4]) (rest := []) C0.1 (kX10_has l x3 x4) (wX2_mayHaul_X10_has hts hN ⟨Nat.le_of_ble_eq_true rfl, Nat.le_of_ble_eq_true rfl⟩) ⟨PT.blind, fun _ _ _ => ⟨rfl, trivial⟩⟩ rfl rfl hl.1 rfl (lv_room (Nat.le_of_ble_eq_true rfl)) dX2_mayHaul_69 ⟨Nat.zero_le _, Nat.zero_le _⟩) ?_
      refine lv_if_eq (tgt := 90) hx hb dX2_mayHaul_72 (by decide) (fun c72 => ?_) (fun c72 => ?_)
      · replace h := k_ip c72 h
        refine lv_iinc (v := (x4 + 1)) (lv' := [(4, .int (x4 + 1)), (5, .int v5), (0, .ref (ad 42)), (1, .int x1), (3, .int x3)]) hx hb dX2_mayHaul_90 hl (k := 4) rfl rfl (by decide) rfl (fun ls hl => ?_)
        refine lv_goto (tgt := 46) hx hb dX2_mayHaul_93 (by decide) ?_
        exact ih (x4 + 1) _ ls (lv_sub hl [2, 3, 4, 0] rfl) h
      · replace h := k_in c72 h
        refine lv_iload hx hb dX2_mayHaul_75 (lv_at hl 0 rfl) ?_
        refine lv_iload_n hx hb dX2_mayHaul_77 rfl (lv_at hl 2 rfl) ?_
        refine lv_icmp_eq (tgt := 90) hx hb dX2_mayHaul_78 (by decide) (fun c78 => ?_) (fun c78 => ?_)
        · replace h := k_ip c78 h
          refine lv_iinc (v := (x4 + 1)) (lv' := [(4, .int (x4 + 1)), (5, .int v5), (0, .ref (ad 42)), (1, .int x1), (3, .int x3)]) hx hb dX2_mayHaul_90 hl (k := 4) rfl rfl (by decide) rfl (fun ls hl => ?_)
          refine lv_goto (tgt := 46) hx hb dX2_mayHaul_93 (by decide) ?_
          exact ih (x4 + 1) _ ls (lv_sub hl [2, 3, 4, 0] rfl) h
        · replace h := k_in c78 h
          refine lv_iload hx hb dX2_mayHaul_81 (lv_at hl 0 rfl) ?_
          refine lv_bipush (v := (-9)) hx hb dX2_mayHaul_83 (by decide) ?_
          refine lv_icmp_eq (tgt := 90) hx hb dX2_mayHaul_85 (by decide) (fun c85 => ?_) (fun c85 => ?_)
          · replace h := k_ip c85 h
            refine lv_iinc (v := (x4 + 1)) (lv' := [(4, .int (x4 + 1)), (5, .int v5), (0, .ref (ad 42)), (1, .int x1), (3, .int x3)]) hx hb dX2_mayHaul_90 hl (k := 4) rfl rfl (by decide) rfl (fun ls hl => ?_)
            refine lv_goto (tgt := 46) hx hb dX2_mayHaul_93 (by decide) ?_
            exact ih (x4 + 1) _ ls (lv_sub hl [2, 3, 4, 0] rfl) h
          · replace h := k_in c85 h
            refine lv_iconst (v := 0) hx hb dX2_mayHaul_88 (by decide) ?_
            obtain rfl := k_sm h
            exact W.zret hx hb hr rfl (fun t ht hW => ⟨rfl, ht⟩) (fun _ h => by cases h) dX2_mayHaul_89
set_option maxHeartbeats 4000000 in
set_option maxRecDepth 100000 in
theorem kX2_mayHaul (l : Launch) {D : va_G} {cI cB cZ : ClassId} {ad : Nat → Nat} {τ : Int64} (σ : Sg) (x1 : Int32) (x2 : Int32) (o : Int32) (h : pX2_mayHaul σ x1 x2 = some o) : Met l yX2_mayHaul wsX2_mayHaul rmX2_mayHaul (va_Pc [.ref (ad 42), .int x1, .int x2] (PW D cI cB cZ (CW cI ad τ σ))) (QcRead o) 0 0 (fun _ => False) := by
  refine Met.ofW (cc := cX2_mayHaul) (maxL := 6) (ret := (some .boolean)) (by decide) rfl ?_
  intro p e s m args below meth c s₁ B hml hv
  obtain ⟨rfl, hP, hK, hN⟩ := hv
  have C0 : Cx p s m _ meth c cX2_mayHaul 6 (some .boolean) RX2 wsX2_mayHaul := ⟨⟨B.exec, B.bytes, hml, findClass_of_methodNamed B.named, atoms_spec B.pre⟩, B.returns, B.notSynchronized⟩
  obtain ⟨⟨hx, hb, -, hown, hts⟩, hr, hlk⟩ := id C0
  have hl := lv_entry ([.ref (ad 42), .int x1, .int x2]) (n := 6) (Nat.le_of_ble_eq_true rfl)
  rw [lg_entry_eq]
  generalize (lg_sl ([.ref (ad 42), .int x1, .int x2]) ++ List.replicate (6 - (lg_sl ([.ref (ad 42), .int x1, .int x2])).length) Slot.unset).toArray = ls at hl ⊢
  have hl : lv_has ls 6 [(0, .ref (ad 42)), (1, .int x1), (2, .int x2)] := hl
  rw [pX2_mayHaul] at h
  refine lv_aload_n hx hb dX2_mayHaul_0 rfl (lv_at hl 0 rfl) ?_
  refine va_get (D := D) (ci := 2) (v := .ref (ad 19)) (C := RX2) (T := TX2) (N := 2) hx hb hts iX2_mayHaul_X2 hown hK hP 42 cw_42 rfl 1 (by decide) (hts (.fieldLink RX2 15 RX2 "now" "LAnchorWills$Now;") (by decide +kernel)) (fun _ h9 => h9) rfl dX2_mayHaul_1 ?_
  refine lv_iload_n hx hb dX2_mayHaul_4 rfl (lv_at hl 2 rfl) ?_
  refine rd_calli (va_runVN (As := [.int x2]) (rest := []) C0.1 (kX5_lies_20 l (D := D) (cI := cI) (cB := cB) (cZ := cZ) (ad := ad) (τ := τ) σ x2) (wX2_mayHaul_X5_lies hts hN ⟨Nat.le_of_ble_eq_true rfl, Nat.le_of_ble_eq_true rfl⟩) ⟨PW.blind, cw_r19 hK hP, PW.mk hP hK hN⟩ rfl rfl hl.1 rfl (lv_room (Nat.le_of_ble_eq_true rfl)) dX2_mayHaul_5 ⟨Nat.zero_le _, Nat.zero_le _⟩) ?_
  refine lv_if_eq (tgt := 20) hx hb dX2_mayHaul_8 (by decide) (fun c8 => ?_) (fun c8 => ?_)
  · replace h := k_ip c8 h
    refine lv_iconst (v := 0) hx hb dX2_mayHaul_20 (by decide) ?_
    obtain rfl := k_sm h
    exact W.zret hx hb hr rfl (fun t ht hW => ⟨rfl, ht⟩) (fun _ h => by cases h) dX2_mayHaul_21
  · replace h := k_in c8 h
    refine lv_aload_n hx hb dX2_mayHaul_11 rfl (lv_at hl 0 rfl) ?_
    refine lv_iload_n hx hb dX2_mayHaul_12 rfl (lv_at hl 2 rfl) ?_
    obtain ⟨v1, e2, h⟩ := k_bd h
    refine rd_calli (va_runV (As := [.int x2]) (rest := []) C0.1 (kX2_whoseIs l (D := D) (cI := cI) (cB := cB) (cZ := cZ) (ad := ad) (τ := τ) σ x2 _ e2) (wX2_mayHaul_X2_whoseIs hts ⟨Nat.le_of_ble_eq_true rfl, Nat.le_of_ble_eq_true rfl⟩) ⟨PW.blind, cw_r42 hK hP, PW.mk hP hK hN⟩ rfl rfl hl.1 rfl (lv_room (Nat.le_of_ble_eq_true rfl)) dX2_mayHaul_13 ⟨Nat.zero_le _, Nat.zero_le _⟩) ?_
    refine lv_iload_n hx hb dX2_mayHaul_16 rfl (lv_at hl 1 rfl) ?_
    refine lv_icmp_eq (tgt := 22) hx hb dX2_mayHaul_17 (by decide) (fun c17 => ?_) (fun c17 => ?_)
    · replace h := k_ip c17 h
      refine lv_aload_n hx hb dX2_mayHaul_22 rfl (lv_at hl 0 rfl) ?_
      refine va_get (D := D) (ci := 2) (v := .ref (ad 1)) (C := RX2) (T := TX2) (N := 2) hx hb hts iX2_mayHaul_X2 hown hK hP 42 cw_42 rfl 0 (by decide) (hts (.fieldLink RX2 9 RX2 "told" "LAnchorWills$Told;") (by decide +kernel)) (fun _ h9 => h9) rfl dX2_mayHaul_23 ?_
      refine lv_aload_n hx hb dX2_mayHaul_26 rfl (lv_at hl 0 rfl) ?_
      refine va_get (D := D) (ci := 2) (v := .ref (ad 19)) (C := RX2) (T := TX2) (N := 2) hx hb hts iX2_mayHaul_X2 hown hK hP 42 cw_42 rfl 1 (by decide) (hts (.fieldLink RX2 15 RX2 "now" "LAnchorWills$Now;") (by decide +kernel)) (fun _ h9 => h9) rfl dX2_mayHaul_27 ?_
      refine lv_aload_n hx hb dX2_mayHaul_30 rfl (lv_at hl 0 rfl) ?_
      refine va_get (D := D) (ci := 2) (v := .ref (ad 19)) (C := RX2) (T := TX2) (N := 2) hx hb hts iX2_mayHaul_X2 hown hK hP 42 cw_42 rfl 1 (by decide) (hts (.fieldLink RX2 15 RX2 "now" "LAnchorWills$Now;") (by decide +kernel)) (fun _ h9 => h9) rfl dX2_mayHaul_31 ?_
      refine lv_iconst (v := 0) hx hb dX2_mayHaul_34 (by decide) ?_
      refine lv_iload_n hx hb dX2_mayHaul_35 rfl (lv_at hl 2 rfl) ?_
      refine rd_calli (va_runVN (As := [.int 0, .int x2]) (rest := [.ref (ad 19), .ref (ad 1)]) C0.1 (kX5_get_20 l (D := D) (cI := cI) (cB := cB) (cZ := cZ) (ad := ad) (τ := τ) σ 0 x2) (wX2_mayHaul_X5_get hts hN ⟨Nat.le_of_ble_eq_true rfl, Nat.le_of_ble_eq_true rfl⟩) ⟨PW.blind, cw_r19 hK hP, PW.mk hP hK hN⟩ rfl rfl hl.1 rfl (lv_room (Nat.le_of_ble_eq_true rfl)) dX2_mayHaul_36 ⟨Nat.zero_le _, Nat.zero_le _⟩) ?_
      obtain ⟨v3, e4, h⟩ := k_bd h
      refine rd_calli (va_runSN (As := [.ref (ad 1), .ref (ad 19), .int (pX5_get 20 σ 0 x2)]) (rest := []) C0.1 (kX10_lyingIn_20 l (D := D) (cI := cI) (cB := cB) (cZ := cZ) (ad := ad) (τ := τ) σ (pX5_get 20 σ 0 x2) _ e4) (wX2_mayHaul_X10_lyingIn hts hN ⟨Nat.le_of_ble_eq_true rfl, Nat.le_of_ble_eq_true rfl⟩) ⟨PW.blind, PW.mk hP hK hN⟩ rfl rfl hl.1 rfl (lv_room (Nat.le_of_ble_eq_true rfl)) dX2_mayHaul_39 ⟨Nat.zero_le _, Nat.zero_le _⟩) ?_
      refine lv_istore_n (lv' := [(3, .int v3), (0, .ref (ad 42)), (1, .int x1), (2, .int x2)]) hx hb dX2_mayHaul_42 rfl hl (by decide) rfl (fun ls hl => ?_)
      refine lv_iconst (v := 0) hx hb dX2_mayHaul_43 (by decide) ?_
      refine lv_istore (lv' := [(4, .int 0), (3, .int v3), (0, .ref (ad 42)), (1, .int x1), (2, .int x2)]) hx hb dX2_mayHaul_44 hl (by decide) rfl (fun ls hl => ?_)
      exact bX2_mayHaul_L46 C0 hK hN hP x1 v3 2000 0 _ ls (lv_sub hl [2, 3, 1, 0] rfl) h
    · replace h := k_in c17 h
      refine lv_iconst (v := 0) hx hb dX2_mayHaul_20 (by decide) ?_
      obtain rfl := k_sm h
      exact W.zret hx hb hr rfl (fun t ht hW => ⟨rfl, ht⟩) (fun _ h => by cases h) dX2_mayHaul_21
set_option maxHeartbeats 4000000 in
set_option maxRecDepth 100000 in
theorem bX2_wealthOfAll_L4 {p : Program} {l : Launch} {e : Env} {s : State} {m : MethodId} {args : Array Value} {below : List Frame} {meth : Method} {c : Code} {Q : State → Prop} {D : va_G} {cI cB cZ : ClassId} {ad : Nat → Nat} (C0 : Cx p s m args meth c cX2_wealthOfAll 3 (some .int) RX2 wsX2_wealthOfAll) (hK : va_K D vwCl (tysA cI cB cZ) s) (hN : NW s) {τ : Int64} {σ : Sg} (hP : va_P D vwCl (CW cI ad τ σ) s.heap)  : ∀ (n : Nat) (x1 : Int32) (x2 : Int32) (v : Int32) (ls : Array Slot), lv_has ls 3 [(0, .ref (ad 42)), (1, .int x1), (2, .int x2)] → pX2_wealthOfAll_L4 σ n x1 x2 = some v → (∀ (ls1 : Array Slot), lv_has ls1 3 [(1, .int v)] → W p l e rmX2_wealthOfAll s m args below meth c s.heap [] 0 0 Q (F0 m 34 ls1 [])) → W p l e rmX2_wealthOfAll s m args below meth c s.heap [] 0 0 Q (F0 m 4 ls []) := by
  obtain ⟨⟨hx, hb, hml, hown, hts⟩, hr, hlk⟩ := id C0
  intro n
  induction n with
  | zero =>
    intro x1 x2 v ls hl h kk
    exact absurd h (by simp [pX2_wealthOfAll_L4])
  | succ n ih =>
    intro x1 x2 v ls hl h kk
    rw [pX2_wealthOfAll_L4] at h
    refine lv_iload_n hx hb dX2_wealthOfAll_4 rfl (lv_at hl 2 rfl) ?_
    refine lv_aload_n hx hb dX2_wealthOfAll_5 rfl (lv_at hl 0 rfl) ?_
    refine va_get (D := D) (ci := 2) (v := .ref (ad 1)) (C := RX2) (T := TX2) (N := 2) hx hb hts iX2_wealthOfAll_X2 hown hK hP 42 cw_42 rfl 0 (by decide) (hts (.fieldLink RX2 9 RX2 "told" "LAnchorWills$Told;") (by decide +kernel)) (fun _ h9 => h9) rfl dX2_wealthOfAll_6 ?_
    refine va_getN (D := D) (ci := 9) (v := .int (σ 1 7)) (C := RX9) (T := TX9) (N := 10) hx hb hts iX2_wealthOfAll_X9 hown hK hP 1 cw_1 rfl 7 (by decide) (va_Nw.use rfl (nf_X2_69 hN)) (fun _ h9 => h9) rfl dX2_wealthOfAll_9 ?_
    refine lv_icmp_ge (tgt := 34) hx hb dX2_wealthOfAll_12 (by decide) (fun c12 => ?_) (fun c12 => ?_)
    · replace h := k_ip c12 h
      obtain rfl := k_sm h
      exact kk _ (lv_sub hl [1] rfl)
    · replace h := k_in c12 h
      refine lv_iload_n hx hb dX2_wealthOfAll_15 rfl (lv_at hl 1 rfl) ?_
      refine lv_aload_n hx hb dX2_wealthOfAll_16 rfl (lv_at hl 0 rfl) ?_
      refine va_get (D := D) (ci := 2) (v := .ref (ad 19)) (C := RX2) (T := TX2) (N := 2) hx hb hts iX2_wealthOfAll_X2 hown hK hP 42 cw_42 rfl 1 (by decide) (hts (.fieldLink RX2 15 RX2 "now" "LAnchorWills$Now;") (by decide +kernel)) (fun _ h9 => h9) rfl dX2_wealthOfAll_17 ?_
      refine lv_bipush (v := 38) hx hb dX2_wealthOfAll_20 (by decide) ?_
      refine lv_iload_n hx hb dX2_wealthOfAll_22 rfl (lv_at hl 2 rfl) ?_
      refine rd_calli (va_runVN (As := [.int 38, .int x2]) (rest := [.int x1]) C0.1 (kX5_get_20 l (D := D) (cI := cI) (cB := cB) (cZ := cZ) (ad := ad) (τ := τ) σ 38 x2) (wX2_wealthOfAll_X5_get hts hN ⟨Nat.le_of_ble_eq_true rfl, Nat.le_of_ble_eq_true rfl⟩) ⟨PW.blind, cw_r19 hK hP, PW.mk hP hK hN⟩ rfl rfl hl.1 rfl (lv_room (Nat.le_of_ble_eq_true rfl)) dX2_wealthOfAll_23 ⟨Nat.zero_le _, Nat.zero_le _⟩) ?_
      refine lv_iadd hx hb dX2_wealthOfAll_26 ?_
      obtain ⟨v1, e2, h⟩ := k_bd h
      refine lv_nmi (k_sm e2) ?_
      refine lv_istore_n (lv' := [(1, .int v1), (0, .ref (ad 42)), (2, .int x2)]) hx hb dX2_wealthOfAll_27 rfl hl (by decide) rfl (fun ls hl => ?_)
      refine lv_iinc (v := (x2 + 1)) (lv' := [(2, .int (x2 + 1)), (1, .int v1), (0, .ref (ad 42))]) hx hb dX2_wealthOfAll_28 hl (k := 2) rfl rfl (by decide) rfl (fun ls hl => ?_)
      refine lv_goto (tgt := 4) hx hb dX2_wealthOfAll_31 (by decide) ?_
      exact ih v1 (x2 + 1) _ ls (lv_sub hl [2, 1, 0] rfl) h kk
set_option maxHeartbeats 4000000 in
set_option maxRecDepth 100000 in
theorem kX2_wealthOfAll (l : Launch) {D : va_G} {cI cB cZ : ClassId} {ad : Nat → Nat} {τ : Int64} (σ : Sg) (o : Int32) (h : pX2_wealthOfAll σ = some o) : Met l yX2_wealthOfAll wsX2_wealthOfAll rmX2_wealthOfAll (va_Pc [.ref (ad 42)] (PW D cI cB cZ (CW cI ad τ σ))) (QcRead o) 0 0 (fun _ => False) := by
  refine Met.ofW (cc := cX2_wealthOfAll) (maxL := 3) (ret := (some .int)) (by decide) rfl ?_
  intro p e s m args below meth c s₁ B hml hv
  obtain ⟨rfl, hP, hK, hN⟩ := hv
  have C0 : Cx p s m _ meth c cX2_wealthOfAll 3 (some .int) RX2 wsX2_wealthOfAll := ⟨⟨B.exec, B.bytes, hml, findClass_of_methodNamed B.named, atoms_spec B.pre⟩, B.returns, B.notSynchronized⟩
  obtain ⟨⟨hx, hb, -, hown, hts⟩, hr, hlk⟩ := id C0
  have hl := lv_entry ([.ref (ad 42)]) (n := 3) (Nat.le_of_ble_eq_true rfl)
  rw [lg_entry_eq]
  generalize (lg_sl ([.ref (ad 42)]) ++ List.replicate (3 - (lg_sl ([.ref (ad 42)])).length) Slot.unset).toArray = ls at hl ⊢
  have hl : lv_has ls 3 [(0, .ref (ad 42))] := hl
  rw [pX2_wealthOfAll] at h
  refine lv_iconst (v := 0) hx hb dX2_wealthOfAll_0 (by decide) ?_
  refine lv_istore_n (lv' := [(1, .int 0), (0, .ref (ad 42))]) hx hb dX2_wealthOfAll_1 rfl hl (by decide) rfl (fun ls hl => ?_)
  refine lv_iconst (v := 0) hx hb dX2_wealthOfAll_2 (by decide) ?_
  refine lv_istore_n (lv' := [(2, .int 0), (1, .int 0), (0, .ref (ad 42))]) hx hb dX2_wealthOfAll_3 rfl hl (by decide) rfl (fun ls hl => ?_)
  obtain ⟨w3, e4, h⟩ := k_bd h
  refine bX2_wealthOfAll_L4 C0 hK hN hP  2000 0 0 _ ls (lv_sub hl [2, 1, 0] rfl) e4 (fun ls hl => ?_)
  refine lv_iload_n hx hb dX2_wealthOfAll_34 rfl (lv_at hl 0 rfl) ?_
  obtain rfl := k_sm h
  exact W.iret hx hb hr (fun t ht hW => ⟨rfl, ht⟩) (fun _ h => by cases h) dX2_wealthOfAll_35
set_option maxHeartbeats 4000000 in
set_option maxRecDepth 100000 in
theorem bX8_fewestLinks_L13 {p : Program} {l : Launch} {e : Env} {s : State} {m : MethodId} {args : Array Value} {below : List Frame} {meth : Method} {c : Code} {D : va_G} {cI cB cZ : ClassId} {ad : Nat → Nat} (C0 : Cx p s m args meth c cX8_fewestLinks 5 (some .int) RX8 wsX8_fewestLinks) (hK : va_K D vwCl (tysA cI cB cZ) s) (hN : NW s) {τ : Int64} {σ : Sg} (hP : va_P D vwCl (CW cI ad τ σ) s.heap) (x1 : Int32) (x2 : Int32) (x3 : Int32) : ∀ (n : Nat) (x4 : Int32) (o : Int32) (ls : Array Slot), lv_has ls 5 [(0, .ref (ad 35)), (1, .int x1), (2, .int x2), (3, .int x3), (4, .int x4)] → pX8_fewestLinks_L13 σ x1 x2 x3 n x4 = some o → W p l e rmX8_fewestLinks s m args below meth c s.heap [] 0 0 (MQ below (QcRead o) args s 0 0 (fun _ => False)) (F0 m 13 ls []) := by
  obtain ⟨⟨hx, hb, hml, hown, hts⟩, hr, hlk⟩ := id C0
  intro n
  induction n with
  | zero =>
    intro x4 o ls hl h
    exact absurd h (by simp [pX8_fewestLinks_L13])
  | succ n ih =>
    intro x4 o ls hl h
    rw [pX8_fewestLinks_L13] at h
    refine lv_iload hx hb dX8_fewestLinks_13 (lv_at hl 4 rfl) ?_
    refine lv_bipush (v := 60) hx hb dX8_fewestLinks_15 (by decide) ?_
    refine lv_icmp_gt (tgt := 44) hx hb dX8_fewestLinks_17 (by decide) (fun c17 => ?_) (fun c17 => ?_)
    · replace h := k_ip c17 h
      refine lv_bipush (v := (-9)) hx hb dX8_fewestLinks_44 (by decide) ?_
      obtain rfl := k_sm h
      exact W.iret hx hb hr (fun t ht hW => ⟨rfl, ht⟩) (fun _ h => by cases h) dX8_fewestLinks_46
    · replace h := k_in c17 h
      refine lv_aload_n hx hb dX8_fewestLinks_20 rfl (lv_at hl 0 rfl) ?_
      refine va_get (D := D) (ci := 8) (v := .ref (ad 1)) (C := RX8) (T := TX8) (N := 4) hx hb hts iX8_fewestLinks_X8 hown hK hP 35 cw_35 rfl 0 (by decide) (hts (.fieldLink RX8 22 RX8 "told" "LAnchorWills$Told;") (by decide +kernel)) (fun _ h9 => h9) rfl dX8_fewestLinks_21 ?_
      refine lv_iload_n hx hb dX8_fewestLinks_24 rfl (lv_at hl 3 rfl) ?_
      refine lv_iload_n hx hb dX8_fewestLinks_25 rfl (lv_at hl 1 rfl) ?_
      refine lv_iload hx hb dX8_fewestLinks_26 (lv_at hl 4 rfl) ?_
      obtain ⟨v3, e4, h⟩ := k_bd h
      refine rd_calli (va_runVN (As := [.int x3, .int x1, .int x4]) (rest := []) C0.1 (kX9_strengthIn l (D := D) (cI := cI) (cB := cB) (cZ := cZ) (ad := ad) (τ := τ) σ x3 x1 x4 _ e4) (wX8_fewestLinks_X9_strengthIn hts hN ⟨Nat.le_of_ble_eq_true rfl, Nat.le_of_ble_eq_true rfl⟩) ⟨PW.blind, cw_r1 hK hP, PW.mk hP hK hN⟩ rfl rfl hl.1 rfl (lv_room (Nat.le_of_ble_eq_true rfl)) dX8_fewestLinks_28 ⟨Nat.zero_le _, Nat.zero_le _⟩) ?_
      refine lv_iload_n hx hb dX8_fewestLinks_31 rfl (lv_at hl 2 rfl) ?_
      refine lv_icmp_lt (tgt := 38) hx hb dX8_fewestLinks_32 (by decide) (fun c32 => ?_) (fun c32 => ?_)
      · replace h := k_ip c32 h
        refine lv_iinc (v := (x4 + 1)) (lv' := [(4, .int (x4 + 1)), (0, .ref (ad 35)), (1, .int x1), (2, .int x2), (3, .int x3)]) hx hb dX8_fewestLinks_38 hl (k := 4) rfl rfl (by decide) rfl (fun ls hl => ?_)
        refine lv_goto (tgt := 13) hx hb dX8_fewestLinks_41 (by decide) ?_
        exact ih (x4 + 1) _ ls (lv_sub hl [1, 2, 3, 4, 0] rfl) h
      · replace h := k_in c32 h
        refine lv_iload hx hb dX8_fewestLinks_35 (lv_at hl 4 rfl) ?_
        obtain rfl := k_sm h
        exact W.iret hx hb hr (fun t ht hW => ⟨rfl, ht⟩) (fun _ h => by cases h) dX8_fewestLinks_37
set_option maxHeartbeats 4000000 in
set_option maxRecDepth 100000 in
theorem kX8_fewestLinks (l : Launch) {D : va_G} {cI cB cZ : ClassId} {ad : Nat → Nat} {τ : Int64} (σ : Sg) (x1 : Int32) (x2 : Int32) (o : Int32) (h : pX8_fewestLinks σ x1 x2 = some o) : Met l yX8_fewestLinks wsX8_fewestLinks rmX8_fewestLinks (va_Pc [.ref (ad 35), .int x1, .int x2] (PW D cI cB cZ (CW cI ad τ σ))) (QcRead o) 0 0 (fun _ => False) := by
  refine Met.ofW (cc := cX8_fewestLinks) (maxL := 5) (ret := (some .int)) (by decide) rfl ?_
  intro p e s m args below meth c s₁ B hml hv
  obtain ⟨rfl, hP, hK, hN⟩ := hv
  have C0 : Cx p s m _ meth c cX8_fewestLinks 5 (some .int) RX8 wsX8_fewestLinks := ⟨⟨B.exec, B.bytes, hml, findClass_of_methodNamed B.named, atoms_spec B.pre⟩, B.returns, B.notSynchronized⟩
  obtain ⟨⟨hx, hb, -, hown, hts⟩, hr, hlk⟩ := id C0
  have hl := lv_entry ([.ref (ad 35), .int x1, .int x2]) (n := 5) (Nat.le_of_ble_eq_true rfl)
  rw [lg_entry_eq]
  generalize (lg_sl ([.ref (ad 35), .int x1, .int x2]) ++ List.replicate (5 - (lg_sl ([.ref (ad 35), .int x1, .int x2])).length) Slot.unset).toArray = ls at hl ⊢
  have hl : lv_has ls 5 [(0, .ref (ad 35)), (1, .int x1), (2, .int x2)] := hl
  rw [pX8_fewestLinks] at h
  refine lv_aload_n hx hb dX8_fewestLinks_0 rfl (lv_at hl 0 rfl) ?_
  refine va_get (D := D) (ci := 8) (v := .ref (ad 19)) (C := RX8) (T := TX8) (N := 4) hx hb hts iX8_fewestLinks_X8 hown hK hP 35 cw_35 rfl 1 (by decide) (hts (.fieldLink RX8 26 RX8 "now" "LAnchorWills$Now;") (by decide +kernel)) (fun _ h9 => h9) rfl dX8_fewestLinks_1 ?_
  refine lv_iconst (v := 0) hx hb dX8_fewestLinks_4 (by decide) ?_
  refine lv_iload_n hx hb dX8_fewestLinks_5 rfl (lv_at hl 1 rfl) ?_
  refine rd_calli (va_runVN (As := [.int 0, .int x1]) (rest := []) C0.1 (kX5_get_20 l (D := D) (cI := cI) (cB := cB) (cZ := cZ) (ad := ad) (τ := τ) σ 0 x1) (wX8_fewestLinks_X5_get hts hN ⟨Nat.le_of_ble_eq_true rfl, Nat.le_of_ble_eq_true rfl⟩) ⟨PW.blind, cw_r19 hK hP, PW.mk hP hK hN⟩ rfl rfl hl.1 rfl (lv_room (Nat.le_of_ble_eq_true rfl)) dX8_fewestLinks_6 ⟨Nat.zero_le _, Nat.zero_le _⟩) ?_
  obtain ⟨v1, e2, h⟩ := k_bd h
  refine lv_nmi (k_sm e2) ?_
  refine lv_istore_n (lv' := [(3, .int v1), (0, .ref (ad 35)), (1, .int x1), (2, .int x2)]) hx hb dX8_fewestLinks_9 rfl hl (by decide) rfl (fun ls hl => ?_)
  refine lv_iconst (v := 1) hx hb dX8_fewestLinks_10 (by decide) ?_
  refine lv_istore (lv' := [(4, .int 1), (3, .int v1), (0, .ref (ad 35)), (1, .int x1), (2, .int x2)]) hx hb dX8_fewestLinks_11 hl (by decide) rfl (fun ls hl => ?_)
  exact bX8_fewestLinks_L13 C0 hK hN hP x1 x2 v1 2000 1 _ ls (lv_sub hl [2, 3, 4, 1, 0] rfl) h
set_option maxHeartbeats 4000000 in
set_option maxRecDepth 100000 in
theorem kX8_cellBehind (l : Launch) {D : va_G} {cI cB cZ : ClassId} {ad : Nat → Nat} {τ : Int64} (hap : cwX ad) (σ : Sg) (x1 : Int32) (x2 : Int32) (x3 : Int32) (o : (Int32 × Sg)) (h : pX8_cellBehind σ x1 x2 x3 = some o) : Met l yX8_cellBehind wsX8_cellBehind rmX8_cellBehind (va_Pc [.ref (ad 35), .int x1, .int x2, .int x3] (PW D cI cB cZ (CW cI ad τ σ))) (QI D (CW cI ad τ) (cwA ad) o.1 o.2) 0 0 (cwA ad) := by
  refine Met.ofW (cc := cX8_cellBehind) (maxL := 4) (ret := (some .int)) (by decide) rfl ?_
  intro p e s m args below meth c s₁ B hml hv
  obtain ⟨rfl, hP, hK, hN⟩ := hv
  have C0 : Cx p s m _ meth c cX8_cellBehind 4 (some .int) RX8 wsX8_cellBehind := ⟨⟨B.exec, B.bytes, hml, findClass_of_methodNamed B.named, atoms_spec B.pre⟩, B.returns, B.notSynchronized⟩
  obtain ⟨⟨hx, hb, -, hown, hts⟩, hr, hlk⟩ := id C0
  have hS : va_S (cwA ad) s.heap s.heap [] := va_S.rf
  have hl := lv_entry ([.ref (ad 35), .int x1, .int x2, .int x3]) (n := 4) (Nat.le_of_ble_eq_true rfl)
  rw [lg_entry_eq]
  generalize (lg_sl ([.ref (ad 35), .int x1, .int x2, .int x3]) ++ List.replicate (4 - (lg_sl ([.ref (ad 35), .int x1, .int x2, .int x3])).length) Slot.unset).toArray = ls at hl ⊢
  have hl : lv_has ls 4 [(0, .ref (ad 35)), (1, .int x1), (2, .int x2), (3, .int x3)] := hl
  rw [pX8_cellBehind] at h
  refine lv_aload_n hx hb dX8_cellBehind_0 rfl (lv_at hl 0 rfl) ?_
  refine va_get (D := D) (ci := 8) (v := .ref (ad 36)) (C := RX8) (T := TX8) (N := 4) hx hb hts iX8_cellBehind_X8 hown hK hP 35 cw_35 rfl 2 (by decide) (hts (.fieldLink RX8 12 RX8 "trial" "LAnchorWills$Now;") (by decide +kernel)) (fun _ h9 => h9) rfl dX8_cellBehind_1 ?_
  refine lv_aload_n hx hb dX8_cellBehind_4 rfl (lv_at hl 0 rfl) ?_
  refine va_get (D := D) (ci := 8) (v := .ref (ad 19)) (C := RX8) (T := TX8) (N := 4) hx hb hts iX8_cellBehind_X8 hown hK hP 35 cw_35 rfl 1 (by decide) (hts (.fieldLink RX8 26 RX8 "now" "LAnchorWills$Now;") (by decide +kernel)) (fun _ h9 => h9) rfl dX8_cellBehind_5 ?_
  obtain ⟨u1, e2, h⟩ := k_bd h
  refine wr_callv (va_runVN (As := [.ref (ad 19)]) (rest := []) C0.1 (kX5_becomes_37_20 l (D := D) (cI := cI) (cB := cB) (cZ := cZ) (τ := τ) hap σ  _ e2) (wX8_cellBehind_X5_becomes hts hN ⟨Nat.le_of_ble_eq_true rfl, Nat.le_of_ble_eq_true rfl⟩) ⟨PW.blind, cw_r36 hK hP, PW.mk hP hK hN⟩ rfl rfl hl.1 rfl (lv_room (Nat.le_of_ble_eq_true rfl)) dX8_cellBehind_8 ⟨Nat.zero_le _, Nat.zero_le _⟩) hS (fun _ h => h) (fun H locs hP hS => ?_)
  have hP : va_P D vwCl (CW cI ad τ u1) H := hP
  refine lv_aload_n hx hb dX8_cellBehind_11 rfl (lv_at hl 0 rfl) ?_
  refine lv_aload_n hx hb dX8_cellBehind_12 rfl (lv_at hl 0 rfl) ?_
  refine va_get (D := D) (ci := 8) (v := .ref (ad 36)) (C := RX8) (T := TX8) (N := 4) hx hb hts iX8_cellBehind_X8 hown hK hP 35 cw_35 rfl 2 (by decide) (hts (.fieldLink RX8 12 RX8 "trial" "LAnchorWills$Now;") (by decide +kernel)) (fun _ h9 => h9) rfl dX8_cellBehind_13 ?_
  refine lv_iload_n hx hb dX8_cellBehind_16 rfl (lv_at hl 2 rfl) ?_
  refine lv_iload_n hx hb dX8_cellBehind_17 rfl (lv_at hl 3 rfl) ?_
  obtain ⟨u3, e4, h⟩ := k_bd h
  refine wr_calli (va_runV (As := [.ref (ad 36), .int x2, .int x3]) (rest := []) C0.1 (kX8_blowsOver_37 l (D := D) (cI := cI) (cB := cB) (cZ := cZ) (τ := τ) hap u1 x2 x3 _ e4) (wX8_cellBehind_X8_blowsOver hts ⟨Nat.le_of_ble_eq_true rfl, Nat.le_of_ble_eq_true rfl⟩) ⟨PW.blind, cw_r35 hK hP, PW.mk hP hK hN⟩ rfl rfl hl.1 rfl (lv_room (Nat.le_of_ble_eq_true rfl)) dX8_cellBehind_18 ⟨Nat.zero_le _, Nat.zero_le _⟩) hS (fun _ h => h) (fun H locs hP hS => ?_)
  have hP : va_P D vwCl (CW cI ad τ u3.2) H := hP
  refine lv_pop hx hb dX8_cellBehind_21 rfl ?_
  refine lv_aload_n hx hb dX8_cellBehind_22 rfl (lv_at hl 0 rfl) ?_
  refine va_get (D := D) (ci := 8) (v := .ref (ad 36)) (C := RX8) (T := TX8) (N := 4) hx hb hts iX8_cellBehind_X8 hown hK hP 35 cw_35 rfl 2 (by decide) (hts (.fieldLink RX8 12 RX8 "trial" "LAnchorWills$Now;") (by decide +kernel)) (fun _ h9 => h9) rfl dX8_cellBehind_23 ?_
  refine lv_iload_n hx hb dX8_cellBehind_26 rfl (lv_at hl 1 rfl) ?_
  refine rd_calli (va_runVN (As := [.int x1]) (rest := []) C0.1 (kX5_lies_37 l (D := D) (cI := cI) (cB := cB) (cZ := cZ) (ad := ad) (τ := τ) u3.2 x1) (wX8_cellBehind_X5_lies hts hN ⟨Nat.le_of_ble_eq_true rfl, Nat.le_of_ble_eq_true rfl⟩) ⟨PW.blind, cw_r36 hK hP, PW.mk hP hK hN⟩ rfl rfl hl.1 rfl (lv_room (Nat.le_of_ble_eq_true rfl)) dX8_cellBehind_27 ⟨Nat.zero_le _, Nat.zero_le _⟩) ?_
  refine lv_if_eq (tgt := 45) hx hb dX8_cellBehind_30 (by decide) (fun c30 => ?_) (fun c30 => ?_)
  · replace h := k_ip c30 h
    refine lv_bipush (v := (-9)) hx hb dX8_cellBehind_45 (by decide) ?_
    obtain rfl := k_sm h
    exact W.iret hx hb hr (fun t ht hW => ⟨⟨_, _, rfl, ⟨rfl, rfl⟩, pw_end ht hP⟩, hS.F ht⟩) hS.2.2 dX8_cellBehind_47
  · replace h := k_in c30 h
    refine lv_aload_n hx hb dX8_cellBehind_33 rfl (lv_at hl 0 rfl) ?_
    refine va_get (D := D) (ci := 8) (v := .ref (ad 36)) (C := RX8) (T := TX8) (N := 4) hx hb hts iX8_cellBehind_X8 hown hK hP 35 cw_35 rfl 2 (by decide) (hts (.fieldLink RX8 12 RX8 "trial" "LAnchorWills$Now;") (by decide +kernel)) (fun _ h9 => h9) rfl dX8_cellBehind_34 ?_
    refine lv_iconst (v := 0) hx hb dX8_cellBehind_37 (by decide) ?_
    refine lv_iload_n hx hb dX8_cellBehind_38 rfl (lv_at hl 1 rfl) ?_
    refine rd_calli (va_runVN (As := [.int 0, .int x1]) (rest := []) C0.1 (kX5_get_37 l (D := D) (cI := cI) (cB := cB) (cZ := cZ) (ad := ad) (τ := τ) u3.2 0 x1) (wX8_cellBehind_X5_get hts hN ⟨Nat.le_of_ble_eq_true rfl, Nat.le_of_ble_eq_true rfl⟩) ⟨PW.blind, cw_r36 hK hP, PW.mk hP hK hN⟩ rfl rfl hl.1 rfl (lv_room (Nat.le_of_ble_eq_true rfl)) dX8_cellBehind_39 ⟨Nat.zero_le _, Nat.zero_le _⟩) ?_
    refine lv_goto (tgt := 47) hx hb dX8_cellBehind_42 (by decide) ?_
    obtain rfl := k_sm h
    exact W.iret hx hb hr (fun t ht hW => ⟨⟨_, _, rfl, ⟨rfl, rfl⟩, pw_end ht hP⟩, hS.F ht⟩) hS.2.2 dX8_cellBehind_47
set_option maxHeartbeats 4000000 in
set_option maxRecDepth 100000 in
theorem bX8_sidesAt_L4 {p : Program} {l : Launch} {e : Env} {s : State} {m : MethodId} {args : Array Value} {below : List Frame} {meth : Method} {c : Code} {Q : State → Prop} {D : va_G} {cI cB cZ : ClassId} {ad : Nat → Nat} (C0 : Cx p s m args meth c cX8_sidesAt 4 (some .int) RX8 wsX8_sidesAt) (hK : va_K D vwCl (tysA cI cB cZ) s) (hN : NW s) {τ : Int64} {σ : Sg} (hP : va_P D vwCl (CW cI ad τ σ) s.heap) (x0 : Int32) (x1 : Int32) : ∀ (n : Nat) (x2 : Int32) (x3 : Int32) (v : Int32) (ls : Array Slot), lv_has ls 4 [(0, .int x0), (1, .int x1), (2, .int x2), (3, .int x3)] → pX8_sidesAt_L4 σ x0 x1 n x2 x3 = some v → (∀ (ls1 : Array Slot), lv_has ls1 4 [(2, .int v)] → W p l e rmX8_sidesAt s m args below meth c s.heap [] 0 0 Q (F0 m 34 ls1 [])) → W p l e rmX8_sidesAt s m args below meth c s.heap [] 0 0 Q (F0 m 4 ls []) := by
  obtain ⟨⟨hx, hb, hml, hown, hts⟩, hr, hlk⟩ := id C0
  intro n
  induction n with
  | zero =>
    intro x2 x3 v ls hl h kk
    exact absurd h (by simp [pX8_sidesAt_L4])
  | succ n ih =>
    intro x2 x3 v ls hl h kk
    rw [pX8_sidesAt_L4] at h
    refine lv_iload_n hx hb dX8_sidesAt_4 rfl (lv_at hl 3 rfl) ?_
    refine lv_iload_n hx hb dX8_sidesAt_5 rfl (lv_at hl 1 rfl) ?_
    refine lv_icmp_ge (tgt := 34) hx hb dX8_sidesAt_6 (by decide) (fun c6 => ?_) (fun c6 => ?_)
    · replace h := k_ip c6 h
      obtain rfl := k_sm h
      exact kk _ (lv_sub hl [2] rfl)
    · replace h := k_in c6 h
      refine lv_iload_n hx hb dX8_sidesAt_9 rfl (lv_at hl 0 rfl) ?_
      refine lv_iload_n hx hb dX8_sidesAt_10 rfl (lv_at hl 1 rfl) ?_
      refine lv_iconst (v := 1) hx hb dX8_sidesAt_11 (by decide) ?_
      refine lv_isub hx hb dX8_sidesAt_12 ?_
      refine lv_iload_n hx hb dX8_sidesAt_13 rfl (lv_at hl 3 rfl) ?_
      refine lv_isub hx hb dX8_sidesAt_14 ?_
      refine rd_calli (va_runSN (As := [.int x0, .int ((x1 - 1) - x3)]) (rest := []) C0.1 (kX10_has l x0 ((x1 - 1) - x3)) (wX8_sidesAt_X10_has hts hN ⟨Nat.le_of_ble_eq_true rfl, Nat.le_of_ble_eq_true rfl⟩) ⟨PT.blind, fun _ _ _ => ⟨rfl, trivial⟩⟩ rfl rfl hl.1 rfl (lv_room (Nat.le_of_ble_eq_true rfl)) dX8_sidesAt_15 ⟨Nat.zero_le _, Nat.zero_le _⟩) ?_
      refine lv_if_eq (tgt := 28) hx hb dX8_sidesAt_18 (by decide) (fun c18 => ?_) (fun c18 => ?_)
      · replace h := k_ip c18 h
        refine lv_iinc (v := (x3 + 1)) (lv' := [(3, .int (x3 + 1)), (0, .int x0), (1, .int x1), (2, .int x2)]) hx hb dX8_sidesAt_28 hl (k := 3) rfl rfl (by decide) rfl (fun ls hl => ?_)
        refine lv_goto (tgt := 4) hx hb dX8_sidesAt_31 (by decide) ?_
        exact ih x2 (x3 + 1) _ ls (lv_sub hl [1, 2, 3, 0] rfl) h kk
      · replace h := k_in c18 h
        refine lv_iload_n hx hb dX8_sidesAt_21 rfl (lv_at hl 2 rfl) ?_
        refine lv_iload_n hx hb dX8_sidesAt_22 rfl (lv_at hl 3 rfl) ?_
        refine rd_calli (va_runSN (As := [.int x3]) (rest := [.int x2]) C0.1 (kX10_bit l x3) (wX8_sidesAt_X10_bit hts hN ⟨Nat.le_of_ble_eq_true rfl, Nat.le_of_ble_eq_true rfl⟩) ⟨PT.blind, fun _ _ _ => ⟨rfl, trivial⟩⟩ rfl rfl hl.1 rfl (lv_room (Nat.le_of_ble_eq_true rfl)) dX8_sidesAt_23 ⟨Nat.zero_le _, Nat.zero_le _⟩) ?_
        refine lv_ior hx hb dX8_sidesAt_26 ?_
        obtain ⟨v1, e2, h⟩ := k_bd h
        refine lv_nmi (k_sm e2) ?_
        refine lv_istore_n (lv' := [(2, .int v1), (0, .int x0), (1, .int x1), (3, .int x3)]) hx hb dX8_sidesAt_27 rfl hl (by decide) rfl (fun ls hl => ?_)
        refine lv_iinc (v := (x3 + 1)) (lv' := [(3, .int (x3 + 1)), (2, .int v1), (0, .int x0), (1, .int x1)]) hx hb dX8_sidesAt_28 hl (k := 3) rfl rfl (by decide) rfl (fun ls hl => ?_)
        refine lv_goto (tgt := 4) hx hb dX8_sidesAt_31 (by decide) ?_
        exact ih v1 (x3 + 1) _ ls (lv_sub hl [2, 3, 1, 0] rfl) h kk
set_option maxHeartbeats 4000000 in
set_option maxRecDepth 100000 in
theorem kX8_sidesAt (l : Launch) {D : va_G} {cI cB cZ : ClassId} {ad : Nat → Nat} {τ : Int64} (σ : Sg) (x0 : Int32) (x1 : Int32) (o : Int32) (h : pX8_sidesAt σ x0 x1 = some o) : Met l yX8_sidesAt wsX8_sidesAt rmX8_sidesAt (va_Pc [.int x0, .int x1] (PW D cI cB cZ (CW cI ad τ σ))) (QcRead o) 0 0 (fun _ => False) := by
  refine Met.ofW (cc := cX8_sidesAt) (maxL := 4) (ret := (some .int)) (by decide) rfl ?_
  intro p e s m args below meth c s₁ B hml hv
  obtain ⟨rfl, hP, hK, hN⟩ := hv
  have C0 : Cx p s m _ meth c cX8_sidesAt 4 (some .int) RX8 wsX8_sidesAt := ⟨⟨B.exec, B.bytes, hml, findClass_of_methodNamed B.named, atoms_spec B.pre⟩, B.returns, B.notSynchronized⟩
  obtain ⟨⟨hx, hb, -, hown, hts⟩, hr, hlk⟩ := id C0
  have hl := lv_entry ([.int x0, .int x1]) (n := 4) (Nat.le_of_ble_eq_true rfl)
  rw [lg_entry_eq]
  generalize (lg_sl ([.int x0, .int x1]) ++ List.replicate (4 - (lg_sl ([.int x0, .int x1])).length) Slot.unset).toArray = ls at hl ⊢
  have hl : lv_has ls 4 [(0, .int x0), (1, .int x1)] := hl
  rw [pX8_sidesAt] at h
  refine lv_iconst (v := 0) hx hb dX8_sidesAt_0 (by decide) ?_
  refine lv_istore_n (lv' := [(2, .int 0), (0, .int x0), (1, .int x1)]) hx hb dX8_sidesAt_1 rfl hl (by decide) rfl (fun ls hl => ?_)
  refine lv_iconst (v := 0) hx hb dX8_sidesAt_2 (by decide) ?_
  refine lv_istore_n (lv' := [(3, .int 0), (2, .int 0), (0, .int x0), (1, .int x1)]) hx hb dX8_sidesAt_3 rfl hl (by decide) rfl (fun ls hl => ?_)
  obtain ⟨w3, e4, h⟩ := k_bd h
  refine bX8_sidesAt_L4 C0 hK hN hP x0 x1 2000 0 0 _ ls (lv_sub hl [2, 3, 1, 0] rfl) e4 (fun ls hl => ?_)
  refine lv_iload_n hx hb dX8_sidesAt_34 rfl (lv_at hl 0 rfl) ?_
  obtain rfl := k_sm h
  exact W.iret hx hb hr (fun t ht hW => ⟨rfl, ht⟩) (fun _ h => by cases h) dX8_sidesAt_35
set_option maxHeartbeats 4000000 in
set_option maxRecDepth 100000 in
theorem bX8_worstRow_L42 {p : Program} {l : Launch} {e : Env} {s : State} {m : MethodId} {args : Array Value} {below : List Frame} {meth : Method} {c : Code} {Q : State → Prop} {D : va_G} {cI cB cZ : ClassId} {ad : Nat → Nat} (C0 : Cx p s m args meth c cX8_worstRow 9 (some .int) RX8 wsX8_worstRow) (hK : va_K D vwCl (tysA cI cB cZ) s) (hN : NW s) (hap : cwX ad) {τ : Int64} (x1 : Int32) (x2 : Int32) (x3 : Int32) (x4 : Int32) (x5 : Int32) (x6 : Int32) : ∀ (n : Nat) (x7 : Int32) (x8 : Int32) (σ : Sg) (v : (Int32 × Sg)) (H : Heap) (locs : List Loc) (ls : Array Slot), va_P D vwCl (CW cI ad τ σ) H → va_S (cwA ad) s.heap H locs → lv_has ls 9 [(0, .ref (ad 35)), (1, .int x1), (2, .int x2), (3, .int x3), (4, .int x4), (5, .int x5), (6, .int x6), (7, .int x7), (8, .int x8)] → pX8_worstRow_L42 x1 x2 x3 x4 x5 x6 n x7 x8 σ = some v → (∀ (H1 : Heap) (locs1 : List Loc) (ls1 : Array Slot), va_P D vwCl (CW cI ad τ v.2) H1 → va_S (cwA ad) s.heap H1 locs1 → lv_has ls1 9 [(0, .ref (ad 35)), (1, .int x1), (2, .int x2), (3, .int x3), (4, .int x4), (5, .int x5), (6, .int x6), (7, .int v.1)] → W p l e rmX8_worstRow s m args below meth c H1 locs1 0 0 Q (F0 m 83 ls1 [])) → W p l e rmX8_worstRow s m args below meth c H locs 0 0 Q (F0 m 42 ls []) := by
  obtain ⟨⟨hx, hb, hml, hown, hts⟩, hr, hlk⟩ := id C0
  intro n
  induction n with
  | zero =>
    intro x7 x8 σ v H locs ls hP hS hl h kk
    exact absurd h (by simp [pX8_worstRow_L42])
  | succ n ih =>
    intro x7 x8 σ v H locs ls hP hS hl h kk
    rw [pX8_worstRow_L42] at h
    refine lv_iload hx hb dX8_worstRow_42 (lv_at hl 8 rfl) ?_
    refine lv_iload_n hx hb dX8_worstRow_44 rfl (lv_at hl 2 rfl) ?_
    refine lv_icmp_ge (tgt := 83) hx hb dX8_worstRow_45 (by decide) (fun c45 => ?_) (fun c45 => ?_)
    · replace h := k_ip c45 h
      obtain rfl := k_sm h
      exact kk _ _ _ hP hS (lv_sub hl [0, 1, 2, 3, 4, 5, 6, 7] rfl)
    · replace h := k_in c45 h
      refine lv_iload hx hb dX8_worstRow_48 (lv_at hl 7 rfl) ?_
      refine lv_aload_n hx hb dX8_worstRow_50 rfl (lv_at hl 0 rfl) ?_
      refine lv_aload_n hx hb dX8_worstRow_51 rfl (lv_at hl 0 rfl) ?_
      refine va_get (D := D) (ci := 8) (v := .ref (ad 36)) (C := RX8) (T := TX8) (N := 4) hx hb hts iX8_worstRow_X8 hown hK hP 35 cw_35 rfl 2 (by decide) (hts (.fieldLink RX8 12 RX8 "trial" "LAnchorWills$Now;") (by decide +kernel)) (fun _ h9 => h9) rfl dX8_worstRow_52 ?_
      refine lv_iload_n hx hb dX8_worstRow_55 rfl (lv_at hl 1 rfl) ?_
      refine lv_iload hx hb dX8_worstRow_56 (lv_at hl 6 rfl) ?_
      refine lv_iload hx hb dX8_worstRow_58 (lv_at hl 8 rfl) ?_
      refine rd_calli (va_runSN (As := [.int x6, .int x8]) (rest := [.int x1, .ref (ad 36), .ref (ad 35), .int x7]) C0.1 (kX10_has l x6 x8) (wX8_worstRow_X10_has hts hN ⟨Nat.le_of_ble_eq_true rfl, Nat.le_of_ble_eq_true rfl⟩) ⟨PT.blind, fun _ _ _ => ⟨rfl, trivial⟩⟩ rfl rfl hl.1 rfl (lv_room (Nat.le_of_ble_eq_true rfl)) dX8_worstRow_60 ⟨Nat.zero_le _, Nat.zero_le _⟩) ?_
      refine lv_if_eq (tgt := 70) hx hb dX8_worstRow_63 (by decide) (fun c63 => ?_) (fun c63 => ?_)
      · replace h := k_ip c63 h
        refine lv_iconst (v := 0) hx hb dX8_worstRow_70 (by decide) ?_
        obtain ⟨u5, e6, h⟩ := k_bd h
        refine wr_calli (va_runV (As := [.ref (ad 36), .int x1, .int 0]) (rest := [.int x7]) C0.1 (kX8_blowsOver_37 l (D := D) (cI := cI) (cB := cB) (cZ := cZ) (τ := τ) hap σ x1 0 _ e6) (wX8_worstRow_X8_blowsOver hts ⟨Nat.le_of_ble_eq_true rfl, Nat.le_of_ble_eq_true rfl⟩) ⟨PW.blind, cw_r35 hK hP, PW.mk hP hK hN⟩ rfl rfl hl.1 rfl (lv_room (Nat.le_of_ble_eq_true rfl)) dX8_worstRow_71 ⟨Nat.zero_le _, Nat.zero_le _⟩) hS (fun _ h => h) (fun H locs hP hS => ?_)
        have hP : va_P D vwCl (CW cI ad τ u5.2) H := hP
        refine lv_iadd hx hb dX8_worstRow_74 ?_
        obtain ⟨v7, e8, h⟩ := k_bd h
        refine lv_nmi (k_sm e8) ?_
        refine lv_istore (lv' := [(7, .int v7), (0, .ref (ad 35)), (1, .int x1), (2, .int x2), (3, .int x3), (4, .int x4), (5, .int x5), (6, .int x6), (8, .int x8)]) hx hb dX8_worstRow_75 hl (by decide) rfl (fun ls hl => ?_)
        refine lv_iinc (v := (x8 + 1)) (lv' := [(8, .int (x8 + 1)), (7, .int v7), (0, .ref (ad 35)), (1, .int x1), (2, .int x2), (3, .int x3), (4, .int x4), (5, .int x5), (6, .int x6)]) hx hb dX8_worstRow_77 hl (k := 8) rfl rfl (by decide) rfl (fun ls hl => ?_)
        refine lv_goto (tgt := 42) hx hb dX8_worstRow_80 (by decide) ?_
        exact ih v7 (x8 + 1) u5.2 _ _ _ ls hP hS (lv_sub hl [2, 3, 4, 5, 6, 7, 8, 1, 0] rfl) h kk
      · replace h := k_in c63 h
        refine lv_iconst (v := 1) hx hb dX8_worstRow_66 (by decide) ?_
        refine lv_goto (tgt := 71) hx hb dX8_worstRow_67 (by decide) ?_
        obtain ⟨u9, e10, h⟩ := k_bd h
        refine wr_calli (va_runV (As := [.ref (ad 36), .int x1, .int 1]) (rest := [.int x7]) C0.1 (kX8_blowsOver_37 l (D := D) (cI := cI) (cB := cB) (cZ := cZ) (τ := τ) hap σ x1 1 _ e10) (wX8_worstRow_X8_blowsOver hts ⟨Nat.le_of_ble_eq_true rfl, Nat.le_of_ble_eq_true rfl⟩) ⟨PW.blind, cw_r35 hK hP, PW.mk hP hK hN⟩ rfl rfl hl.1 rfl (lv_room (Nat.le_of_ble_eq_true rfl)) dX8_worstRow_71 ⟨Nat.zero_le _, Nat.zero_le _⟩) hS (fun _ h => h) (fun H locs hP hS => ?_)
        have hP : va_P D vwCl (CW cI ad τ u9.2) H := hP
        refine lv_iadd hx hb dX8_worstRow_74 ?_
        obtain ⟨v11, e12, h⟩ := k_bd h
        refine lv_nmi (k_sm e12) ?_
        refine lv_istore (lv' := [(7, .int v11), (0, .ref (ad 35)), (1, .int x1), (2, .int x2), (3, .int x3), (4, .int x4), (5, .int x5), (6, .int x6), (8, .int x8)]) hx hb dX8_worstRow_75 hl (by decide) rfl (fun ls hl => ?_)
        refine lv_iinc (v := (x8 + 1)) (lv' := [(8, .int (x8 + 1)), (7, .int v11), (0, .ref (ad 35)), (1, .int x1), (2, .int x2), (3, .int x3), (4, .int x4), (5, .int x5), (6, .int x6)]) hx hb dX8_worstRow_77 hl (k := 8) rfl rfl (by decide) rfl (fun ls hl => ?_)
        refine lv_goto (tgt := 42) hx hb dX8_worstRow_80 (by decide) ?_
        exact ih v11 (x8 + 1) u9.2 _ _ _ ls hP hS (lv_sub hl [2, 3, 4, 5, 6, 7, 8, 1, 0] rfl) h kk
set_option maxHeartbeats 4000000 in
set_option maxRecDepth 100000 in
theorem bX8_worstRow_L8 {p : Program} {l : Launch} {e : Env} {s : State} {m : MethodId} {args : Array Value} {below : List Frame} {meth : Method} {c : Code} {Q : State → Prop} {D : va_G} {cI cB cZ : ClassId} {ad : Nat → Nat} (C0 : Cx p s m args meth c cX8_worstRow 9 (some .int) RX8 wsX8_worstRow) (hK : va_K D vwCl (tysA cI cB cZ) s) (hN : NW s) (hap : cwX ad) {τ : Int64} (x1 : Int32) (x2 : Int32) : ∀ (n : Nat) (x3 : Int32) (x4 : Int32) (x5 : Int32) (σ : Sg) (v : (Int32 × Int32 × Sg)) (H : Heap) (locs : List Loc) (ls : Array Slot), va_P D vwCl (CW cI ad τ σ) H → va_S (cwA ad) s.heap H locs → lv_has ls 9 [(0, .ref (ad 35)), (1, .int x1), (2, .int x2), (3, .int x3), (4, .int x4), (5, .int x5)] → pX8_worstRow_L8 x1 x2 n x3 x4 x5 σ = some v → (∀ (H1 : Heap) (locs1 : List Loc) (ls1 : Array Slot), va_P D vwCl (CW cI ad τ v.2.2) H1 → va_S (cwA ad) s.heap H1 locs1 → lv_has ls1 9 [(3, .int v.1), (4, .int v.2.1)] → W p l e rmX8_worstRow s m args below meth c H1 locs1 0 0 Q (F0 m 103 ls1 [])) → W p l e rmX8_worstRow s m args below meth c H locs 0 0 Q (F0 m 8 ls []) := by
  obtain ⟨⟨hx, hb, hml, hown, hts⟩, hr, hlk⟩ := id C0
  intro n
  induction n with
  | zero =>
    intro x3 x4 x5 σ v H locs ls hP hS hl h kk
    exact absurd h (by simp [pX8_worstRow_L8])
  | succ n ih =>
    intro x3 x4 x5 σ v H locs ls hP hS hl h kk
    rw [pX8_worstRow_L8] at h
    refine lv_iload hx hb dX8_worstRow_8 (lv_at hl 5 rfl) ?_
    refine lv_iload_n hx hb dX8_worstRow_10 rfl (lv_at hl 2 rfl) ?_
    refine rd_calli (va_runSN (As := [.int x2]) (rest := [.int x5]) C0.1 (kX10_bit l x2) (wX8_worstRow_X10_bit hts hN ⟨Nat.le_of_ble_eq_true rfl, Nat.le_of_ble_eq_true rfl⟩) ⟨PT.blind, fun _ _ _ => ⟨rfl, trivial⟩⟩ rfl rfl hl.1 rfl (lv_room (Nat.le_of_ble_eq_true rfl)) dX8_worstRow_11 ⟨Nat.zero_le _, Nat.zero_le _⟩) ?_
    refine lv_icmp_ge (tgt := 103) hx hb dX8_worstRow_14 (by decide) (fun c14 => ?_) (fun c14 => ?_)
    · replace h := k_ip c14 h
      obtain rfl := k_sm h
      exact kk _ _ _ hP hS (lv_sub hl [3, 4] rfl)
    · replace h := k_in c14 h
      refine lv_iload hx hb dX8_worstRow_17 (lv_at hl 5 rfl) ?_
      refine lv_iload_n hx hb dX8_worstRow_19 rfl (lv_at hl 2 rfl) ?_
      obtain ⟨v1, e2, h⟩ := k_bd h
      refine rd_calli (va_runS (As := [.int x5, .int x2]) (rest := []) C0.1 (kX8_sidesAt l (D := D) (cI := cI) (cB := cB) (cZ := cZ) (ad := ad) (τ := τ) σ x5 x2 _ e2) (wX8_worstRow_X8_sidesAt hts ⟨Nat.le_of_ble_eq_true rfl, Nat.le_of_ble_eq_true rfl⟩) ⟨PW.blind, PW.mk hP hK hN⟩ rfl rfl hl.1 rfl (lv_room (Nat.le_of_ble_eq_true rfl)) dX8_worstRow_20 ⟨Nat.zero_le _, Nat.zero_le _⟩) ?_
      refine lv_istore (lv' := [(6, .int v1), (0, .ref (ad 35)), (1, .int x1), (2, .int x2), (3, .int x3), (4, .int x4), (5, .int x5)]) hx hb dX8_worstRow_23 hl (by decide) rfl (fun ls hl => ?_)
      refine lv_iconst (v := 0) hx hb dX8_worstRow_25 (by decide) ?_
      refine lv_istore (lv' := [(7, .int 0), (6, .int v1), (0, .ref (ad 35)), (1, .int x1), (2, .int x2), (3, .int x3), (4, .int x4), (5, .int x5)]) hx hb dX8_worstRow_26 hl (by decide) rfl (fun ls hl => ?_)
      refine lv_aload_n hx hb dX8_worstRow_28 rfl (lv_at hl 2 rfl) ?_
      refine va_get (D := D) (ci := 8) (v := .ref (ad 36)) (C := RX8) (T := TX8) (N := 4) hx hb hts iX8_worstRow_X8 hown hK hP 35 cw_35 rfl 2 (by decide) (hts (.fieldLink RX8 12 RX8 "trial" "LAnchorWills$Now;") (by decide +kernel)) (fun _ h9 => h9) rfl dX8_worstRow_29 ?_
      refine lv_aload_n hx hb dX8_worstRow_32 rfl (lv_at hl 2 rfl) ?_
      refine va_get (D := D) (ci := 8) (v := .ref (ad 19)) (C := RX8) (T := TX8) (N := 4) hx hb hts iX8_worstRow_X8 hown hK hP 35 cw_35 rfl 1 (by decide) (hts (.fieldLink RX8 26 RX8 "now" "LAnchorWills$Now;") (by decide +kernel)) (fun _ h9 => h9) rfl dX8_worstRow_33 ?_
      obtain ⟨u3, e4, h⟩ := k_bd h
      refine wr_callv (va_runVN (As := [.ref (ad 19)]) (rest := []) C0.1 (kX5_becomes_37_20 l (D := D) (cI := cI) (cB := cB) (cZ := cZ) (τ := τ) hap σ  _ e4) (wX8_worstRow_X5_becomes hts hN ⟨Nat.le_of_ble_eq_true rfl, Nat.le_of_ble_eq_true rfl⟩) ⟨PW.blind, cw_r36 hK hP, PW.mk hP hK hN⟩ rfl rfl hl.1 rfl (lv_room (Nat.le_of_ble_eq_true rfl)) dX8_worstRow_36 ⟨Nat.zero_le _, Nat.zero_le _⟩) hS (fun _ h => h) (fun H locs hP hS => ?_)
      have hP : va_P D vwCl (CW cI ad τ u3) H := hP
      refine lv_iconst (v := 0) hx hb dX8_worstRow_39 (by decide) ?_
      refine lv_istore (lv' := [(8, .int 0), (7, .int 0), (6, .int v1), (0, .ref (ad 35)), (1, .int x1), (2, .int x2), (3, .int x3), (4, .int x4), (5, .int x5)]) hx hb dX8_worstRow_40 hl (by decide) rfl (fun ls hl => ?_)
      obtain ⟨w13, e14, h⟩ := k_bd h
      refine bX8_worstRow_L42 C0 hK hN hap x1 x2 x3 x4 x5 v1 2000 0 0 u3 _ _ _ ls hP hS (lv_sub hl [3, 4, 5, 6, 7, 8, 2, 1, 0] rfl) e14 (fun H locs ls hP hS hl => ?_)
      refine lv_iload hx hb dX8_worstRow_83 (lv_at hl 7 rfl) ?_
      refine lv_iload hx hb dX8_worstRow_85 (lv_at hl 4 rfl) ?_
      refine lv_icmp_le (tgt := 97) hx hb dX8_worstRow_87 (by decide) (fun c87 => ?_) (fun c87 => ?_)
      · replace h := k_ip c87 h
        refine lv_iinc (v := (x5 + 1)) (lv' := [(5, .int (x5 + 1)), (0, .ref (ad 35)), (1, .int x1), (2, .int x2), (3, .int x3), (4, .int x4), (6, .int v1), (7, .int w13.1)]) hx hb dX8_worstRow_97 hl (k := 5) rfl rfl (by decide) rfl (fun ls hl => ?_)
        refine lv_goto (tgt := 8) hx hb dX8_worstRow_100 (by decide) ?_
        exact ih x3 x4 (x5 + 1) w13.2 _ _ _ ls hP hS (lv_sub hl [1, 2, 3, 4, 5, 0] rfl) h kk
      · replace h := k_in c87 h
        refine lv_iload hx hb dX8_worstRow_90 (lv_at hl 7 rfl) ?_
        refine lv_istore (lv' := [(4, .int w13.1), (0, .ref (ad 35)), (1, .int x1), (2, .int x2), (3, .int x3), (5, .int x5), (6, .int v1), (7, .int w13.1)]) hx hb dX8_worstRow_92 hl (by decide) rfl (fun ls hl => ?_)
        refine lv_iload hx hb dX8_worstRow_94 (lv_at hl 6 rfl) ?_
        refine lv_istore_n (lv' := [(3, .int v1), (4, .int w13.1), (0, .ref (ad 35)), (1, .int x1), (2, .int x2), (5, .int x5), (6, .int v1), (7, .int w13.1)]) hx hb dX8_worstRow_96 rfl hl (by decide) rfl (fun ls hl => ?_)
        refine lv_iinc (v := (x5 + 1)) (lv' := [(5, .int (x5 + 1)), (3, .int v1), (4, .int w13.1), (0, .ref (ad 35)), (1, .int x1), (2, .int x2), (6, .int v1), (7, .int w13.1)]) hx hb dX8_worstRow_97 hl (k := 5) rfl rfl (by decide) rfl (fun ls hl => ?_)
        refine lv_goto (tgt := 8) hx hb dX8_worstRow_100 (by decide) ?_
        exact ih v1 w13.1 (x5 + 1) w13.2 _ _ _ ls hP hS (lv_sub hl [3, 4, 5, 1, 2, 0] rfl) h kk
set_option maxHeartbeats 4000000 in
set_option maxRecDepth 100000 in
theorem kX8_worstRow (l : Launch) {D : va_G} {cI cB cZ : ClassId} {ad : Nat → Nat} {τ : Int64} (hap : cwX ad) (σ : Sg) (x1 : Int32) (x2 : Int32) (o : (Int32 × Sg)) (h : pX8_worstRow σ x1 x2 = some o) : Met l yX8_worstRow wsX8_worstRow rmX8_worstRow (va_Pc [.ref (ad 35), .int x1, .int x2] (PW D cI cB cZ (CW cI ad τ σ))) (QI D (CW cI ad τ) (cwA ad) o.1 o.2) 0 0 (cwA ad) := by
  refine Met.ofW (cc := cX8_worstRow) (maxL := 9) (ret := (some .int)) (by decide) rfl ?_
  intro p e s m args below meth c s₁ B hml hv
  obtain ⟨rfl, hP, hK, hN⟩ := hv
  have C0 : Cx p s m _ meth c cX8_worstRow 9 (some .int) RX8 wsX8_worstRow := ⟨⟨B.exec, B.bytes, hml, findClass_of_methodNamed B.named, atoms_spec B.pre⟩, B.returns, B.notSynchronized⟩
  obtain ⟨⟨hx, hb, -, hown, hts⟩, hr, hlk⟩ := id C0
  have hS : va_S (cwA ad) s.heap s.heap [] := va_S.rf
  have hl := lv_entry ([.ref (ad 35), .int x1, .int x2]) (n := 9) (Nat.le_of_ble_eq_true rfl)
  rw [lg_entry_eq]
  generalize (lg_sl ([.ref (ad 35), .int x1, .int x2]) ++ List.replicate (9 - (lg_sl ([.ref (ad 35), .int x1, .int x2])).length) Slot.unset).toArray = ls at hl ⊢
  have hl : lv_has ls 9 [(0, .ref (ad 35)), (1, .int x1), (2, .int x2)] := hl
  rw [pX8_worstRow] at h
  refine lv_iconst (v := 0) hx hb dX8_worstRow_0 (by decide) ?_
  refine lv_istore_n (lv' := [(3, .int 0), (0, .ref (ad 35)), (1, .int x1), (2, .int x2)]) hx hb dX8_worstRow_1 rfl hl (by decide) rfl (fun ls hl => ?_)
  refine lv_iconst (v := (-1)) hx hb dX8_worstRow_2 (by decide) ?_
  refine lv_istore (lv' := [(4, .int (-1)), (3, .int 0), (0, .ref (ad 35)), (1, .int x1), (2, .int x2)]) hx hb dX8_worstRow_3 hl (by decide) rfl (fun ls hl => ?_)
  refine lv_iconst (v := 0) hx hb dX8_worstRow_5 (by decide) ?_
  refine lv_istore (lv' := [(5, .int 0), (4, .int (-1)), (3, .int 0), (0, .ref (ad 35)), (1, .int x1), (2, .int x2)]) hx hb dX8_worstRow_6 hl (by decide) rfl (fun ls hl => ?_)
  obtain ⟨w15, e16, h⟩ := k_bd h
  refine bX8_worstRow_L8 C0 hK hN hap x1 x2 2000 0 (-1) 0 σ _ _ _ ls hP hS (lv_sub hl [3, 4, 5, 2, 1, 0] rfl) e16 (fun H locs ls hP hS hl => ?_)
  refine lv_iload hx hb dX8_worstRow_103 (lv_at hl 1 rfl) ?_
  refine lv_iconst (v := 4) hx hb dX8_worstRow_105 (by decide) ?_
  refine lv_ishl hx hb dX8_worstRow_106 ?_
  refine lv_iload_n hx hb dX8_worstRow_107 rfl (lv_at hl 0 rfl) ?_
  refine lv_ior hx hb dX8_worstRow_108 ?_
  obtain rfl := k_sm h
  exact W.iret hx hb hr (fun t ht hW => ⟨⟨_, _, rfl, ⟨rfl, rfl⟩, pw_end ht hP⟩, hS.F ht⟩) hS.2.2 dX8_worstRow_109
set_option maxHeartbeats 4000000 in
set_option maxRecDepth 100000 in
theorem bX0_cellsOfOthers_L4 {p : Program} {l : Launch} {e : Env} {s : State} {m : MethodId} {args : Array Value} {below : List Frame} {meth : Method} {c : Code} {Q : State → Prop} {D : va_G} {cI cB cZ : ClassId} {ad : Nat → Nat} (C0 : Cx p s m args meth c cX0_cellsOfOthers 4 (some .int) RX0 wsX0_cellsOfOthers) (hK : va_K D vwCl (tysA cI cB cZ) s) (hN : NW s) {τ : Int64} {σ : Sg} (hP : va_P D vwCl (CW cI ad τ σ) s.heap) (x1 : Int32) : ∀ (n : Nat) (x2 : Int32) (x3 : Int32) (v : Int32) (ls : Array Slot), lv_has ls 4 [(0, .ref (ad 39)), (1, .int x1), (2, .int x2), (3, .int x3)] → pX0_cellsOfOthers_L4 σ x1 n x2 x3 = some v → (∀ (ls1 : Array Slot), lv_has ls1 4 [(2, .int v)] → W p l e rmX0_cellsOfOthers s m args below meth c s.heap [] 0 0 Q (F0 m 42 ls1 [])) → W p l e rmX0_cellsOfOthers s m args below meth c s.heap [] 0 0 Q (F0 m 4 ls []) := by
  obtain ⟨⟨hx, hb, hml, hown, hts⟩, hr, hlk⟩ := id C0
  intro n
  induction n with
  | zero =>
    intro x2 x3 v ls hl h kk
    exact absurd h (by simp [pX0_cellsOfOthers_L4])
  | succ n ih =>
    intro x2 x3 v ls hl h kk
    rw [pX0_cellsOfOthers_L4] at h
    refine lv_iload_n hx hb dX0_cellsOfOthers_4 rfl (lv_at hl 3 rfl) ?_
    refine lv_bipush (v := 10) hx hb dX0_cellsOfOthers_5 (by decide) ?_
    refine lv_icmp_ge (tgt := 42) hx hb dX0_cellsOfOthers_7 (by decide) (fun c7 => ?_) (fun c7 => ?_)
    · replace h := k_ip c7 h
      obtain rfl := k_sm h
      exact kk _ (lv_sub hl [2] rfl)
    · replace h := k_in c7 h
      refine lv_aload_n hx hb dX0_cellsOfOthers_10 rfl (lv_at hl 0 rfl) ?_
      refine va_get (D := D) (ci := 0) (v := .ref (ad 1)) (C := RX0) (T := TX0) (N := 4) hx hb hts iX0_cellsOfOthers_X0 hown hK hP 39 cw_39 rfl 0 (by decide) (hts (.fieldLink RX0 18 RX0 "told" "LAnchorWills$Told;") (by decide +kernel)) (fun _ h9 => h9) rfl dX0_cellsOfOthers_11 ?_
      refine lv_aload_n hx hb dX0_cellsOfOthers_14 rfl (lv_at hl 0 rfl) ?_
      refine va_get (D := D) (ci := 0) (v := .ref (ad 19)) (C := RX0) (T := TX0) (N := 4) hx hb hts iX0_cellsOfOthers_X0 hown hK hP 39 cw_39 rfl 1 (by decide) (hts (.fieldLink RX0 22 RX0 "now" "LAnchorWills$Now;") (by decide +kernel)) (fun _ h9 => h9) rfl dX0_cellsOfOthers_15 ?_
      refine lv_iload_n hx hb dX0_cellsOfOthers_18 rfl (lv_at hl 3 rfl) ?_
      obtain ⟨v1, e2, h⟩ := k_bd h
      refine rd_calli (va_runSN (As := [.ref (ad 1), .ref (ad 19), .int x3]) (rest := []) C0.1 (kX10_lyingIn_20 l (D := D) (cI := cI) (cB := cB) (cZ := cZ) (ad := ad) (τ := τ) σ x3 _ e2) (wX0_cellsOfOthers_X10_lyingIn hts hN ⟨Nat.le_of_ble_eq_true rfl, Nat.le_of_ble_eq_true rfl⟩) ⟨PW.blind, PW.mk hP hK hN⟩ rfl rfl hl.1 rfl (lv_room (Nat.le_of_ble_eq_true rfl)) dX0_cellsOfOthers_19 ⟨Nat.zero_le _, Nat.zero_le _⟩) ?_
      refine lv_iload_n hx hb dX0_cellsOfOthers_22 rfl (lv_at hl 1 rfl) ?_
      refine lv_iconst (v := (-1)) hx hb dX0_cellsOfOthers_23 (by decide) ?_
      refine lv_ixor hx hb dX0_cellsOfOthers_24 ?_
      refine lv_iand hx hb dX0_cellsOfOthers_25 ?_
      refine lv_if_eq (tgt := 36) hx hb dX0_cellsOfOthers_26 (by decide) (fun c26 => ?_) (fun c26 => ?_)
      · replace h := k_ip c26 h
        refine lv_iinc (v := (x3 + 1)) (lv' := [(3, .int (x3 + 1)), (0, .ref (ad 39)), (1, .int x1), (2, .int x2)]) hx hb dX0_cellsOfOthers_36 hl (k := 3) rfl rfl (by decide) rfl (fun ls hl => ?_)
        refine lv_goto (tgt := 4) hx hb dX0_cellsOfOthers_39 (by decide) ?_
        exact ih x2 (x3 + 1) _ ls (lv_sub hl [1, 2, 3, 0] rfl) h kk
      · replace h := k_in c26 h
        refine lv_iload_n hx hb dX0_cellsOfOthers_29 rfl (lv_at hl 2 rfl) ?_
        refine lv_iload_n hx hb dX0_cellsOfOthers_30 rfl (lv_at hl 3 rfl) ?_
        refine rd_calli (va_runSN (As := [.int x3]) (rest := [.int x2]) C0.1 (kX10_bit l x3) (wX0_cellsOfOthers_X10_bit hts hN ⟨Nat.le_of_ble_eq_true rfl, Nat.le_of_ble_eq_true rfl⟩) ⟨PT.blind, fun _ _ _ => ⟨rfl, trivial⟩⟩ rfl rfl hl.1 rfl (lv_room (Nat.le_of_ble_eq_true rfl)) dX0_cellsOfOthers_31 ⟨Nat.zero_le _, Nat.zero_le _⟩) ?_
        refine lv_ior hx hb dX0_cellsOfOthers_34 ?_
        obtain ⟨v3, e4, h⟩ := k_bd h
        refine lv_nmi (k_sm e4) ?_
        refine lv_istore_n (lv' := [(2, .int v3), (0, .ref (ad 39)), (1, .int x1), (3, .int x3)]) hx hb dX0_cellsOfOthers_35 rfl hl (by decide) rfl (fun ls hl => ?_)
        refine lv_iinc (v := (x3 + 1)) (lv' := [(3, .int (x3 + 1)), (2, .int v3), (0, .ref (ad 39)), (1, .int x1)]) hx hb dX0_cellsOfOthers_36 hl (k := 3) rfl rfl (by decide) rfl (fun ls hl => ?_)
        refine lv_goto (tgt := 4) hx hb dX0_cellsOfOthers_39 (by decide) ?_
        exact ih v3 (x3 + 1) _ ls (lv_sub hl [2, 3, 1, 0] rfl) h kk
set_option maxHeartbeats 4000000 in
set_option maxRecDepth 100000 in
theorem kX0_cellsOfOthers (l : Launch) {D : va_G} {cI cB cZ : ClassId} {ad : Nat → Nat} {τ : Int64} (σ : Sg) (x1 : Int32) (o : Int32) (h : pX0_cellsOfOthers σ x1 = some o) : Met l yX0_cellsOfOthers wsX0_cellsOfOthers rmX0_cellsOfOthers (va_Pc [.ref (ad 39), .int x1] (PW D cI cB cZ (CW cI ad τ σ))) (QcRead o) 0 0 (fun _ => False) := by
  refine Met.ofW (cc := cX0_cellsOfOthers) (maxL := 4) (ret := (some .int)) (by decide) rfl ?_
  intro p e s m args below meth c s₁ B hml hv
  obtain ⟨rfl, hP, hK, hN⟩ := hv
  have C0 : Cx p s m _ meth c cX0_cellsOfOthers 4 (some .int) RX0 wsX0_cellsOfOthers := ⟨⟨B.exec, B.bytes, hml, findClass_of_methodNamed B.named, atoms_spec B.pre⟩, B.returns, B.notSynchronized⟩
  obtain ⟨⟨hx, hb, -, hown, hts⟩, hr, hlk⟩ := id C0
  have hl := lv_entry ([.ref (ad 39), .int x1]) (n := 4) (Nat.le_of_ble_eq_true rfl)
  rw [lg_entry_eq]
  generalize (lg_sl ([.ref (ad 39), .int x1]) ++ List.replicate (4 - (lg_sl ([.ref (ad 39), .int x1])).length) Slot.unset).toArray = ls at hl ⊢
  have hl : lv_has ls 4 [(0, .ref (ad 39)), (1, .int x1)] := hl
  rw [pX0_cellsOfOthers] at h
  refine lv_iconst (v := 0) hx hb dX0_cellsOfOthers_0 (by decide) ?_
  refine lv_istore_n (lv' := [(2, .int 0), (0, .ref (ad 39)), (1, .int x1)]) hx hb dX0_cellsOfOthers_1 rfl hl (by decide) rfl (fun ls hl => ?_)
  refine lv_iconst (v := 0) hx hb dX0_cellsOfOthers_2 (by decide) ?_
  refine lv_istore_n (lv' := [(3, .int 0), (2, .int 0), (0, .ref (ad 39)), (1, .int x1)]) hx hb dX0_cellsOfOthers_3 rfl hl (by decide) rfl (fun ls hl => ?_)
  obtain ⟨w5, e6, h⟩ := k_bd h
  refine bX0_cellsOfOthers_L4 C0 hK hN hP x1 2000 0 0 _ ls (lv_sub hl [2, 3, 1, 0] rfl) e6 (fun ls hl => ?_)
  refine lv_iload_n hx hb dX0_cellsOfOthers_42 rfl (lv_at hl 0 rfl) ?_
  obtain rfl := k_sm h
  exact W.iret hx hb hr (fun t ht hW => ⟨rfl, ht⟩) (fun _ h => by cases h) dX0_cellsOfOthers_43
set_option maxHeartbeats 4000000 in
set_option maxRecDepth 100000 in
theorem kX0_isHopeless (l : Launch) {D : va_G} {cI cB cZ : ClassId} {ad : Nat → Nat} {τ : Int64} (σ : Sg) (x1 : Int32) (o : Int32) (h : pX0_isHopeless σ x1 = some o) : Met l yX0_isHopeless wsX0_isHopeless rmX0_isHopeless (va_Pc [.ref (ad 39), .int x1] (PW D cI cB cZ (CW cI ad τ σ))) (QcRead o) 0 0 (fun _ => False) := by
  refine Met.ofW (cc := cX0_isHopeless) (maxL := 2) (ret := (some .boolean)) (by decide) rfl ?_
  intro p e s m args below meth c s₁ B hml hv
  obtain ⟨rfl, hP, hK, hN⟩ := hv
  have C0 : Cx p s m _ meth c cX0_isHopeless 2 (some .boolean) RX0 wsX0_isHopeless := ⟨⟨B.exec, B.bytes, hml, findClass_of_methodNamed B.named, atoms_spec B.pre⟩, B.returns, B.notSynchronized⟩
  obtain ⟨⟨hx, hb, -, hown, hts⟩, hr, hlk⟩ := id C0
  have hl := lv_entry ([.ref (ad 39), .int x1]) (n := 2) (Nat.le_of_ble_eq_true rfl)
  rw [lg_entry_eq]
  generalize (lg_sl ([.ref (ad 39), .int x1]) ++ List.replicate (2 - (lg_sl ([.ref (ad 39), .int x1])).length) Slot.unset).toArray = ls at hl ⊢
  have hl : lv_has ls 2 [(0, .ref (ad 39)), (1, .int x1)] := hl
  rw [pX0_isHopeless] at h
  refine lv_aload_n hx hb dX0_isHopeless_0 rfl (lv_at hl 0 rfl) ?_
  refine va_get (D := D) (ci := 0) (v := .ref (ad 41)) (C := RX0) (T := TX0) (N := 4) hx hb hts iX0_isHopeless_X0 hown hK hP 39 cw_39 rfl 3 (by decide) (hts (.fieldLink RX0 15 RX0 "hopeless" "[I") (by decide +kernel)) (fun _ h9 => h9) rfl dX0_isHopeless_1 ?_
  refine lv_iload_n hx hb dX0_isHopeless_4 rfl (lv_at hl 1 rfl) ?_
  refine lv_bipush (v := 16) hx hb dX0_isHopeless_5 (by decide) ?_
  obtain ⟨v1, e2, h⟩ := k_bd h
  refine lv_idiv hx hb dX0_isHopeless_7 (k_dv e2).1 ?_
  refine lv_nmi (k_dv e2).2 ?_
  refine rd_calli (va_runSN (As := [.ref (ad 41), .int v1]) (rest := []) C0.1 (kX10_at l (ad 41) 64 (σ 41) v1 (by decide)) (wX0_isHopeless_X10_at hts hN ⟨Nat.le_of_ble_eq_true rfl, Nat.le_of_ble_eq_true rfl⟩) ⟨PAt.blind, PAt.mk (cw_t41 hK hP)⟩ rfl rfl hl.1 rfl (lv_room (Nat.le_of_ble_eq_true rfl)) dX0_isHopeless_8 ⟨Nat.zero_le _, Nat.zero_le _⟩) ?_
  refine lv_iload_n hx hb dX0_isHopeless_11 rfl (lv_at hl 1 rfl) ?_
  refine lv_bipush (v := 16) hx hb dX0_isHopeless_12 (by decide) ?_
  obtain ⟨v3, e4, h⟩ := k_bd h
  refine lv_irem hx hb dX0_isHopeless_14 (k_rm e4).1 ?_
  refine lv_nmi (k_rm e4).2 ?_
  refine rd_calli (va_runSN (As := [.int (pX10_at (σ 41) 64 v1), .int v3]) (rest := []) C0.1 (kX10_has l (pX10_at (σ 41) 64 v1) v3) (wX0_isHopeless_X10_has hts hN ⟨Nat.le_of_ble_eq_true rfl, Nat.le_of_ble_eq_true rfl⟩) ⟨PT.blind, fun _ _ _ => ⟨rfl, trivial⟩⟩ rfl rfl hl.1 rfl (lv_room (Nat.le_of_ble_eq_true rfl)) dX0_isHopeless_15 ⟨Nat.zero_le _, Nat.zero_le _⟩) ?_
  obtain rfl := k_sm h
  exact W.zret hx hb hr (k_01 (z_pX10_has (pX10_at (σ 41) 64 v1) v3)) (fun t ht hW => ⟨rfl, ht⟩) (fun _ h => by cases h) dX0_isHopeless_18
set_option maxHeartbeats 4000000 in
set_option maxRecDepth 100000 in
theorem kX0_wouldHold (l : Launch) {D : va_G} {cI cB cZ : ClassId} {ad : Nat → Nat} {τ : Int64} (σ : Sg) (x1 : Int32) (x2 : Int32) (x3 : Int32) (o : Int32) (h : pX0_wouldHold σ x1 x2 x3 = some o) : Met l yX0_wouldHold wsX0_wouldHold rmX0_wouldHold (va_Pc [.ref (ad 39), .int x1, .int x2, .int x3] (PW D cI cB cZ (CW cI ad τ σ))) (QcRead o) 0 0 (fun _ => False) := by
  refine Met.ofW (cc := cX0_wouldHold) (maxL := 4) (ret := (some .boolean)) (by decide) rfl ?_
  intro p e s m args below meth c s₁ B hml hv
  obtain ⟨rfl, hP, hK, hN⟩ := hv
  have C0 : Cx p s m _ meth c cX0_wouldHold 4 (some .boolean) RX0 wsX0_wouldHold := ⟨⟨B.exec, B.bytes, hml, findClass_of_methodNamed B.named, atoms_spec B.pre⟩, B.returns, B.notSynchronized⟩
  obtain ⟨⟨hx, hb, -, hown, hts⟩, hr, hlk⟩ := id C0
  have hl := lv_entry ([.ref (ad 39), .int x1, .int x2, .int x3]) (n := 4) (Nat.le_of_ble_eq_true rfl)
  rw [lg_entry_eq]
  generalize (lg_sl ([.ref (ad 39), .int x1, .int x2, .int x3]) ++ List.replicate (4 - (lg_sl ([.ref (ad 39), .int x1, .int x2, .int x3])).length) Slot.unset).toArray = ls at hl ⊢
  have hl : lv_has ls 4 [(0, .ref (ad 39)), (1, .int x1), (2, .int x2), (3, .int x3)] := hl
  rw [pX0_wouldHold] at h
  refine lv_aload_n hx hb dX0_wouldHold_0 rfl (lv_at hl 0 rfl) ?_
  refine va_get (D := D) (ci := 0) (v := .ref (ad 1)) (C := RX0) (T := TX0) (N := 4) hx hb hts iX0_wouldHold_X0 hown hK hP 39 cw_39 rfl 0 (by decide) (hts (.fieldLink RX0 18 RX0 "told" "LAnchorWills$Told;") (by decide +kernel)) (fun _ h9 => h9) rfl dX0_wouldHold_1 ?_
  refine lv_iload_n hx hb dX0_wouldHold_4 rfl (lv_at hl 1 rfl) ?_
  refine lv_iload_n hx hb dX0_wouldHold_5 rfl (lv_at hl 2 rfl) ?_
  refine lv_aload_n hx hb dX0_wouldHold_6 rfl (lv_at hl 0 rfl) ?_
  refine va_get (D := D) (ci := 0) (v := .ref (ad 19)) (C := RX0) (T := TX0) (N := 4) hx hb hts iX0_wouldHold_X0 hown hK hP 39 cw_39 rfl 1 (by decide) (hts (.fieldLink RX0 22 RX0 "now" "LAnchorWills$Now;") (by decide +kernel)) (fun _ h9 => h9) rfl dX0_wouldHold_7 ?_
  refine lv_bipush (v := 8) hx hb dX0_wouldHold_10 (by decide) ?_
  refine lv_iload_n hx hb dX0_wouldHold_12 rfl (lv_at hl 2 rfl) ?_
  refine rd_calli (va_runVN (As := [.int 8, .int x2]) (rest := [.int x2, .int x1, .ref (ad 1)]) C0.1 (kX5_get_20 l (D := D) (cI := cI) (cB := cB) (cZ := cZ) (ad := ad) (τ := τ) σ 8 x2) (wX0_wouldHold_X5_get hts hN ⟨Nat.le_of_ble_eq_true rfl, Nat.le_of_ble_eq_true rfl⟩) ⟨PW.blind, cw_r19 hK hP, PW.mk hP hK hN⟩ rfl rfl hl.1 rfl (lv_room (Nat.le_of_ble_eq_true rfl)) dX0_wouldHold_13 ⟨Nat.zero_le _, Nat.zero_le _⟩) ?_
  obtain ⟨v1, e2, h⟩ := k_bd h
  refine rd_calli (va_runVN (As := [.int x1, .int x2, .int (pX5_get 20 σ 8 x2)]) (rest := []) C0.1 (kX9_strengthIn l (D := D) (cI := cI) (cB := cB) (cZ := cZ) (ad := ad) (τ := τ) σ x1 x2 (pX5_get 20 σ 8 x2) _ e2) (wX0_wouldHold_X9_strengthIn hts hN ⟨Nat.le_of_ble_eq_true rfl, Nat.le_of_ble_eq_true rfl⟩) ⟨PW.blind, cw_r1 hK hP, PW.mk hP hK hN⟩ rfl rfl hl.1 rfl (lv_room (Nat.le_of_ble_eq_true rfl)) dX0_wouldHold_16 ⟨Nat.zero_le _, Nat.zero_le _⟩) ?_
  refine lv_iload_n hx hb dX0_wouldHold_19 rfl (lv_at hl 3 rfl) ?_
  refine lv_icmp_lt (tgt := 27) hx hb dX0_wouldHold_20 (by decide) (fun c20 => ?_) (fun c20 => ?_)
  · replace h := k_ip c20 h
    refine lv_iconst (v := 0) hx hb dX0_wouldHold_27 (by decide) ?_
    obtain rfl := k_sm h
    exact W.zret hx hb hr rfl (fun t ht hW => ⟨rfl, ht⟩) (fun _ h => by cases h) dX0_wouldHold_28
  · replace h := k_in c20 h
    refine lv_iconst (v := 1) hx hb dX0_wouldHold_23 (by decide) ?_
    refine lv_goto (tgt := 28) hx hb dX0_wouldHold_24 (by decide) ?_
    obtain rfl := k_sm h
    exact W.zret hx hb hr rfl (fun t ht hW => ⟨rfl, ht⟩) (fun _ h => by cases h) dX0_wouldHold_28
set_option maxHeartbeats 4000000 in
set_option maxRecDepth 100000 in
theorem kX0_callsHopeless (l : Launch) {D : va_G} {cI cB cZ : ClassId} {ad : Nat → Nat} {τ : Int64} (hap : cwX ad) (σ : Sg) (x1 : Int32) (o : Sg) (h : pX0_callsHopeless σ x1 = some o) : Met l yX0_callsHopeless wsX0_callsHopeless rmX0_callsHopeless (va_Pc [.ref (ad 39), .int x1] (PW D cI cB cZ (CW cI ad τ σ))) (QV D (CW cI ad τ) (cwA ad) o) 0 0 (cwA ad) := by
  refine Met.ofW (cc := cX0_callsHopeless) (maxL := 3) (ret := none) (by decide) rfl ?_
  intro p e s m args below meth c s₁ B hml hv
  obtain ⟨rfl, hP, hK, hN⟩ := hv
  have C0 : Cx p s m _ meth c cX0_callsHopeless 3 none RX0 wsX0_callsHopeless := ⟨⟨B.exec, B.bytes, hml, findClass_of_methodNamed B.named, atoms_spec B.pre⟩, B.returns, B.notSynchronized⟩
  obtain ⟨⟨hx, hb, -, hown, hts⟩, hr, hlk⟩ := id C0
  have hS : va_S (cwA ad) s.heap s.heap [] := va_S.rf
  have hl := lv_entry ([.ref (ad 39), .int x1]) (n := 3) (Nat.le_of_ble_eq_true rfl)
  rw [lg_entry_eq]
  generalize (lg_sl ([.ref (ad 39), .int x1]) ++ List.replicate (3 - (lg_sl ([.ref (ad 39), .int x1])).length) Slot.unset).toArray = ls at hl ⊢
  have hl : lv_has ls 3 [(0, .ref (ad 39)), (1, .int x1)] := hl
  rw [pX0_callsHopeless] at h
  refine lv_iload_n hx hb dX0_callsHopeless_0 rfl (lv_at hl 1 rfl) ?_
  refine lv_bipush (v := 16) hx hb dX0_callsHopeless_1 (by decide) ?_
  obtain ⟨v1, e2, h⟩ := k_bd h
  refine lv_idiv hx hb dX0_callsHopeless_3 (k_dv e2).1 ?_
  refine lv_nmi (k_dv e2).2 ?_
  refine lv_istore_n (lv' := [(2, .int v1), (0, .ref (ad 39)), (1, .int x1)]) hx hb dX0_callsHopeless_4 rfl hl (by decide) rfl (fun ls hl => ?_)
  refine lv_aload_n hx hb dX0_callsHopeless_5 rfl (lv_at hl 1 rfl) ?_
  refine va_get (D := D) (ci := 0) (v := .ref (ad 41)) (C := RX0) (T := TX0) (N := 4) hx hb hts iX0_callsHopeless_X0 hown hK hP 39 cw_39 rfl 3 (by decide) (hts (.fieldLink RX0 15 RX0 "hopeless" "[I") (by decide +kernel)) (fun _ h9 => h9) rfl dX0_callsHopeless_6 ?_
  refine lv_iload_n hx hb dX0_callsHopeless_9 rfl (lv_at hl 0 rfl) ?_
  refine lv_aload_n hx hb dX0_callsHopeless_10 rfl (lv_at hl 1 rfl) ?_
  refine va_get (D := D) (ci := 0) (v := .ref (ad 41)) (C := RX0) (T := TX0) (N := 4) hx hb hts iX0_callsHopeless_X0 hown hK hP 39 cw_39 rfl 3 (by decide) (hts (.fieldLink RX0 15 RX0 "hopeless" "[I") (by decide +kernel)) (fun _ h9 => h9) rfl dX0_callsHopeless_11 ?_
  refine lv_iload_n hx hb dX0_callsHopeless_14 rfl (lv_at hl 0 rfl) ?_
  refine rd_calli (va_runSN (As := [.ref (ad 41), .int v1]) (rest := [.int v1, .ref (ad 41)]) C0.1 (kX10_at l (ad 41) 64 (σ 41) v1 (by decide)) (wX0_callsHopeless_X10_at hts hN ⟨Nat.le_of_ble_eq_true rfl, Nat.le_of_ble_eq_true rfl⟩) ⟨PAt.blind, PAt.mk (cw_t41 hK hP)⟩ rfl rfl hl.1 rfl (lv_room (Nat.le_of_ble_eq_true rfl)) dX0_callsHopeless_15 ⟨Nat.zero_le _, Nat.zero_le _⟩) ?_
  refine lv_iload_n hx hb dX0_callsHopeless_18 rfl (lv_at hl 2 rfl) ?_
  refine lv_bipush (v := 16) hx hb dX0_callsHopeless_19 (by decide) ?_
  obtain ⟨v3, e4, h⟩ := k_bd h
  refine lv_irem hx hb dX0_callsHopeless_21 (k_rm e4).1 ?_
  refine lv_nmi (k_rm e4).2 ?_
  refine rd_calli (va_runSN (As := [.int v3]) (rest := [.int (pX10_at (σ 41) 64 v1), .int v1, .ref (ad 41)]) C0.1 (kX10_bit l v3) (wX0_callsHopeless_X10_bit hts hN ⟨Nat.le_of_ble_eq_true rfl, Nat.le_of_ble_eq_true rfl⟩) ⟨PT.blind, fun _ _ _ => ⟨rfl, trivial⟩⟩ rfl rfl hl.1 rfl (lv_room (Nat.le_of_ble_eq_true rfl)) dX0_callsHopeless_22 ⟨Nat.zero_le _, Nat.zero_le _⟩) ?_
  refine lv_ior hx hb dX0_callsHopeless_25 ?_
  refine wr_callv (va_runSN (As := [.ref (ad 41), .int v1, .int ((pX10_at (σ 41) 64 v1) ||| (pX10_bit v3))]) (rest := []) C0.1 (kX10_put l (cw_D hap) 41 cw_41 (by decide) v1 ((pX10_at (σ 41) 64 v1) ||| (pX10_bit v3))) (wX0_callsHopeless_X10_put hts hN ⟨Nat.le_of_ble_eq_true rfl, Nat.le_of_ble_eq_true rfl⟩) ⟨PW.blind, PW.mk hP hK hN⟩ rfl rfl hl.1 rfl (lv_room (Nat.le_of_ble_eq_true rfl)) dX0_callsHopeless_26 ⟨Nat.zero_le _, Nat.zero_le _⟩) hS (fun _ h => h) (fun H locs hP hS => ?_)
  have hP := cw_s41 hP
  obtain ⟨σ5, e6, h⟩ := k_bd h
  rw [k_sm e6] at hP
  obtain rfl := k_sm h
  exact W.vret hx hb hr (fun t ht hW => ⟨⟨_, rfl, rfl, pw_end ht hP⟩, hS.F ht⟩) hS.2.2 dX0_callsHopeless_29
set_option maxHeartbeats 4000000 in
set_option maxRecDepth 100000 in
theorem bX0_lays_L47 {p : Program} {l : Launch} {e : Env} {s : State} {m : MethodId} {args : Array Value} {below : List Frame} {meth : Method} {c : Code} {D : va_G} {cI cB cZ : ClassId} {ad : Nat → Nat} (C0 : Cx p s m args meth c cX0_lays 6 (some .boolean) RX0 wsX0_lays) (hK : va_K D vwCl (tysA cI cB cZ) s) (hN : NW s) (hap : cwX ad) {τ : Int64} {d : Nat} {rec : Sg → Int32 → Int32 → Int32 → Int32 → Option (Int32 × Sg)} (hrec : ∀ (σ : Sg) (x1 x2 x3 x4 : Int32) (o : Int32 × Sg), rec σ x1 x2 x3 x4 = some o → Met l yX0_lays wsX0_lays (rmX0_lays d) (va_Pc [.ref (ad 39), .int x1, .int x2, .int x3, .int x4] (PW D cI cB cZ (CW cI ad τ σ))) (QI D (CW cI ad τ) (cwA ad) o.1 o.2) 0 0 (cwA ad)) (x1 : Int32) (x2 : Int32) (x3 : Int32) (x4 : Int32) : ∀ (n : Nat) (x5 : Int32) (σ : Sg) (o : (Int32 × Sg)) (H : Heap) (locs : List Loc) (ls : Array Slot), va_P D vwCl (CW cI ad τ σ) H → va_S (cwA ad) s.heap H locs → lv_has ls 6 [(0, .ref (ad 39)), (1, .int x1), (2, .int x2), (3, .int x3), (4, .int x4), (5, .int x5)] → pX0_lays_L47 rec x1 x2 x3 x4 n x5 σ = some o → W p l e (rmX0_lays (d + 1)) s m args below meth c H locs 0 0 (MQ below (QI D (CW cI ad τ) (cwA ad) o.1 o.2) args s 0 0 (cwA ad)) (F0 m 47 ls []) := by
  obtain ⟨⟨hx, hb, hml, hown, hts⟩, hr, hlk⟩ := id C0
  intro n
  induction n with
  | zero =>
    intro x5 σ o H locs ls hP hS hl h
    exact absurd h (by simp [pX0_lays_L47])
  | succ n ih =>
    intro x5 σ o H locs ls hP hS hl h
    rw [pX0_lays_L47] at h
    refine lv_iload hx hb dX0_lays_47 (lv_at hl 5 rfl) ?_
    refine lv_bipush (v := 10) hx hb dX0_lays_49 (by decide) ?_
    refine lv_icmp_ge (tgt := 113) hx hb dX0_lays_51 (by decide) (fun c51 => ?_) (fun c51 => ?_)
    · replace h := k_ip c51 h
      refine lv_aload_n hx hb dX0_lays_113 rfl (lv_at hl 0 rfl) ?_
      refine lv_iload hx hb dX0_lays_114 (lv_at hl 4 rfl) ?_
      obtain ⟨u3, e4, h⟩ := k_bd h
      refine wr_callv (va_runV (As := [.int x4]) (rest := []) C0.1 (kX0_callsHopeless l (D := D) (cI := cI) (cB := cB) (cZ := cZ) (τ := τ) hap σ x4 _ e4) (wX0_lays_X0_callsHopeless hts ⟨by simp only [headSpec, rmX0_lays, rmX0_callsHopeless]; omega, by simp only [headSpec, rmX0_lays, rmX0_callsHopeless]; omega⟩) ⟨PW.blind, cw_r39 hK hP, PW.mk hP hK hN⟩ rfl rfl hl.1 rfl (lv_room (Nat.le_of_ble_eq_true rfl)) dX0_lays_116 ⟨Nat.zero_le _, Nat.zero_le _⟩) hS (fun _ h => h) (fun H locs hP hS => ?_)
      have hP : va_P D vwCl (CW cI ad τ u3) H := hP
      refine lv_iconst (v := 0) hx hb dX0_lays_119 (by decide) ?_
      obtain rfl := k_sm h
      exact W.zret hx hb hr rfl (fun t ht hW => ⟨⟨_, _, rfl, ⟨rfl, rfl⟩, pw_end ht hP⟩, hS.F ht⟩) hS.2.2 dX0_lays_120
    · replace h := k_in c51 h
      refine lv_iload hx hb dX0_lays_54 (lv_at hl 4 rfl) ?_
      refine lv_iload hx hb dX0_lays_56 (lv_at hl 5 rfl) ?_
      refine rd_calli (va_runSN (As := [.int x4, .int x5]) (rest := []) C0.1 (kX10_has l x4 x5) (wX0_lays_X10_has hts hN ⟨by simp only [headSpec, rmX0_lays, rmX10_has]; omega, by simp only [headSpec, rmX0_lays, rmX10_has]; omega⟩) ⟨PT.blind, fun _ _ _ => ⟨rfl, trivial⟩⟩ rfl rfl hl.1 rfl (lv_room (Nat.le_of_ble_eq_true rfl)) dX0_lays_58 ⟨Nat.zero_le _, Nat.zero_le _⟩) ?_
      refine lv_if_ne (tgt := 107) hx hb dX0_lays_61 (by decide) (fun c61 => ?_) (fun c61 => ?_)
      · replace h := k_in c61 h
        refine lv_iinc (v := (x5 + 1)) (lv' := [(5, .int (x5 + 1)), (0, .ref (ad 39)), (1, .int x1), (2, .int x2), (3, .int x3), (4, .int x4)]) hx hb dX0_lays_107 hl (k := 5) rfl rfl (by decide) rfl (fun ls hl => ?_)
        refine lv_goto (tgt := 47) hx hb dX0_lays_110 (by decide) ?_
        exact ih (x5 + 1) σ _ _ _ ls hP hS (lv_sub hl [1, 2, 3, 4, 5, 0] rfl) h
      · replace h := k_ip c61 h
        refine lv_aload_n hx hb dX0_lays_64 rfl (lv_at hl 0 rfl) ?_
        refine lv_iload hx hb dX0_lays_65 (lv_at hl 5 rfl) ?_
        refine lv_iload_n hx hb dX0_lays_67 rfl (lv_at hl 3 rfl) ?_
        refine lv_iload_n hx hb dX0_lays_68 rfl (lv_at hl 2 rfl) ?_
        obtain ⟨v5, e6, h⟩ := k_bd h
        refine rd_calli (va_runV (As := [.int x5, .int x3, .int x2]) (rest := []) C0.1 (kX0_wouldHold l (D := D) (cI := cI) (cB := cB) (cZ := cZ) (ad := ad) (τ := τ) σ x5 x3 x2 _ e6) (wX0_lays_X0_wouldHold hts ⟨by simp only [headSpec, rmX0_lays, rmX0_wouldHold]; omega, by simp only [headSpec, rmX0_lays, rmX0_wouldHold]; omega⟩) ⟨PW.blind, cw_r39 hK hP, PW.mk hP hK hN⟩ rfl rfl hl.1 rfl (lv_room (Nat.le_of_ble_eq_true rfl)) dX0_lays_69 ⟨Nat.zero_le _, Nat.zero_le _⟩) ?_
        refine lv_if_eq (tgt := 107) hx hb dX0_lays_72 (by decide) (fun c72 => ?_) (fun c72 => ?_)
        · replace h := k_ip c72 h
          refine lv_iinc (v := (x5 + 1)) (lv' := [(5, .int (x5 + 1)), (0, .ref (ad 39)), (1, .int x1), (2, .int x2), (3, .int x3), (4, .int x4)]) hx hb dX0_lays_107 hl (k := 5) rfl rfl (by decide) rfl (fun ls hl => ?_)
          refine lv_goto (tgt := 47) hx hb dX0_lays_110 (by decide) ?_
          exact ih (x5 + 1) σ _ _ _ ls hP hS (lv_sub hl [1, 2, 3, 4, 5, 0] rfl) h
        · replace h := k_in c72 h
          refine lv_aload_n hx hb dX0_lays_75 rfl (lv_at hl 0 rfl) ?_
          refine va_get (D := D) (ci := 0) (v := .ref (ad 40)) (C := RX0) (T := TX0) (N := 4) hx hb hts iX0_lays_X0 hown hK hP 39 cw_39 rfl 2 (by decide) (hts (.fieldLink RX0 9 RX0 "berths" "[I") (by decide +kernel)) (fun _ h9 => h9) rfl dX0_lays_76 ?_
          refine lv_iload_n hx hb dX0_lays_79 rfl (lv_at hl 3 rfl) ?_
          refine lv_iload hx hb dX0_lays_80 (lv_at hl 5 rfl) ?_
          refine wr_callv (va_runSN (As := [.ref (ad 40), .int x3, .int x5]) (rest := []) C0.1 (kX10_put l (cw_D hap) 40 cw_40 (by decide) x3 x5) (wX0_lays_X10_put hts hN ⟨by simp only [headSpec, rmX0_lays, rmX10_put]; omega, by simp only [headSpec, rmX0_lays, rmX10_put]; omega⟩) ⟨PW.blind, PW.mk hP hK hN⟩ rfl rfl hl.1 rfl (lv_room (Nat.le_of_ble_eq_true rfl)) dX0_lays_82 ⟨Nat.zero_le _, Nat.zero_le _⟩) hS (fun _ h => h) (fun H locs hP hS => ?_)
          have hP := cw_s40 hP
          obtain ⟨σ7, e8, h⟩ := k_bd h
          rw [k_sm e8] at hP
          refine lv_aload_n hx hb dX0_lays_85 rfl (lv_at hl 0 rfl) ?_
          refine lv_iload_n hx hb dX0_lays_86 rfl (lv_at hl 1 rfl) ?_
          refine lv_iload_n hx hb dX0_lays_87 rfl (lv_at hl 2 rfl) ?_
          refine lv_iload_n hx hb dX0_lays_88 rfl (lv_at hl 3 rfl) ?_
          refine lv_iconst (v := 1) hx hb dX0_lays_89 (by decide) ?_
          refine lv_iadd hx hb dX0_lays_90 ?_
          refine lv_iload hx hb dX0_lays_91 (lv_at hl 4 rfl) ?_
          refine lv_iload hx hb dX0_lays_93 (lv_at hl 5 rfl) ?_
          refine rd_calli (va_runSN (As := [.int x5]) (rest := [.int x4, .int (x3 + 1), .int x2, .int x1, .ref (ad 39)]) C0.1 (kX10_bit l x5) (wX0_lays_X10_bit hts hN ⟨by simp only [headSpec, rmX0_lays, rmX10_bit]; omega, by simp only [headSpec, rmX0_lays, rmX10_bit]; omega⟩) ⟨PT.blind, fun _ _ _ => ⟨rfl, trivial⟩⟩ rfl rfl hl.1 rfl (lv_room (Nat.le_of_ble_eq_true rfl)) dX0_lays_95 ⟨Nat.zero_le _, Nat.zero_le _⟩) ?_
          refine lv_ior hx hb dX0_lays_98 ?_
          obtain ⟨u9, e10, h⟩ := k_bd h
          refine wr_calli (va_runS (As := [.ref (ad 39), .int x1, .int x2, .int (x3 + 1), .int (x4 ||| (pX10_bit x5))]) (rest := []) C0.1 (hrec σ7 x1 x2 (x3 + 1) (x4 ||| (pX10_bit x5)) _ e10) (wX0_lays_X0_lays hts ⟨by simp only [headSpec, rmX0_lays]; omega, by simp only [headSpec, rmX0_lays]; omega⟩) ⟨PW.blind, PW.mk hP hK hN⟩ rfl rfl hl.1 rfl (lv_room (Nat.le_of_ble_eq_true rfl)) dX0_lays_99 ⟨Nat.zero_le _, Nat.zero_le _⟩) hS (fun _ h => h) (fun H locs hP hS => ?_)
          have hP : va_P D vwCl (CW cI ad τ u9.2) H := hP
          refine lv_if_eq (tgt := 107) hx hb dX0_lays_102 (by decide) (fun c102 => ?_) (fun c102 => ?_)
          · replace h := k_ip c102 h
            refine lv_iinc (v := (x5 + 1)) (lv' := [(5, .int (x5 + 1)), (0, .ref (ad 39)), (1, .int x1), (2, .int x2), (3, .int x3), (4, .int x4)]) hx hb dX0_lays_107 hl (k := 5) rfl rfl (by decide) rfl (fun ls hl => ?_)
            refine lv_goto (tgt := 47) hx hb dX0_lays_110 (by decide) ?_
            exact ih (x5 + 1) u9.2 _ _ _ ls hP hS (lv_sub hl [1, 2, 3, 4, 5, 0] rfl) h
          · replace h := k_in c102 h
            refine lv_iconst (v := 1) hx hb dX0_lays_105 (by decide) ?_
            obtain rfl := k_sm h
            exact W.zret hx hb hr rfl (fun t ht hW => ⟨⟨_, _, rfl, ⟨rfl, rfl⟩, pw_end ht hP⟩, hS.F ht⟩) hS.2.2 dX0_lays_106
set_option maxHeartbeats 4000000 in
set_option maxRecDepth 100000 in
theorem kX0_lays (l : Launch) {D : va_G} {cI cB cZ : ClassId} {ad : Nat → Nat} {τ : Int64} (hap : cwX ad) : ∀ (d : Nat) (σ : Sg) (x1 x2 x3 x4 : Int32) (o : (Int32 × Sg)), pX0_lays d σ x1 x2 x3 x4 = some o → Met l yX0_lays wsX0_lays (rmX0_lays d) (va_Pc [.ref (ad 39), .int x1, .int x2, .int x3, .int x4] (PW D cI cB cZ (CW cI ad τ σ))) (QI D (CW cI ad τ) (cwA ad) o.1 o.2) 0 0 (cwA ad) := by
  intro d
  induction d with
  | zero =>
    intro σ x1 x2 x3 x4 o h
    exact absurd h (by simp [pX0_lays])
  | succ d hrec =>
  intro σ x1 x2 x3 x4 o h
  refine Met.ofW (cc := cX0_lays) (maxL := 6) (ret := (some .boolean)) (by decide) rfl ?_
  intro p e s m args below meth c s₁ B hml hv
  obtain ⟨rfl, hP, hK, hN⟩ := hv
  have C0 : Cx p s m _ meth c cX0_lays 6 (some .boolean) RX0 wsX0_lays := ⟨⟨B.exec, B.bytes, hml, findClass_of_methodNamed B.named, atoms_spec B.pre⟩, B.returns, B.notSynchronized⟩
  obtain ⟨⟨hx, hb, -, hown, hts⟩, hr, hlk⟩ := id C0
  have hS : va_S (cwA ad) s.heap s.heap [] := va_S.rf
  have hl := lv_entry ([.ref (ad 39), .int x1, .int x2, .int x3, .int x4]) (n := 6) (Nat.le_of_ble_eq_true rfl)
  rw [lg_entry_eq]
  generalize (lg_sl ([.ref (ad 39), .int x1, .int x2, .int x3, .int x4]) ++ List.replicate (6 - (lg_sl ([.ref (ad 39), .int x1, .int x2, .int x3, .int x4])).length) Slot.unset).toArray = ls at hl ⊢
  have hl : lv_has ls 6 [(0, .ref (ad 39)), (1, .int x1), (2, .int x2), (3, .int x3), (4, .int x4)] := hl
  rw [pX0_lays] at h
  refine lv_iload_n hx hb dX0_lays_0 rfl (lv_at hl 3 rfl) ?_
  refine lv_aload_n hx hb dX0_lays_1 rfl (lv_at hl 0 rfl) ?_
  refine va_get (D := D) (ci := 0) (v := .ref (ad 1)) (C := RX0) (T := TX0) (N := 4) hx hb hts iX0_lays_X0 hown hK hP 39 cw_39 rfl 0 (by decide) (hts (.fieldLink RX0 18 RX0 "told" "LAnchorWills$Told;") (by decide +kernel)) (fun _ h9 => h9) rfl dX0_lays_2 ?_
  refine va_getN (D := D) (ci := 9) (v := .int (σ 1 8)) (C := RX9) (T := TX9) (N := 10) hx hb hts iX0_lays_X9 hown hK hP 1 cw_1 rfl 8 (by decide) (va_Nw.use rfl (nf_X0_49 hN)) (fun _ h9 => h9) rfl dX0_lays_5 ?_
  refine lv_icmp_lt (tgt := 13) hx hb dX0_lays_8 (by decide) (fun c8 => ?_) (fun c8 => ?_)
  · replace h := k_ip c8 h
    refine lv_iload_n hx hb dX0_lays_13 rfl (lv_at hl 1 rfl) ?_
    refine lv_iload_n hx hb dX0_lays_14 rfl (lv_at hl 3 rfl) ?_
    refine rd_calli (va_runSN (As := [.int x1, .int x3]) (rest := []) C0.1 (kX10_has l x1 x3) (wX0_lays_X10_has hts hN ⟨by simp only [headSpec, rmX0_lays, rmX10_has]; omega, by simp only [headSpec, rmX0_lays, rmX10_has]; omega⟩) ⟨PT.blind, fun _ _ _ => ⟨rfl, trivial⟩⟩ rfl rfl hl.1 rfl (lv_room (Nat.le_of_ble_eq_true rfl)) dX0_lays_15 ⟨Nat.zero_le _, Nat.zero_le _⟩) ?_
    refine lv_if_ne (tgt := 33) hx hb dX0_lays_18 (by decide) (fun c18 => ?_) (fun c18 => ?_)
    · replace h := k_in c18 h
      refine lv_aload_n hx hb dX0_lays_33 rfl (lv_at hl 0 rfl) ?_
      refine lv_iload hx hb dX0_lays_34 (lv_at hl 4 rfl) ?_
      obtain ⟨v1, e2, h⟩ := k_bd h
      refine rd_calli (va_runV (As := [.int x4]) (rest := []) C0.1 (kX0_isHopeless l (D := D) (cI := cI) (cB := cB) (cZ := cZ) (ad := ad) (τ := τ) σ x4 _ e2) (wX0_lays_X0_isHopeless hts ⟨by simp only [headSpec, rmX0_lays, rmX0_isHopeless]; omega, by simp only [headSpec, rmX0_lays, rmX0_isHopeless]; omega⟩) ⟨PW.blind, cw_r39 hK hP, PW.mk hP hK hN⟩ rfl rfl hl.1 rfl (lv_room (Nat.le_of_ble_eq_true rfl)) dX0_lays_36 ⟨Nat.zero_le _, Nat.zero_le _⟩) ?_
      refine lv_if_eq (tgt := 44) hx hb dX0_lays_39 (by decide) (fun c39 => ?_) (fun c39 => ?_)
      · replace h := k_ip c39 h
        refine lv_iconst (v := 0) hx hb dX0_lays_44 (by decide) ?_
        refine lv_istore (lv' := [(5, .int 0), (0, .ref (ad 39)), (1, .int x1), (2, .int x2), (3, .int x3), (4, .int x4)]) hx hb dX0_lays_45 hl (by decide) rfl (fun ls hl => ?_)
        exact bX0_lays_L47 C0 hK hN hap hrec x1 x2 x3 x4 2000 0 σ _ _ _ ls hP hS (lv_sub hl [1, 2, 3, 4, 5, 0] rfl) h
      · replace h := k_in c39 h
        refine lv_iconst (v := 0) hx hb dX0_lays_42 (by decide) ?_
        obtain rfl := k_sm h
        exact W.zret hx hb hr rfl (fun t ht hW => ⟨⟨_, _, rfl, ⟨rfl, rfl⟩, pw_end ht hP⟩, hS.F ht⟩) hS.2.2 dX0_lays_43
    · replace h := k_ip c18 h
      refine lv_aload_n hx hb dX0_lays_21 rfl (lv_at hl 0 rfl) ?_
      refine lv_iload_n hx hb dX0_lays_22 rfl (lv_at hl 1 rfl) ?_
      refine lv_iload_n hx hb dX0_lays_23 rfl (lv_at hl 2 rfl) ?_
      refine lv_iload_n hx hb dX0_lays_24 rfl (lv_at hl 3 rfl) ?_
      refine lv_iconst (v := 1) hx hb dX0_lays_25 (by decide) ?_
      refine lv_iadd hx hb dX0_lays_26 ?_
      refine lv_iload hx hb dX0_lays_27 (lv_at hl 4 rfl) ?_
      obtain ⟨u11, e12, h⟩ := k_bd h
      refine wr_calli (va_runS (As := [.ref (ad 39), .int x1, .int x2, .int (x3 + 1), .int x4]) (rest := []) C0.1 (hrec σ x1 x2 (x3 + 1) x4 _ e12) (wX0_lays_X0_lays hts ⟨by simp only [headSpec, rmX0_lays]; omega, by simp only [headSpec, rmX0_lays]; omega⟩) ⟨PW.blind, PW.mk hP hK hN⟩ rfl rfl hl.1 rfl (lv_room (Nat.le_of_ble_eq_true rfl)) dX0_lays_29 ⟨Nat.zero_le _, Nat.zero_le _⟩) hS (fun _ h => h) (fun H locs hP hS => ?_)
      have hP : va_P D vwCl (CW cI ad τ u11.2) H := hP
      obtain ⟨v13, e14, h⟩ := k_bd h
      refine lv_nmi (k_zb e14).2 ?_
      have hz : narrow .boolean (.int v13) = .int v13 := by have q := k_zb e14; rw [q.2] at q; exact q.1
      obtain rfl := k_sm h
      exact W.zret hx hb hr hz (fun t ht hW => ⟨⟨_, _, rfl, ⟨rfl, rfl⟩, pw_end ht hP⟩, hS.F ht⟩) hS.2.2 dX0_lays_32
  · replace h := k_in c8 h
    refine lv_iconst (v := 1) hx hb dX0_lays_11 (by decide) ?_
    obtain rfl := k_sm h
    exact W.zret hx hb hr rfl (fun t ht hW => ⟨⟨_, _, rfl, ⟨rfl, rfl⟩, pw_end ht hP⟩, hS.F ht⟩) hS.2.2 dX0_lays_12
set_option maxHeartbeats 4000000 in
set_option maxRecDepth 100000 in
theorem kX0_berthOf (l : Launch) {D : va_G} {cI cB cZ : ClassId} {ad : Nat → Nat} {τ : Int64} (hap : cwX ad) (σ : Sg) (x1 : Int32) (x2 : Int32) (x3 : Int32) (o : (Int32 × Sg)) (h : pX0_berthOf σ x1 x2 x3 = some o) : Met l yX0_berthOf wsX0_berthOf rmX0_berthOf (va_Pc [.ref (ad 39), .int x1, .int x2, .int x3] (PW D cI cB cZ (CW cI ad τ σ))) (QI D (CW cI ad τ) (cwA ad) o.1 o.2) 0 0 (cwA ad) := by
  refine Met.ofW (cc := cX0_berthOf) (maxL := 4) (ret := (some .int)) (by decide) rfl ?_
  intro p e s m args below meth c s₁ B hml hv
  obtain ⟨rfl, hP, hK, hN⟩ := hv
  have C0 : Cx p s m _ meth c cX0_berthOf 4 (some .int) RX0 wsX0_berthOf := ⟨⟨B.exec, B.bytes, hml, findClass_of_methodNamed B.named, atoms_spec B.pre⟩, B.returns, B.notSynchronized⟩
  obtain ⟨⟨hx, hb, -, hown, hts⟩, hr, hlk⟩ := id C0
  have hS : va_S (cwA ad) s.heap s.heap [] := va_S.rf
  have hl := lv_entry ([.ref (ad 39), .int x1, .int x2, .int x3]) (n := 4) (Nat.le_of_ble_eq_true rfl)
  rw [lg_entry_eq]
  generalize (lg_sl ([.ref (ad 39), .int x1, .int x2, .int x3]) ++ List.replicate (4 - (lg_sl ([.ref (ad 39), .int x1, .int x2, .int x3])).length) Slot.unset).toArray = ls at hl ⊢
  have hl : lv_has ls 4 [(0, .ref (ad 39)), (1, .int x1), (2, .int x2), (3, .int x3)] := hl
  rw [pX0_berthOf] at h
  refine lv_aload_n hx hb dX0_berthOf_0 rfl (lv_at hl 0 rfl) ?_
  refine va_get (D := D) (ci := 0) (v := .ref (ad 41)) (C := RX0) (T := TX0) (N := 4) hx hb hts iX0_berthOf_X0 hown hK hP 39 cw_39 rfl 3 (by decide) (hts (.fieldLink RX0 15 RX0 "hopeless" "[I") (by decide +kernel)) (fun _ h9 => h9) rfl dX0_berthOf_1 ?_
  refine lv_iconst (v := 0) hx hb dX0_berthOf_4 (by decide) ?_
  refine wr_callv (va_runSN (As := [.ref (ad 41), .int 0]) (rest := []) C0.1 (kX10_fill l (cw_D hap) 41 cw_41 (by decide) 0) (wX0_berthOf_X10_fill hts hN ⟨Nat.le_of_ble_eq_true rfl, Nat.le_of_ble_eq_true rfl⟩) ⟨PW.blind, PW.mk hP hK hN⟩ rfl rfl hl.1 rfl (lv_room (Nat.le_of_ble_eq_true rfl)) dX0_berthOf_5 ⟨Nat.zero_le _, Nat.zero_le _⟩) hS (fun _ h => h) (fun H locs hP hS => ?_)
  have hP := cw_s41 hP
  obtain ⟨σ1, e2, h⟩ := k_bd h
  rw [k_sm e2] at hP
  refine lv_aload_n hx hb dX0_berthOf_8 rfl (lv_at hl 0 rfl) ?_
  refine lv_iload_n hx hb dX0_berthOf_9 rfl (lv_at hl 1 rfl) ?_
  refine lv_iload_n hx hb dX0_berthOf_10 rfl (lv_at hl 2 rfl) ?_
  refine lv_iconst (v := 0) hx hb dX0_berthOf_11 (by decide) ?_
  refine lv_aload_n hx hb dX0_berthOf_12 rfl (lv_at hl 0 rfl) ?_
  refine lv_iload_n hx hb dX0_berthOf_13 rfl (lv_at hl 1 rfl) ?_
  obtain ⟨v3, e4, h⟩ := k_bd h
  refine rd_calli (va_runV (As := [.int x1]) (rest := [.int 0, .int x2, .int x1, .ref (ad 39)]) C0.1 (kX0_cellsOfOthers l (D := D) (cI := cI) (cB := cB) (cZ := cZ) (ad := ad) (τ := τ) σ1 x1 _ e4) (wX0_berthOf_X0_cellsOfOthers hts ⟨Nat.le_of_ble_eq_true rfl, Nat.le_of_ble_eq_true rfl⟩) ⟨PW.blind, cw_r39 hK hP, PW.mk hP hK hN⟩ rfl rfl hl.1 rfl (lv_room (Nat.le_of_ble_eq_true rfl)) dX0_berthOf_14 ⟨Nat.zero_le _, Nat.zero_le _⟩) ?_
  obtain ⟨u5, e6, h⟩ := k_bd h
  refine wr_calli (va_runS (As := [.ref (ad 39), .int x1, .int x2, .int 0, .int v3]) (rest := []) C0.1 (kX0_lays l (D := D) (cI := cI) (cB := cB) (cZ := cZ) (τ := τ) hap 20 σ1 x1 x2 0 v3 _ e6) (wX0_berthOf_X0_lays hts ⟨Nat.le_of_ble_eq_true rfl, Nat.le_of_ble_eq_true rfl⟩) ⟨PW.blind, PW.mk hP hK hN⟩ rfl rfl hl.1 rfl (lv_room (Nat.le_of_ble_eq_true rfl)) dX0_berthOf_17 ⟨Nat.zero_le _, Nat.zero_le _⟩) hS (fun _ h => h) (fun H locs hP hS => ?_)
  have hP : va_P D vwCl (CW cI ad τ u5.2) H := hP
  refine lv_if_eq (tgt := 34) hx hb dX0_berthOf_20 (by decide) (fun c20 => ?_) (fun c20 => ?_)
  · replace h := k_ip c20 h
    refine lv_bipush (v := (-9)) hx hb dX0_berthOf_34 (by decide) ?_
    obtain rfl := k_sm h
    exact W.iret hx hb hr (fun t ht hW => ⟨⟨_, _, rfl, ⟨rfl, rfl⟩, pw_end ht hP⟩, hS.F ht⟩) hS.2.2 dX0_berthOf_36
  · replace h := k_in c20 h
    refine lv_aload_n hx hb dX0_berthOf_23 rfl (lv_at hl 0 rfl) ?_
    refine va_get (D := D) (ci := 0) (v := .ref (ad 40)) (C := RX0) (T := TX0) (N := 4) hx hb hts iX0_berthOf_X0 hown hK hP 39 cw_39 rfl 2 (by decide) (hts (.fieldLink RX0 9 RX0 "berths" "[I") (by decide +kernel)) (fun _ h9 => h9) rfl dX0_berthOf_24 ?_
    refine lv_iload_n hx hb dX0_berthOf_27 rfl (lv_at hl 3 rfl) ?_
    refine rd_calli (va_runSN (As := [.ref (ad 40), .int x3]) (rest := []) C0.1 (kX10_at l (ad 40) 8 (u5.2 40) x3 (by decide)) (wX0_berthOf_X10_at hts hN ⟨Nat.le_of_ble_eq_true rfl, Nat.le_of_ble_eq_true rfl⟩) ⟨PAt.blind, PAt.mk (cw_t40 hK hP)⟩ rfl rfl hl.1 rfl (lv_room (Nat.le_of_ble_eq_true rfl)) dX0_berthOf_28 ⟨Nat.zero_le _, Nat.zero_le _⟩) ?_
    refine lv_goto (tgt := 36) hx hb dX0_berthOf_31 (by decide) ?_
    obtain rfl := k_sm h
    exact W.iret hx hb hr (fun t ht hW => ⟨⟨_, _, rfl, ⟨rfl, rfl⟩, pw_end ht hP⟩, hS.F ht⟩) hS.2.2 dX0_berthOf_36
set_option maxHeartbeats 4000000 in
set_option maxRecDepth 100000 in
theorem bX2_vitalFor_L19 {p : Program} {l : Launch} {e : Env} {s : State} {m : MethodId} {args : Array Value} {below : List Frame} {meth : Method} {c : Code} {Q : State → Prop} {D : va_G} {cI cB cZ : ClassId} {ad : Nat → Nat} (C0 : Cx p s m args meth c cX2_vitalFor 7 (some .int) RX2 wsX2_vitalFor) (hK : va_K D vwCl (tysA cI cB cZ) s) (hN : NW s) {τ : Int64} {σ : Sg} (hP : va_P D vwCl (CW cI ad τ σ) s.heap) (x2 : Int32) (x3 : Int32) (x4 : Int32) : ∀ (n : Nat) (x5 : Int32) (x6 : Int32) (v : Int32) (ls : Array Slot), lv_has ls 7 [(0, .ref (ad 42)), (2, .int x2), (3, .int x3), (4, .int x4), (5, .int x5), (6, .int x6)] → pX2_vitalFor_L19 σ x2 x3 x4 n x5 x6 = some v → (∀ (ls1 : Array Slot), lv_has ls1 7 [(5, .int v)] → W p l e rmX2_vitalFor s m args below meth c s.heap [] 0 0 Q (F0 m 83 ls1 [])) → W p l e rmX2_vitalFor s m args below meth c s.heap [] 0 0 Q (F0 m 19 ls []) := by
  obtain ⟨⟨hx, hb, hml, hown, hts⟩, hr, hlk⟩ := id C0
  intro n
  induction n with
  | zero =>
    intro x5 x6 v ls hl h kk
    exact absurd h (by simp [pX2_vitalFor_L19])
  | succ n ih =>
    intro x5 x6 v ls hl h kk
    rw [pX2_vitalFor_L19] at h
    refine lv_iload hx hb dX2_vitalFor_19 (lv_at hl 5 rfl) ?_
    refine lv_aload_n hx hb dX2_vitalFor_21 rfl (lv_at hl 0 rfl) ?_
    refine va_get (D := D) (ci := 2) (v := .ref (ad 1)) (C := RX2) (T := TX2) (N := 2) hx hb hts iX2_vitalFor_X2 hown hK hP 42 cw_42 rfl 0 (by decide) (hts (.fieldLink RX2 9 RX2 "told" "LAnchorWills$Told;") (by decide +kernel)) (fun _ h9 => h9) rfl dX2_vitalFor_22 ?_
    refine va_getN (D := D) (ci := 9) (v := .int (σ 1 8)) (C := RX9) (T := TX9) (N := 10) hx hb hts iX2_vitalFor_X9 hown hK hP 1 cw_1 rfl 8 (by decide) (va_Nw.use rfl (nf_X2_58 hN)) (fun _ h9 => h9) rfl dX2_vitalFor_25 ?_
    refine lv_icmp_ge (tgt := 83) hx hb dX2_vitalFor_28 (by decide) (fun c28 => ?_) (fun c28 => ?_)
    · replace h := k_ip c28 h
      obtain rfl := k_sm h
      exact kk _ (lv_sub hl [4] rfl)
    · replace h := k_in c28 h
      refine lv_aload_n hx hb dX2_vitalFor_31 rfl (lv_at hl 0 rfl) ?_
      refine lv_iload_n hx hb dX2_vitalFor_32 rfl (lv_at hl 2 rfl) ?_
      refine lv_iload hx hb dX2_vitalFor_33 (lv_at hl 5 rfl) ?_
      refine rd_calli (va_runV (As := [.int x3, .int x6]) (rest := []) C0.1 (kX2_adds l (D := D) (cI := cI) (cB := cB) (cZ := cZ) (ad := ad) (τ := τ) σ x3 x6) (wX2_vitalFor_X2_adds hts ⟨Nat.le_of_ble_eq_true rfl, Nat.le_of_ble_eq_true rfl⟩) ⟨PW.blind, cw_r42 hK hP, PW.mk hP hK hN⟩ rfl rfl hl.1 rfl (lv_room (Nat.le_of_ble_eq_true rfl)) dX2_vitalFor_35 ⟨Nat.zero_le _, Nat.zero_le _⟩) ?_
      refine lv_if_eq (tgt := 77) hx hb dX2_vitalFor_38 (by decide) (fun c38 => ?_) (fun c38 => ?_)
      · replace h := k_ip c38 h
        refine lv_iinc (v := (x6 + 1)) (lv' := [(6, .int (x6 + 1)), (0, .ref (ad 42)), (2, .int x2), (3, .int x3), (4, .int x4), (5, .int x5)]) hx hb dX2_vitalFor_77 hl (k := 5) rfl rfl (by decide) rfl (fun ls hl => ?_)
        refine lv_goto (tgt := 19) hx hb dX2_vitalFor_80 (by decide) ?_
        exact ih x5 (x6 + 1) _ ls (lv_sub hl [1, 2, 3, 4, 5, 0] rfl) h kk
      · replace h := k_in c38 h
        refine lv_iload hx hb dX2_vitalFor_41 (lv_at hl 3 rfl) ?_
        refine lv_iload_n hx hb dX2_vitalFor_43 rfl (lv_at hl 1 rfl) ?_
        refine lv_icmp_lt (tgt := 77) hx hb dX2_vitalFor_44 (by decide) (fun c44 => ?_) (fun c44 => ?_)
        · replace h := k_ip c44 h
          refine lv_iinc (v := (x6 + 1)) (lv' := [(6, .int (x6 + 1)), (0, .ref (ad 42)), (2, .int x2), (3, .int x3), (4, .int x4), (5, .int x5)]) hx hb dX2_vitalFor_77 hl (k := 5) rfl rfl (by decide) rfl (fun ls hl => ?_)
          refine lv_goto (tgt := 19) hx hb dX2_vitalFor_80 (by decide) ?_
          exact ih x5 (x6 + 1) _ ls (lv_sub hl [1, 2, 3, 4, 5, 0] rfl) h kk
        · replace h := k_in c44 h
          refine lv_iload hx hb dX2_vitalFor_47 (lv_at hl 3 rfl) ?_
          refine lv_aload_n hx hb dX2_vitalFor_49 rfl (lv_at hl 0 rfl) ?_
          refine va_get (D := D) (ci := 2) (v := .ref (ad 1)) (C := RX2) (T := TX2) (N := 2) hx hb hts iX2_vitalFor_X2 hown hK hP 42 cw_42 rfl 0 (by decide) (hts (.fieldLink RX2 9 RX2 "told" "LAnchorWills$Told;") (by decide +kernel)) (fun _ h9 => h9) rfl dX2_vitalFor_50 ?_
          refine lv_aload_n hx hb dX2_vitalFor_53 rfl (lv_at hl 0 rfl) ?_
          refine va_get (D := D) (ci := 2) (v := .ref (ad 19)) (C := RX2) (T := TX2) (N := 2) hx hb hts iX2_vitalFor_X2 hown hK hP 42 cw_42 rfl 1 (by decide) (hts (.fieldLink RX2 15 RX2 "now" "LAnchorWills$Now;") (by decide +kernel)) (fun _ h9 => h9) rfl dX2_vitalFor_54 ?_
          refine lv_iload hx hb dX2_vitalFor_57 (lv_at hl 5 rfl) ?_
          obtain ⟨v5, e6, h⟩ := k_bd h
          refine rd_calli (va_runVN (As := [.ref (ad 19), .int x6]) (rest := [.int x4]) C0.1 (kX9_strengthOf_20 l (D := D) (cI := cI) (cB := cB) (cZ := cZ) (ad := ad) (τ := τ) σ x6 _ e6) (wX2_vitalFor_X9_strengthOf hts hN ⟨Nat.le_of_ble_eq_true rfl, Nat.le_of_ble_eq_true rfl⟩) ⟨PW.blind, cw_r1 hK hP, PW.mk hP hK hN⟩ rfl rfl hl.1 rfl (lv_room (Nat.le_of_ble_eq_true rfl)) dX2_vitalFor_59 ⟨Nat.zero_le _, Nat.zero_le _⟩) ?_
          refine lv_isub hx hb dX2_vitalFor_62 ?_
          refine lv_iload_n hx hb dX2_vitalFor_63 rfl (lv_at hl 1 rfl) ?_
          refine lv_icmp_ge (tgt := 77) hx hb dX2_vitalFor_64 (by decide) (fun c64 => ?_) (fun c64 => ?_)
          · replace h := k_ip c64 h
            refine lv_iinc (v := (x6 + 1)) (lv' := [(6, .int (x6 + 1)), (0, .ref (ad 42)), (2, .int x2), (3, .int x3), (4, .int x4), (5, .int x5)]) hx hb dX2_vitalFor_77 hl (k := 5) rfl rfl (by decide) rfl (fun ls hl => ?_)
            refine lv_goto (tgt := 19) hx hb dX2_vitalFor_80 (by decide) ?_
            exact ih x5 (x6 + 1) _ ls (lv_sub hl [1, 2, 3, 4, 5, 0] rfl) h kk
          · replace h := k_in c64 h
            refine lv_iload hx hb dX2_vitalFor_67 (lv_at hl 4 rfl) ?_
            refine lv_iload hx hb dX2_vitalFor_69 (lv_at hl 5 rfl) ?_
            refine rd_calli (va_runSN (As := [.int x6]) (rest := [.int x5]) C0.1 (kX10_bit l x6) (wX2_vitalFor_X10_bit hts hN ⟨Nat.le_of_ble_eq_true rfl, Nat.le_of_ble_eq_true rfl⟩) ⟨PT.blind, fun _ _ _ => ⟨rfl, trivial⟩⟩ rfl rfl hl.1 rfl (lv_room (Nat.le_of_ble_eq_true rfl)) dX2_vitalFor_71 ⟨Nat.zero_le _, Nat.zero_le _⟩) ?_
            refine lv_ior hx hb dX2_vitalFor_74 ?_
            obtain ⟨v7, e8, h⟩ := k_bd h
            refine lv_nmi (k_sm e8) ?_
            refine lv_istore (lv' := [(5, .int v7), (0, .ref (ad 42)), (2, .int x2), (3, .int x3), (4, .int x4), (6, .int x6)]) hx hb dX2_vitalFor_75 hl (by decide) rfl (fun ls hl => ?_)
            refine lv_iinc (v := (x6 + 1)) (lv' := [(6, .int (x6 + 1)), (5, .int v7), (0, .ref (ad 42)), (2, .int x2), (3, .int x3), (4, .int x4)]) hx hb dX2_vitalFor_77 hl (k := 5) rfl rfl (by decide) rfl (fun ls hl => ?_)
            refine lv_goto (tgt := 19) hx hb dX2_vitalFor_80 (by decide) ?_
            exact ih v7 (x6 + 1) _ ls (lv_sub hl [2, 3, 4, 5, 1, 0] rfl) h kk
set_option maxHeartbeats 4000000 in
set_option maxRecDepth 100000 in
theorem kX2_vitalFor (l : Launch) {D : va_G} {cI cB cZ : ClassId} {ad : Nat → Nat} {τ : Int64} (σ : Sg) (x1 : Int32) (x2 : Int32) (o : Int32) (h : pX2_vitalFor σ x1 x2 = some o) : Met l yX2_vitalFor wsX2_vitalFor rmX2_vitalFor (va_Pc [.ref (ad 42), .int x1, .int x2] (PW D cI cB cZ (CW cI ad τ σ))) (QcRead o) 0 0 (fun _ => False) := by
  refine Met.ofW (cc := cX2_vitalFor) (maxL := 7) (ret := (some .int)) (by decide) rfl ?_
  intro p e s m args below meth c s₁ B hml hv
  obtain ⟨rfl, hP, hK, hN⟩ := hv
  have C0 : Cx p s m _ meth c cX2_vitalFor 7 (some .int) RX2 wsX2_vitalFor := ⟨⟨B.exec, B.bytes, hml, findClass_of_methodNamed B.named, atoms_spec B.pre⟩, B.returns, B.notSynchronized⟩
  obtain ⟨⟨hx, hb, -, hown, hts⟩, hr, hlk⟩ := id C0
  have hl := lv_entry ([.ref (ad 42), .int x1, .int x2]) (n := 7) (Nat.le_of_ble_eq_true rfl)
  rw [lg_entry_eq]
  generalize (lg_sl ([.ref (ad 42), .int x1, .int x2]) ++ List.replicate (7 - (lg_sl ([.ref (ad 42), .int x1, .int x2])).length) Slot.unset).toArray = ls at hl ⊢
  have hl : lv_has ls 7 [(0, .ref (ad 42)), (1, .int x1), (2, .int x2)] := hl
  rw [pX2_vitalFor] at h
  refine lv_aload_n hx hb dX2_vitalFor_0 rfl (lv_at hl 0 rfl) ?_
  refine lv_iload_n hx hb dX2_vitalFor_1 rfl (lv_at hl 1 rfl) ?_
  obtain ⟨v1, e2, h⟩ := k_bd h
  refine rd_calli (va_runV (As := [.int x1]) (rest := []) C0.1 (kX2_townOf l (D := D) (cI := cI) (cB := cB) (cZ := cZ) (ad := ad) (τ := τ) σ x1 _ e2) (wX2_vitalFor_X2_townOf hts ⟨Nat.le_of_ble_eq_true rfl, Nat.le_of_ble_eq_true rfl⟩) ⟨PW.blind, cw_r42 hK hP, PW.mk hP hK hN⟩ rfl rfl hl.1 rfl (lv_room (Nat.le_of_ble_eq_true rfl)) dX2_vitalFor_2 ⟨Nat.zero_le _, Nat.zero_le _⟩) ?_
  refine lv_istore_n (lv' := [(3, .int v1), (0, .ref (ad 42)), (1, .int x1), (2, .int x2)]) hx hb dX2_vitalFor_5 rfl hl (by decide) rfl (fun ls hl => ?_)
  refine lv_aload_n hx hb dX2_vitalFor_6 rfl (lv_at hl 1 rfl) ?_
  refine lv_iload_n hx hb dX2_vitalFor_7 rfl (lv_at hl 0 rfl) ?_
  obtain ⟨v3, e4, h⟩ := k_bd h
  refine rd_calli (va_runV (As := [.int v1]) (rest := []) C0.1 (kX2_mightOf l (D := D) (cI := cI) (cB := cB) (cZ := cZ) (ad := ad) (τ := τ) σ v1 _ e4) (wX2_vitalFor_X2_mightOf hts ⟨Nat.le_of_ble_eq_true rfl, Nat.le_of_ble_eq_true rfl⟩) ⟨PW.blind, cw_r42 hK hP, PW.mk hP hK hN⟩ rfl rfl hl.1 rfl (lv_room (Nat.le_of_ble_eq_true rfl)) dX2_vitalFor_8 ⟨Nat.zero_le _, Nat.zero_le _⟩) ?_
  refine lv_istore (lv' := [(4, .int v3), (3, .int v1), (0, .ref (ad 42)), (1, .int x1), (2, .int x2)]) hx hb dX2_vitalFor_11 hl (by decide) rfl (fun ls hl => ?_)
  refine lv_iconst (v := 0) hx hb dX2_vitalFor_13 (by decide) ?_
  refine lv_istore (lv' := [(5, .int 0), (4, .int v3), (3, .int v1), (0, .ref (ad 42)), (1, .int x1), (2, .int x2)]) hx hb dX2_vitalFor_14 hl (by decide) rfl (fun ls hl => ?_)
  refine lv_iconst (v := 0) hx hb dX2_vitalFor_16 (by decide) ?_
  refine lv_istore (lv' := [(6, .int 0), (5, .int 0), (4, .int v3), (3, .int v1), (0, .ref (ad 42)), (1, .int x1), (2, .int x2)]) hx hb dX2_vitalFor_17 hl (by decide) rfl (fun ls hl => ?_)
  obtain ⟨w9, e10, h⟩ := k_bd h
  refine bX2_vitalFor_L19 C0 hK hN hP x2 v1 v3 2000 0 0 _ ls (lv_sub hl [4, 6, 3, 2, 1, 0] rfl) e10 (fun ls hl => ?_)
  refine lv_iload hx hb dX2_vitalFor_83 (lv_at hl 0 rfl) ?_
  obtain rfl := k_sm h
  exact W.iret hx hb hr (fun t ht hW => ⟨rfl, ht⟩) (fun _ h => by cases h) dX2_vitalFor_85
set_option maxHeartbeats 4000000 in
set_option maxRecDepth 100000 in
theorem kX1_takes (l : Launch) {D : va_G} {cI cB cZ : ClassId} {ad : Nat → Nat} {τ : Int64} (hap : cwX ad) (σ : Sg) (x1 : Int32) (x2 : Int32) (o : (Int32 × Sg)) (h : pX1_takes σ x1 x2 = some o) : Met l yX1_takes wsX1_takes rmX1_takes (va_Pc [.ref (ad 43), .int x1, .int x2] (PW D cI cB cZ (CW cI ad τ σ))) (QI D (CW cI ad τ) (cwA ad) o.1 o.2) 0 0 (cwA ad) := by
  refine Met.ofW (cc := cX1_takes) (maxL := 3) (ret := (some .boolean)) (by decide) rfl ?_
  intro p e s m args below meth c s₁ B hml hv
  obtain ⟨rfl, hP, hK, hN⟩ := hv
  have C0 : Cx p s m _ meth c cX1_takes 3 (some .boolean) RX1 wsX1_takes := ⟨⟨B.exec, B.bytes, hml, findClass_of_methodNamed B.named, atoms_spec B.pre⟩, B.returns, B.notSynchronized⟩
  obtain ⟨⟨hx, hb, -, hown, hts⟩, hr, hlk⟩ := id C0
  have hS : va_S (cwA ad) s.heap s.heap [] := va_S.rf
  have hl := lv_entry ([.ref (ad 43), .int x1, .int x2]) (n := 3) (Nat.le_of_ble_eq_true rfl)
  rw [lg_entry_eq]
  generalize (lg_sl ([.ref (ad 43), .int x1, .int x2]) ++ List.replicate (3 - (lg_sl ([.ref (ad 43), .int x1, .int x2])).length) Slot.unset).toArray = ls at hl ⊢
  have hl : lv_has ls 3 [(0, .ref (ad 43)), (1, .int x1), (2, .int x2)] := hl
  rw [pX1_takes] at h
  refine lv_aload_n hx hb dX1_takes_0 rfl (lv_at hl 0 rfl) ?_
  refine va_get (D := D) (ci := 1) (v := .int (σ 43 5)) (C := RX1) (T := TX1) (N := 6) hx hb hts iX1_takes_X1 hown hK hP 43 cw_43 rfl 5 (by decide) (hts (.fieldLink RX1 29 RX1 "known" "I") (by decide +kernel)) (fun _ h9 => h9) rfl dX1_takes_1 ?_
  refine lv_bipush (v := 6) hx hb dX1_takes_4 (by decide) ?_
  refine lv_icmp_lt (tgt := 11) hx hb dX1_takes_6 (by decide) (fun c6 => ?_) (fun c6 => ?_)
  · replace h := k_ip c6 h
    refine lv_aload_n hx hb dX1_takes_11 rfl (lv_at hl 0 rfl) ?_
    refine va_get (D := D) (ci := 1) (v := .ref (ad 44)) (C := RX1) (T := TX1) (N := 6) hx hb hts iX1_takes_X1 hown hK hP 43 cw_43 rfl 2 (by decide) (hts (.fieldLink RX1 11 RX1 "forces" "[I") (by decide +kernel)) (fun _ h9 => h9) rfl dX1_takes_12 ?_
    refine lv_aload_n hx hb dX1_takes_15 rfl (lv_at hl 0 rfl) ?_
    refine va_get (D := D) (ci := 1) (v := .int (σ 43 5)) (C := RX1) (T := TX1) (N := 6) hx hb hts iX1_takes_X1 hown hK hP 43 cw_43 rfl 5 (by decide) (hts (.fieldLink RX1 29 RX1 "known" "I") (by decide +kernel)) (fun _ h9 => h9) rfl dX1_takes_16 ?_
    refine lv_iload_n hx hb dX1_takes_19 rfl (lv_at hl 1 rfl) ?_
    refine wr_callv (va_runSN (As := [.ref (ad 44), .int (σ 43 5), .int x1]) (rest := []) C0.1 (kX10_put l (cw_D hap) 44 cw_44 (by decide) (σ 43 5) x1) (wX1_takes_X10_put hts hN ⟨Nat.le_of_ble_eq_true rfl, Nat.le_of_ble_eq_true rfl⟩) ⟨PW.blind, PW.mk hP hK hN⟩ rfl rfl hl.1 rfl (lv_room (Nat.le_of_ble_eq_true rfl)) dX1_takes_20 ⟨Nat.zero_le _, Nat.zero_le _⟩) hS (fun _ h => h) (fun H locs hP hS => ?_)
    have hP := cw_s44 hP
    obtain ⟨σ1, e2, h⟩ := k_bd h
    rw [k_sm e2] at hP
    refine lv_aload_n hx hb dX1_takes_23 rfl (lv_at hl 0 rfl) ?_
    refine va_get (D := D) (ci := 1) (v := .ref (ad 45)) (C := RX1) (T := TX1) (N := 6) hx hb hts iX1_takes_X1 hown hK hP 43 cw_43 rfl 3 (by decide) (hts (.fieldLink RX1 15 RX1 "held" "[I") (by decide +kernel)) (fun _ h9 => h9) rfl dX1_takes_24 ?_
    refine lv_aload_n hx hb dX1_takes_27 rfl (lv_at hl 0 rfl) ?_
    refine va_get (D := D) (ci := 1) (v := .int (σ1 43 5)) (C := RX1) (T := TX1) (N := 6) hx hb hts iX1_takes_X1 hown hK hP 43 cw_43 rfl 5 (by decide) (hts (.fieldLink RX1 29 RX1 "known" "I") (by decide +kernel)) (fun _ h9 => h9) rfl dX1_takes_28 ?_
    refine lv_iload_n hx hb dX1_takes_31 rfl (lv_at hl 2 rfl) ?_
    refine wr_callv (va_runSN (As := [.ref (ad 45), .int (σ1 43 5), .int x2]) (rest := []) C0.1 (kX10_put l (cw_D hap) 45 cw_45 (by decide) (σ1 43 5) x2) (wX1_takes_X10_put hts hN ⟨Nat.le_of_ble_eq_true rfl, Nat.le_of_ble_eq_true rfl⟩) ⟨PW.blind, PW.mk hP hK hN⟩ rfl rfl hl.1 rfl (lv_room (Nat.le_of_ble_eq_true rfl)) dX1_takes_32 ⟨Nat.zero_le _, Nat.zero_le _⟩) hS (fun _ h => h) (fun H locs hP hS => ?_)
    have hP := cw_s45 hP
    obtain ⟨σ3, e4, h⟩ := k_bd h
    rw [k_sm e4] at hP
    refine lv_aload_n hx hb dX1_takes_35 rfl (lv_at hl 0 rfl) ?_
    refine lv_dup hx hb dX1_takes_36 rfl ?_
    refine va_get (D := D) (ci := 1) (v := .int (σ3 43 5)) (C := RX1) (T := TX1) (N := 6) hx hb hts iX1_takes_X1 hown hK hP 43 cw_43 rfl 5 (by decide) (hts (.fieldLink RX1 29 RX1 "known" "I") (by decide +kernel)) (fun _ h9 => h9) rfl dX1_takes_37 ?_
    refine lv_iconst (v := 1) hx hb dX1_takes_40 (by decide) ?_
    refine lv_iadd hx hb dX1_takes_41 ?_
    refine va_put (D := D) (ci := 1) (v := .int ((σ3 43 5) + 1)) (ty := .int) (C := RX1) (T := TX1) (N := 6) hx hb hts iX1_takes_X1 tyX1 tyX1_ok nmX1 hown hK hP (cw_D hap) hS 43 cw_43 rfl 5 (by decide) (hts (.fieldLink RX1 29 RX1 "known" "I") (by decide +kernel)) (fun _ h9 => h9) rfl (by decide +kernel) rfl rfl (Nat.le_of_ble_eq_true rfl) dX1_takes_42 (fun H locs hP _ hS => ?_)
    have hP := cw_s43_5 hP
    obtain ⟨σ5, e6, h⟩ := k_bd h
    rw [k_sm e6] at hP
    refine lv_iconst (v := 1) hx hb dX1_takes_45 (by decide) ?_
    obtain rfl := k_sm h
    exact W.zret hx hb hr rfl (fun t ht hW => ⟨⟨_, _, rfl, ⟨rfl, rfl⟩, pw_end ht hP⟩, hS.F ht⟩) hS.2.2 dX1_takes_46
  · replace h := k_in c6 h
    refine lv_iconst (v := 0) hx hb dX1_takes_9 (by decide) ?_
    obtain rfl := k_sm h
    exact W.zret hx hb hr rfl (fun t ht hW => ⟨⟨_, _, rfl, ⟨rfl, rfl⟩, pw_end ht hP⟩, hS.F ht⟩) hS.2.2 dX1_takes_10
set_option maxHeartbeats 4000000 in
set_option maxRecDepth 100000 in
theorem bX1_weighStrengths_L2 {p : Program} {l : Launch} {e : Env} {s : State} {m : MethodId} {args : Array Value} {below : List Frame} {meth : Method} {c : Code} {Q : State → Prop} {D : va_G} {cI cB cZ : ClassId} {ad : Nat → Nat} (C0 : Cx p s m args meth c cX1_weighStrengths 2 none RX1 wsX1_weighStrengths) (hK : va_K D vwCl (tysA cI cB cZ) s) (hN : NW s) (hap : cwX ad) {τ : Int64}  : ∀ (n : Nat) (x1 : Int32) (σ : Sg) (v : Sg) (H : Heap) (locs : List Loc) (ls : Array Slot), va_P D vwCl (CW cI ad τ σ) H → va_S (cwA ad) s.heap H locs → lv_has ls 2 [(0, .ref (ad 43)), (1, .int x1)] → pX1_weighStrengths_L2  n x1 σ = some v → (∀ (H1 : Heap) (locs1 : List Loc) (ls1 : Array Slot), va_P D vwCl (CW cI ad τ v) H1 → va_S (cwA ad) s.heap H1 locs1 → lv_has ls1 2 [] → W p l e rmX1_weighStrengths s m args below meth c H1 locs1 0 0 Q (F0 m 39 ls1 [])) → W p l e rmX1_weighStrengths s m args below meth c H locs 0 0 Q (F0 m 2 ls []) := by
  obtain ⟨⟨hx, hb, hml, hown, hts⟩, hr, hlk⟩ := id C0
  intro n
  induction n with
  | zero =>
    intro x1 σ v H locs ls hP hS hl h kk
    exact absurd h (by simp [pX1_weighStrengths_L2])
  | succ n ih =>
    intro x1 σ v H locs ls hP hS hl h kk
    rw [pX1_weighStrengths_L2] at h
    refine lv_iload_n hx hb dX1_weighStrengths_2 rfl (lv_at hl 1 rfl) ?_
    refine lv_aload_n hx hb dX1_weighStrengths_3 rfl (lv_at hl 0 rfl) ?_
    refine va_get (D := D) (ci := 1) (v := .ref (ad 1)) (C := RX1) (T := TX1) (N := 6) hx hb hts iX1_weighStrengths_X1 hown hK hP 43 cw_43 rfl 0 (by decide) (hts (.fieldLink RX1 21 RX1 "told" "LAnchorWills$Told;") (by decide +kernel)) (fun _ h9 => h9) rfl dX1_weighStrengths_4 ?_
    refine va_getN (D := D) (ci := 9) (v := .int (σ 1 8)) (C := RX9) (T := TX9) (N := 10) hx hb hts iX1_weighStrengths_X9 hown hK hP 1 cw_1 rfl 8 (by decide) (va_Nw.use rfl (nf_X1_52 hN)) (fun _ h9 => h9) rfl dX1_weighStrengths_7 ?_
    refine lv_icmp_ge (tgt := 39) hx hb dX1_weighStrengths_10 (by decide) (fun c10 => ?_) (fun c10 => ?_)
    · replace h := k_ip c10 h
      obtain rfl := k_sm h
      exact kk _ _ _ hP hS (lv_sub hl [] rfl)
    · replace h := k_in c10 h
      refine lv_aload_n hx hb dX1_weighStrengths_13 rfl (lv_at hl 0 rfl) ?_
      refine va_get (D := D) (ci := 1) (v := .ref (ad 46)) (C := RX1) (T := TX1) (N := 6) hx hb hts iX1_weighStrengths_X1 hown hK hP 43 cw_43 rfl 4 (by decide) (hts (.fieldLink RX1 18 RX1 "strengths" "[I") (by decide +kernel)) (fun _ h9 => h9) rfl dX1_weighStrengths_14 ?_
      refine lv_iload_n hx hb dX1_weighStrengths_17 rfl (lv_at hl 1 rfl) ?_
      refine lv_aload_n hx hb dX1_weighStrengths_18 rfl (lv_at hl 0 rfl) ?_
      refine va_get (D := D) (ci := 1) (v := .ref (ad 1)) (C := RX1) (T := TX1) (N := 6) hx hb hts iX1_weighStrengths_X1 hown hK hP 43 cw_43 rfl 0 (by decide) (hts (.fieldLink RX1 21 RX1 "told" "LAnchorWills$Told;") (by decide +kernel)) (fun _ h9 => h9) rfl dX1_weighStrengths_19 ?_
      refine lv_aload_n hx hb dX1_weighStrengths_22 rfl (lv_at hl 0 rfl) ?_
      refine va_get (D := D) (ci := 1) (v := .ref (ad 19)) (C := RX1) (T := TX1) (N := 6) hx hb hts iX1_weighStrengths_X1 hown hK hP 43 cw_43 rfl 1 (by decide) (hts (.fieldLink RX1 25 RX1 "now" "LAnchorWills$Now;") (by decide +kernel)) (fun _ h9 => h9) rfl dX1_weighStrengths_23 ?_
      refine lv_iload_n hx hb dX1_weighStrengths_26 rfl (lv_at hl 1 rfl) ?_
      obtain ⟨v1, e2, h⟩ := k_bd h
      refine rd_calli (va_runVN (As := [.ref (ad 19), .int x1]) (rest := [.int x1, .ref (ad 46)]) C0.1 (kX9_strengthOf_20 l (D := D) (cI := cI) (cB := cB) (cZ := cZ) (ad := ad) (τ := τ) σ x1 _ e2) (wX1_weighStrengths_X9_strengthOf hts hN ⟨Nat.le_of_ble_eq_true rfl, Nat.le_of_ble_eq_true rfl⟩) ⟨PW.blind, cw_r1 hK hP, PW.mk hP hK hN⟩ rfl rfl hl.1 rfl (lv_room (Nat.le_of_ble_eq_true rfl)) dX1_weighStrengths_27 ⟨Nat.zero_le _, Nat.zero_le _⟩) ?_
      refine wr_callv (va_runSN (As := [.ref (ad 46), .int x1, .int v1]) (rest := []) C0.1 (kX10_put l (cw_D hap) 46 cw_46 (by decide) x1 v1) (wX1_weighStrengths_X10_put hts hN ⟨Nat.le_of_ble_eq_true rfl, Nat.le_of_ble_eq_true rfl⟩) ⟨PW.blind, PW.mk hP hK hN⟩ rfl rfl hl.1 rfl (lv_room (Nat.le_of_ble_eq_true rfl)) dX1_weighStrengths_30 ⟨Nat.zero_le _, Nat.zero_le _⟩) hS (fun _ h => h) (fun H locs hP hS => ?_)
      have hP := cw_s46 hP
      obtain ⟨σ3, e4, h⟩ := k_bd h
      rw [k_sm e4] at hP
      refine lv_iinc (v := (x1 + 1)) (lv' := [(1, .int (x1 + 1)), (0, .ref (ad 43))]) hx hb dX1_weighStrengths_33 hl (k := 1) rfl rfl (by decide) rfl (fun ls hl => ?_)
      refine lv_goto (tgt := 2) hx hb dX1_weighStrengths_36 (by decide) ?_
      exact ih (x1 + 1) σ3 _ _ _ ls hP hS (lv_sub hl [1, 0] rfl) h kk
set_option maxHeartbeats 4000000 in
set_option maxRecDepth 100000 in
theorem kX1_weighStrengths (l : Launch) {D : va_G} {cI cB cZ : ClassId} {ad : Nat → Nat} {τ : Int64} (hap : cwX ad) (σ : Sg) (o : Sg) (h : pX1_weighStrengths σ = some o) : Met l yX1_weighStrengths wsX1_weighStrengths rmX1_weighStrengths (va_Pc [.ref (ad 43)] (PW D cI cB cZ (CW cI ad τ σ))) (QV D (CW cI ad τ) (cwA ad) o) 0 0 (cwA ad) := by
  refine Met.ofW (cc := cX1_weighStrengths) (maxL := 2) (ret := none) (by decide) rfl ?_
  intro p e s m args below meth c s₁ B hml hv
  obtain ⟨rfl, hP, hK, hN⟩ := hv
  have C0 : Cx p s m _ meth c cX1_weighStrengths 2 none RX1 wsX1_weighStrengths := ⟨⟨B.exec, B.bytes, hml, findClass_of_methodNamed B.named, atoms_spec B.pre⟩, B.returns, B.notSynchronized⟩
  obtain ⟨⟨hx, hb, -, hown, hts⟩, hr, hlk⟩ := id C0
  have hS : va_S (cwA ad) s.heap s.heap [] := va_S.rf
  have hl := lv_entry ([.ref (ad 43)]) (n := 2) (Nat.le_of_ble_eq_true rfl)
  rw [lg_entry_eq]
  generalize (lg_sl ([.ref (ad 43)]) ++ List.replicate (2 - (lg_sl ([.ref (ad 43)])).length) Slot.unset).toArray = ls at hl ⊢
  have hl : lv_has ls 2 [(0, .ref (ad 43))] := hl
  rw [pX1_weighStrengths] at h
  refine lv_iconst (v := 0) hx hb dX1_weighStrengths_0 (by decide) ?_
  refine lv_istore_n (lv' := [(1, .int 0), (0, .ref (ad 43))]) hx hb dX1_weighStrengths_1 rfl hl (by decide) rfl (fun ls hl => ?_)
  obtain ⟨w5, e6, h⟩ := k_bd h
  refine bX1_weighStrengths_L2 C0 hK hN hap  2000 0 σ _ _ _ ls hP hS (lv_sub hl [1, 0] rfl) e6 (fun H locs ls hP hS hl => ?_)
  obtain rfl := k_sm h
  exact W.vret hx hb hr (fun t ht hW => ⟨⟨_, rfl, rfl, pw_end ht hP⟩, hS.F ht⟩) hS.2.2 dX1_weighStrengths_39
set_option maxHeartbeats 4000000 in
set_option maxRecDepth 100000 in
theorem bX1_thatHold_L4 {p : Program} {l : Launch} {e : Env} {s : State} {m : MethodId} {args : Array Value} {below : List Frame} {meth : Method} {c : Code} {Q : State → Prop} {D : va_G} {cI cB cZ : ClassId} {ad : Nat → Nat} (C0 : Cx p s m args meth c cX1_thatHold 4 (some .int) RX1 wsX1_thatHold) (hK : va_K D vwCl (tysA cI cB cZ) s) (hN : NW s) {τ : Int64} {σ : Sg} (hP : va_P D vwCl (CW cI ad τ σ) s.heap) (x1 : Int32) : ∀ (n : Nat) (x2 : Int32) (x3 : Int32) (v : Int32) (ls : Array Slot), lv_has ls 4 [(0, .ref (ad 43)), (1, .int x1), (2, .int x2), (3, .int x3)] → pX1_thatHold_L4 σ x1 n x2 x3 = some v → (∀ (ls1 : Array Slot), lv_has ls1 4 [(2, .int v)] → W p l e rmX1_thatHold s m args below meth c s.heap [] 0 0 Q (F0 m 40 ls1 [])) → W p l e rmX1_thatHold s m args below meth c s.heap [] 0 0 Q (F0 m 4 ls []) := by
  obtain ⟨⟨hx, hb, hml, hown, hts⟩, hr, hlk⟩ := id C0
  intro n
  induction n with
  | zero =>
    intro x2 x3 v ls hl h kk
    exact absurd h (by simp [pX1_thatHold_L4])
  | succ n ih =>
    intro x2 x3 v ls hl h kk
    rw [pX1_thatHold_L4] at h
    refine lv_iload_n hx hb dX1_thatHold_4 rfl (lv_at hl 3 rfl) ?_
    refine lv_aload_n hx hb dX1_thatHold_5 rfl (lv_at hl 0 rfl) ?_
    refine va_get (D := D) (ci := 1) (v := .ref (ad 1)) (C := RX1) (T := TX1) (N := 6) hx hb hts iX1_thatHold_X1 hown hK hP 43 cw_43 rfl 0 (by decide) (hts (.fieldLink RX1 21 RX1 "told" "LAnchorWills$Told;") (by decide +kernel)) (fun _ h9 => h9) rfl dX1_thatHold_6 ?_
    refine va_getN (D := D) (ci := 9) (v := .int (σ 1 8)) (C := RX9) (T := TX9) (N := 10) hx hb hts iX1_thatHold_X9 hown hK hP 1 cw_1 rfl 8 (by decide) (va_Nw.use rfl (nf_X1_52 hN)) (fun _ h9 => h9) rfl dX1_thatHold_9 ?_
    refine lv_icmp_ge (tgt := 40) hx hb dX1_thatHold_12 (by decide) (fun c12 => ?_) (fun c12 => ?_)
    · replace h := k_ip c12 h
      obtain rfl := k_sm h
      exact kk _ (lv_sub hl [2] rfl)
    · replace h := k_in c12 h
      refine lv_aload_n hx hb dX1_thatHold_15 rfl (lv_at hl 0 rfl) ?_
      refine va_get (D := D) (ci := 1) (v := .ref (ad 46)) (C := RX1) (T := TX1) (N := 6) hx hb hts iX1_thatHold_X1 hown hK hP 43 cw_43 rfl 4 (by decide) (hts (.fieldLink RX1 18 RX1 "strengths" "[I") (by decide +kernel)) (fun _ h9 => h9) rfl dX1_thatHold_16 ?_
      refine lv_iload_n hx hb dX1_thatHold_19 rfl (lv_at hl 3 rfl) ?_
      refine rd_calli (va_runSN (As := [.ref (ad 46), .int x3]) (rest := []) C0.1 (kX10_at l (ad 46) 8 (σ 46) x3 (by decide)) (wX1_thatHold_X10_at hts hN ⟨Nat.le_of_ble_eq_true rfl, Nat.le_of_ble_eq_true rfl⟩) ⟨PAt.blind, PAt.mk (cw_t46 hK hP)⟩ rfl rfl hl.1 rfl (lv_room (Nat.le_of_ble_eq_true rfl)) dX1_thatHold_20 ⟨Nat.zero_le _, Nat.zero_le _⟩) ?_
      refine lv_iload_n hx hb dX1_thatHold_23 rfl (lv_at hl 1 rfl) ?_
      refine lv_icmp_lt (tgt := 34) hx hb dX1_thatHold_24 (by decide) (fun c24 => ?_) (fun c24 => ?_)
      · replace h := k_ip c24 h
        refine lv_iinc (v := (x3 + 1)) (lv' := [(3, .int (x3 + 1)), (0, .ref (ad 43)), (1, .int x1), (2, .int x2)]) hx hb dX1_thatHold_34 hl (k := 3) rfl rfl (by decide) rfl (fun ls hl => ?_)
        refine lv_goto (tgt := 4) hx hb dX1_thatHold_37 (by decide) ?_
        exact ih x2 (x3 + 1) _ ls (lv_sub hl [1, 2, 3, 0] rfl) h kk
      · replace h := k_in c24 h
        refine lv_iload_n hx hb dX1_thatHold_27 rfl (lv_at hl 2 rfl) ?_
        refine lv_iload_n hx hb dX1_thatHold_28 rfl (lv_at hl 3 rfl) ?_
        refine rd_calli (va_runSN (As := [.int x3]) (rest := [.int x2]) C0.1 (kX10_bit l x3) (wX1_thatHold_X10_bit hts hN ⟨Nat.le_of_ble_eq_true rfl, Nat.le_of_ble_eq_true rfl⟩) ⟨PT.blind, fun _ _ _ => ⟨rfl, trivial⟩⟩ rfl rfl hl.1 rfl (lv_room (Nat.le_of_ble_eq_true rfl)) dX1_thatHold_29 ⟨Nat.zero_le _, Nat.zero_le _⟩) ?_
        refine lv_ior hx hb dX1_thatHold_32 ?_
        obtain ⟨v1, e2, h⟩ := k_bd h
        refine lv_nmi (k_sm e2) ?_
        refine lv_istore_n (lv' := [(2, .int v1), (0, .ref (ad 43)), (1, .int x1), (3, .int x3)]) hx hb dX1_thatHold_33 rfl hl (by decide) rfl (fun ls hl => ?_)
        refine lv_iinc (v := (x3 + 1)) (lv' := [(3, .int (x3 + 1)), (2, .int v1), (0, .ref (ad 43)), (1, .int x1)]) hx hb dX1_thatHold_34 hl (k := 3) rfl rfl (by decide) rfl (fun ls hl => ?_)
        refine lv_goto (tgt := 4) hx hb dX1_thatHold_37 (by decide) ?_
        exact ih v1 (x3 + 1) _ ls (lv_sub hl [2, 3, 1, 0] rfl) h kk
set_option maxHeartbeats 4000000 in
set_option maxRecDepth 100000 in
theorem kX1_thatHold (l : Launch) {D : va_G} {cI cB cZ : ClassId} {ad : Nat → Nat} {τ : Int64} (σ : Sg) (x1 : Int32) (o : Int32) (h : pX1_thatHold σ x1 = some o) : Met l yX1_thatHold wsX1_thatHold rmX1_thatHold (va_Pc [.ref (ad 43), .int x1] (PW D cI cB cZ (CW cI ad τ σ))) (QcRead o) 0 0 (fun _ => False) := by
  refine Met.ofW (cc := cX1_thatHold) (maxL := 4) (ret := (some .int)) (by decide) rfl ?_
  intro p e s m args below meth c s₁ B hml hv
  obtain ⟨rfl, hP, hK, hN⟩ := hv
  have C0 : Cx p s m _ meth c cX1_thatHold 4 (some .int) RX1 wsX1_thatHold := ⟨⟨B.exec, B.bytes, hml, findClass_of_methodNamed B.named, atoms_spec B.pre⟩, B.returns, B.notSynchronized⟩
  obtain ⟨⟨hx, hb, -, hown, hts⟩, hr, hlk⟩ := id C0
  have hl := lv_entry ([.ref (ad 43), .int x1]) (n := 4) (Nat.le_of_ble_eq_true rfl)
  rw [lg_entry_eq]
  generalize (lg_sl ([.ref (ad 43), .int x1]) ++ List.replicate (4 - (lg_sl ([.ref (ad 43), .int x1])).length) Slot.unset).toArray = ls at hl ⊢
  have hl : lv_has ls 4 [(0, .ref (ad 43)), (1, .int x1)] := hl
  rw [pX1_thatHold] at h
  refine lv_iconst (v := 0) hx hb dX1_thatHold_0 (by decide) ?_
  refine lv_istore_n (lv' := [(2, .int 0), (0, .ref (ad 43)), (1, .int x1)]) hx hb dX1_thatHold_1 rfl hl (by decide) rfl (fun ls hl => ?_)
  refine lv_iconst (v := 0) hx hb dX1_thatHold_2 (by decide) ?_
  refine lv_istore_n (lv' := [(3, .int 0), (2, .int 0), (0, .ref (ad 43)), (1, .int x1)]) hx hb dX1_thatHold_3 rfl hl (by decide) rfl (fun ls hl => ?_)
  obtain ⟨w3, e4, h⟩ := k_bd h
  refine bX1_thatHold_L4 C0 hK hN hP x1 2000 0 0 _ ls (lv_sub hl [2, 3, 1, 0] rfl) e4 (fun ls hl => ?_)
  refine lv_iload_n hx hb dX1_thatHold_40 rfl (lv_at hl 0 rfl) ?_
  obtain rfl := k_sm h
  exact W.iret hx hb hr (fun t ht hW => ⟨rfl, ht⟩) (fun _ h => by cases h) dX1_thatHold_41
set_option maxHeartbeats 4000000 in
set_option maxRecDepth 100000 in
theorem bX1_fitting_L19 {p : Program} {l : Launch} {e : Env} {s : State} {m : MethodId} {args : Array Value} {below : List Frame} {meth : Method} {c : Code} {Q : State → Prop} {D : va_G} {cI cB cZ : ClassId} {ad : Nat → Nat} (C0 : Cx p s m args meth c cX1_fitting 4 (some .int) RX1 wsX1_fitting) (hK : va_K D vwCl (tysA cI cB cZ) s) (hN : NW s) (hap : cwX ad) {τ : Int64} {σ : Sg}  : ∀ (n : Nat) (x1 : Int32) (x2 : Int32) (v : Int32) (H : Heap) (locs : List Loc) (ls : Array Slot), va_P D vwCl (CW cI ad τ σ) H → va_S (cwA ad) s.heap H locs → lv_has ls 4 [(0, .ref (ad 43)), (1, .int x1), (2, .int x2)] → pX1_fitting_L19 σ n x1 x2 = some v → (∀ (H1 : Heap) (locs1 : List Loc) (ls1 : Array Slot), va_P D vwCl (CW cI ad τ σ) H1 → va_S (cwA ad) s.heap H1 locs1 → lv_has ls1 4 [(1, .int v)] → W p l e rmX1_fitting s m args below meth c H1 locs1 0 0 Q (F0 m 68 ls1 [])) → W p l e rmX1_fitting s m args below meth c H locs 0 0 Q (F0 m 19 ls []) := by
  obtain ⟨⟨hx, hb, hml, hown, hts⟩, hr, hlk⟩ := id C0
  intro n
  induction n with
  | zero =>
    intro x1 x2 v H locs ls hP hS hl h kk
    exact absurd h (by simp [pX1_fitting_L19])
  | succ n ih =>
    intro x1 x2 v H locs ls hP hS hl h kk
    rw [pX1_fitting_L19] at h
    refine lv_iload_n hx hb dX1_fitting_19 rfl (lv_at hl 2 rfl) ?_
    refine lv_aload_n hx hb dX1_fitting_20 rfl (lv_at hl 0 rfl) ?_
    refine va_get (D := D) (ci := 1) (v := .int (σ 43 5)) (C := RX1) (T := TX1) (N := 6) hx hb hts iX1_fitting_X1 hown hK hP 43 cw_43 rfl 5 (by decide) (hts (.fieldLink RX1 29 RX1 "known" "I") (by decide +kernel)) (fun _ h9 => h9) rfl dX1_fitting_21 ?_
    refine lv_icmp_ge (tgt := 68) hx hb dX1_fitting_24 (by decide) (fun c24 => ?_) (fun c24 => ?_)
    · replace h := k_ip c24 h
      obtain rfl := k_sm h
      exact kk _ _ _ hP hS (lv_sub hl [1] rfl)
    · replace h := k_in c24 h
      refine lv_aload_n hx hb dX1_fitting_27 rfl (lv_at hl 0 rfl) ?_
      refine lv_aload_n hx hb dX1_fitting_28 rfl (lv_at hl 0 rfl) ?_
      refine va_get (D := D) (ci := 1) (v := .ref (ad 44)) (C := RX1) (T := TX1) (N := 6) hx hb hts iX1_fitting_X1 hown hK hP 43 cw_43 rfl 2 (by decide) (hts (.fieldLink RX1 11 RX1 "forces" "[I") (by decide +kernel)) (fun _ h9 => h9) rfl dX1_fitting_29 ?_
      refine lv_iload_n hx hb dX1_fitting_32 rfl (lv_at hl 2 rfl) ?_
      refine rd_calli (va_runSN (As := [.ref (ad 44), .int x2]) (rest := [.ref (ad 43)]) C0.1 (kX10_at l (ad 44) 6 (σ 44) x2 (by decide)) (wX1_fitting_X10_at hts hN ⟨Nat.le_of_ble_eq_true rfl, Nat.le_of_ble_eq_true rfl⟩) ⟨PAt.blind, PAt.mk (cw_t44 hK hP)⟩ rfl rfl hl.1 rfl (lv_room (Nat.le_of_ble_eq_true rfl)) dX1_fitting_33 ⟨Nat.zero_le _, Nat.zero_le _⟩) ?_
      obtain ⟨v5, e6, h⟩ := k_bd h
      refine rd_calli (va_runV (As := [.int (pX10_at (σ 44) 6 x2)]) (rest := []) C0.1 (kX1_thatHold l (D := D) (cI := cI) (cB := cB) (cZ := cZ) (ad := ad) (τ := τ) σ (pX10_at (σ 44) 6 x2) _ e6) (wX1_fitting_X1_thatHold hts ⟨Nat.le_of_ble_eq_true rfl, Nat.le_of_ble_eq_true rfl⟩) ⟨PW.blind, cw_r43 hK hP, PW.mk hP hK hN⟩ rfl rfl hl.1 rfl (lv_room (Nat.le_of_ble_eq_true rfl)) dX1_fitting_36 ⟨Nat.zero_le _, Nat.zero_le _⟩) ?_
      refine lv_istore_n (lv' := [(3, .int v5), (0, .ref (ad 43)), (1, .int x1), (2, .int x2)]) hx hb dX1_fitting_39 rfl hl (by decide) rfl (fun ls hl => ?_)
      refine lv_iload_n hx hb dX1_fitting_40 rfl (lv_at hl 2 rfl) ?_
      refine lv_aload_n hx hb dX1_fitting_41 rfl (lv_at hl 1 rfl) ?_
      refine va_get (D := D) (ci := 1) (v := .ref (ad 45)) (C := RX1) (T := TX1) (N := 6) hx hb hts iX1_fitting_X1 hown hK hP 43 cw_43 rfl 3 (by decide) (hts (.fieldLink RX1 15 RX1 "held" "[I") (by decide +kernel)) (fun _ h9 => h9) rfl dX1_fitting_42 ?_
      refine lv_iload_n hx hb dX1_fitting_45 rfl (lv_at hl 3 rfl) ?_
      refine rd_calli (va_runSN (As := [.ref (ad 45), .int x2]) (rest := [.int x1]) C0.1 (kX10_at l (ad 45) 6 (σ 45) x2 (by decide)) (wX1_fitting_X10_at hts hN ⟨Nat.le_of_ble_eq_true rfl, Nat.le_of_ble_eq_true rfl⟩) ⟨PAt.blind, PAt.mk (cw_t45 hK hP)⟩ rfl rfl hl.1 rfl (lv_room (Nat.le_of_ble_eq_true rfl)) dX1_fitting_46 ⟨Nat.zero_le _, Nat.zero_le _⟩) ?_
      refine lv_iconst (v := 1) hx hb dX1_fitting_49 (by decide) ?_
      refine lv_icmp_ne (tgt := 57) hx hb dX1_fitting_50 (by decide) (fun c50 => ?_) (fun c50 => ?_)
      · replace h := k_in c50 h
        refine lv_iload_n hx hb dX1_fitting_57 rfl (lv_at hl 0 rfl) ?_
        refine lv_iconst (v := (-1)) hx hb dX1_fitting_58 (by decide) ?_
        refine lv_ixor hx hb dX1_fitting_59 ?_
        refine lv_iand hx hb dX1_fitting_60 ?_
        obtain ⟨v7, e8, h⟩ := k_bd h
        refine lv_nmi (k_sm e8) ?_
        refine lv_istore_n (lv' := [(1, .int v7), (3, .int v5), (0, .ref (ad 43)), (2, .int x2)]) hx hb dX1_fitting_61 rfl hl (by decide) rfl (fun ls hl => ?_)
        refine lv_iinc (v := (x2 + 1)) (lv' := [(2, .int (x2 + 1)), (1, .int v7), (3, .int v5), (0, .ref (ad 43))]) hx hb dX1_fitting_62 hl (k := 3) rfl rfl (by decide) rfl (fun ls hl => ?_)
        refine lv_goto (tgt := 19) hx hb dX1_fitting_65 (by decide) ?_
        exact ih v7 (x2 + 1) _ _ _ ls hP hS (lv_sub hl [3, 1, 0] rfl) h kk
      · replace h := k_ip c50 h
        refine lv_iload_n hx hb dX1_fitting_53 rfl (lv_at hl 0 rfl) ?_
        refine lv_goto (tgt := 60) hx hb dX1_fitting_54 (by decide) ?_
        refine lv_iand hx hb dX1_fitting_60 ?_
        obtain ⟨v9, e10, h⟩ := k_bd h
        refine lv_nmi (k_sm e10) ?_
        refine lv_istore_n (lv' := [(1, .int v9), (3, .int v5), (0, .ref (ad 43)), (2, .int x2)]) hx hb dX1_fitting_61 rfl hl (by decide) rfl (fun ls hl => ?_)
        refine lv_iinc (v := (x2 + 1)) (lv' := [(2, .int (x2 + 1)), (1, .int v9), (3, .int v5), (0, .ref (ad 43))]) hx hb dX1_fitting_62 hl (k := 3) rfl rfl (by decide) rfl (fun ls hl => ?_)
        refine lv_goto (tgt := 19) hx hb dX1_fitting_65 (by decide) ?_
        exact ih v9 (x2 + 1) _ _ _ ls hP hS (lv_sub hl [3, 1, 0] rfl) h kk
set_option maxHeartbeats 4000000 in
set_option maxRecDepth 100000 in
theorem kX1_fitting (l : Launch) {D : va_G} {cI cB cZ : ClassId} {ad : Nat → Nat} {τ : Int64} (hap : cwX ad) (σ : Sg) (o : (Int32 × Sg)) (h : pX1_fitting σ = some o) : Met l yX1_fitting wsX1_fitting rmX1_fitting (va_Pc [.ref (ad 43)] (PW D cI cB cZ (CW cI ad τ σ))) (QI D (CW cI ad τ) (cwA ad) o.1 o.2) 0 0 (cwA ad) := by
  refine Met.ofW (cc := cX1_fitting) (maxL := 4) (ret := (some .int)) (by decide) rfl ?_
  intro p e s m args below meth c s₁ B hml hv
  obtain ⟨rfl, hP, hK, hN⟩ := hv
  have C0 : Cx p s m _ meth c cX1_fitting 4 (some .int) RX1 wsX1_fitting := ⟨⟨B.exec, B.bytes, hml, findClass_of_methodNamed B.named, atoms_spec B.pre⟩, B.returns, B.notSynchronized⟩
  obtain ⟨⟨hx, hb, -, hown, hts⟩, hr, hlk⟩ := id C0
  have hS : va_S (cwA ad) s.heap s.heap [] := va_S.rf
  have hl := lv_entry ([.ref (ad 43)]) (n := 4) (Nat.le_of_ble_eq_true rfl)
  rw [lg_entry_eq]
  generalize (lg_sl ([.ref (ad 43)]) ++ List.replicate (4 - (lg_sl ([.ref (ad 43)])).length) Slot.unset).toArray = ls at hl ⊢
  have hl : lv_has ls 4 [(0, .ref (ad 43))] := hl
  rw [pX1_fitting] at h
  refine lv_aload_n hx hb dX1_fitting_0 rfl (lv_at hl 0 rfl) ?_
  obtain ⟨u1, e2, h⟩ := k_bd h
  refine wr_callv (va_runV (As := []) (rest := []) C0.1 (kX1_weighStrengths l (D := D) (cI := cI) (cB := cB) (cZ := cZ) (τ := τ) hap σ  _ e2) (wX1_fitting_X1_weighStrengths hts ⟨Nat.le_of_ble_eq_true rfl, Nat.le_of_ble_eq_true rfl⟩) ⟨PW.blind, cw_r43 hK hP, PW.mk hP hK hN⟩ rfl rfl hl.1 rfl (lv_room (Nat.le_of_ble_eq_true rfl)) dX1_fitting_1 ⟨Nat.zero_le _, Nat.zero_le _⟩) hS (fun _ h => h) (fun H locs hP hS => ?_)
  have hP : va_P D vwCl (CW cI ad τ u1) H := hP
  refine lv_aload_n hx hb dX1_fitting_4 rfl (lv_at hl 0 rfl) ?_
  refine va_get (D := D) (ci := 1) (v := .ref (ad 1)) (C := RX1) (T := TX1) (N := 6) hx hb hts iX1_fitting_X1 hown hK hP 43 cw_43 rfl 0 (by decide) (hts (.fieldLink RX1 21 RX1 "told" "LAnchorWills$Told;") (by decide +kernel)) (fun _ h9 => h9) rfl dX1_fitting_5 ?_
  refine lv_aload_n hx hb dX1_fitting_8 rfl (lv_at hl 0 rfl) ?_
  refine va_get (D := D) (ci := 1) (v := .ref (ad 19)) (C := RX1) (T := TX1) (N := 6) hx hb hts iX1_fitting_X1 hown hK hP 43 cw_43 rfl 1 (by decide) (hts (.fieldLink RX1 25 RX1 "now" "LAnchorWills$Now;") (by decide +kernel)) (fun _ h9 => h9) rfl dX1_fitting_9 ?_
  refine lv_iconst (v := 0) hx hb dX1_fitting_12 (by decide) ?_
  obtain ⟨v3, e4, h⟩ := k_bd h
  refine rd_calli (va_runSN (As := [.ref (ad 1), .ref (ad 19), .int 0]) (rest := []) C0.1 (kX10_thoseThatAre_20 l (D := D) (cI := cI) (cB := cB) (cZ := cZ) (ad := ad) (τ := τ) u1 0 _ e4) (wX1_fitting_X10_thoseThatAre hts hN ⟨Nat.le_of_ble_eq_true rfl, Nat.le_of_ble_eq_true rfl⟩) ⟨PW.blind, PW.mk hP hK hN⟩ rfl rfl hl.1 rfl (lv_room (Nat.le_of_ble_eq_true rfl)) dX1_fitting_13 ⟨Nat.zero_le _, Nat.zero_le _⟩) ?_
  refine lv_istore_n (lv' := [(1, .int v3), (0, .ref (ad 43))]) hx hb dX1_fitting_16 rfl hl (by decide) rfl (fun ls hl => ?_)
  refine lv_iconst (v := 0) hx hb dX1_fitting_17 (by decide) ?_
  refine lv_istore_n (lv' := [(2, .int 0), (1, .int v3), (0, .ref (ad 43))]) hx hb dX1_fitting_18 rfl hl (by decide) rfl (fun ls hl => ?_)
  obtain ⟨w11, e12, h⟩ := k_bd h
  refine bX1_fitting_L19 C0 hK hN hap  2000 v3 0 _ _ _ ls hP hS (lv_sub hl [2, 1, 0] rfl) e12 (fun H locs ls hP hS hl => ?_)
  refine lv_iload_n hx hb dX1_fitting_68 rfl (lv_at hl 0 rfl) ?_
  obtain rfl := k_sm h
  exact W.iret hx hb hr (fun t ht hW => ⟨⟨_, _, rfl, ⟨rfl, rfl⟩, pw_end ht hP⟩, hS.F ht⟩) hS.2.2 dX1_fitting_69
set_option maxHeartbeats 4000000 in
set_option maxRecDepth 100000 in
theorem bX1_bestQuestion_L19 {p : Program} {l : Launch} {e : Env} {s : State} {m : MethodId} {args : Array Value} {below : List Frame} {meth : Method} {c : Code} {Q : State → Prop} {D : va_G} {cI cB cZ : ClassId} {ad : Nat → Nat} (C0 : Cx p s m args meth c cX1_bestQuestion 8 (some .int) RX1 wsX1_bestQuestion) (hK : va_K D vwCl (tysA cI cB cZ) s) (hN : NW s) (hap : cwX ad) {τ : Int64} {σ : Sg} (x1 : Int32) (x2 : Int32) : ∀ (n : Nat) (x3 : Int32) (x4 : Int32) (x5 : Int32) (v : Int32) (H : Heap) (locs : List Loc) (ls : Array Slot), va_P D vwCl (CW cI ad τ σ) H → va_S (cwA ad) s.heap H locs → lv_has ls 8 [(0, .ref (ad 43)), (1, .int x1), (2, .int x2), (3, .int x3), (4, .int x4), (5, .int x5)] → pX1_bestQuestion_L19 σ x1 x2 n x3 x4 x5 = some v → (∀ (H1 : Heap) (locs1 : List Loc) (ls1 : Array Slot), va_P D vwCl (CW cI ad τ σ) H1 → va_S (cwA ad) s.heap H1 locs1 → lv_has ls1 8 [(4, .int v)] → W p l e rmX1_bestQuestion s m args below meth c H1 locs1 0 0 Q (F0 m 69 ls1 [])) → W p l e rmX1_bestQuestion s m args below meth c H locs 0 0 Q (F0 m 19 ls []) := by
  obtain ⟨⟨hx, hb, hml, hown, hts⟩, hr, hlk⟩ := id C0
  intro n
  induction n with
  | zero =>
    intro x3 x4 x5 v H locs ls hP hS hl h kk
    exact absurd h (by simp [pX1_bestQuestion_L19])
  | succ n ih =>
    intro x3 x4 x5 v H locs ls hP hS hl h kk
    rw [pX1_bestQuestion_L19] at h
    refine lv_iload hx hb dX1_bestQuestion_19 (lv_at hl 5 rfl) ?_
    refine lv_bipush (v := 99) hx hb dX1_bestQuestion_21 (by decide) ?_
    refine lv_icmp_gt (tgt := 69) hx hb dX1_bestQuestion_23 (by decide) (fun c23 => ?_) (fun c23 => ?_)
    · replace h := k_ip c23 h
      obtain rfl := k_sm h
      exact kk _ _ _ hP hS (lv_sub hl [4] rfl)
    · replace h := k_in c23 h
      refine lv_iload_n hx hb dX1_bestQuestion_26 rfl (lv_at hl 1 rfl) ?_
      refine lv_aload_n hx hb dX1_bestQuestion_27 rfl (lv_at hl 0 rfl) ?_
      refine lv_iload hx hb dX1_bestQuestion_28 (lv_at hl 5 rfl) ?_
      obtain ⟨v5, e6, h⟩ := k_bd h
      refine rd_calli (va_runV (As := [.int x5]) (rest := [.int x1]) C0.1 (kX1_thatHold l (D := D) (cI := cI) (cB := cB) (cZ := cZ) (ad := ad) (τ := τ) σ x5 _ e6) (wX1_bestQuestion_X1_thatHold hts ⟨Nat.le_of_ble_eq_true rfl, Nat.le_of_ble_eq_true rfl⟩) ⟨PW.blind, cw_r43 hK hP, PW.mk hP hK hN⟩ rfl rfl hl.1 rfl (lv_room (Nat.le_of_ble_eq_true rfl)) dX1_bestQuestion_30 ⟨Nat.zero_le _, Nat.zero_le _⟩) ?_
      refine lv_iand hx hb dX1_bestQuestion_33 ?_
      refine rd_calli (va_runS (As := [.int (x1 &&& v5)]) (rest := []) C0.1 (kJ6_bitCount l (x1 &&& v5)) (wX1_bestQuestion_J6_bitCount_0f7a4 hts ⟨Nat.le_of_ble_eq_true rfl, Nat.le_of_ble_eq_true rfl⟩) ⟨PT.blind, fun _ _ _ => ⟨rfl, trivial⟩⟩ rfl rfl hl.1 rfl (lv_room (Nat.le_of_ble_eq_true rfl)) dX1_bestQuestion_34 ⟨Nat.zero_le _, Nat.zero_le _⟩) ?_
      obtain ⟨v7, e8, h⟩ := k_bd h
      refine lv_nmi (k_sm e8) ?_
      refine lv_istore (lv' := [(6, .int v7), (0, .ref (ad 43)), (1, .int x1), (2, .int x2), (3, .int x3), (4, .int x4), (5, .int x5)]) hx hb dX1_bestQuestion_37 hl (by decide) rfl (fun ls hl => ?_)
      refine lv_iload hx hb dX1_bestQuestion_39 (lv_at hl 0 rfl) ?_
      refine lv_iload_n hx hb dX1_bestQuestion_41 rfl (lv_at hl 3 rfl) ?_
      refine lv_iload hx hb dX1_bestQuestion_42 (lv_at hl 0 rfl) ?_
      refine lv_isub hx hb dX1_bestQuestion_44 ?_
      refine va_mmax hx hb (hml.trans hl.1.symm) hown (hts (.methodLink RX1 73 Lib.Math.max.name) (by decide +kernel)) (hts (.static Lib.Math.max.name) (by decide +kernel)) (hts (.initialized "java/lang/Math") (by decide +kernel)) (hts (.code Lib.Math.max.name Lib.Math.max.code 2 (some .int)) (by decide +kernel)) (Nat.le_of_ble_eq_true rfl) (Nat.le_of_ble_eq_true rfl) (Nat.zero_le _) (Nat.zero_le _) dX1_bestQuestion_45 ?_
      obtain ⟨v9, e10, h⟩ := k_bd h
      refine lv_nmi (k_sm e10) ?_
      refine lv_istore (lv' := [(7, .int v9), (6, .int v7), (0, .ref (ad 43)), (1, .int x1), (2, .int x2), (3, .int x3), (4, .int x4), (5, .int x5)]) hx hb dX1_bestQuestion_48 hl (by decide) rfl (fun ls hl => ?_)
      refine lv_iload hx hb dX1_bestQuestion_50 (lv_at hl 0 rfl) ?_
      refine lv_iload_n hx hb dX1_bestQuestion_52 rfl (lv_at hl 5 rfl) ?_
      refine lv_icmp_ge (tgt := 63) hx hb dX1_bestQuestion_53 (by decide) (fun c53 => ?_) (fun c53 => ?_)
      · replace h := k_ip c53 h
        refine lv_iinc (v := (x5 + 1)) (lv' := [(5, .int (x5 + 1)), (7, .int v9), (6, .int v7), (0, .ref (ad 43)), (1, .int x1), (2, .int x2), (3, .int x3), (4, .int x4)]) hx hb dX1_bestQuestion_63 hl (k := 7) rfl rfl (by decide) rfl (fun ls hl => ?_)
        refine lv_goto (tgt := 19) hx hb dX1_bestQuestion_66 (by decide) ?_
        exact ih x3 x4 (x5 + 1) _ _ _ ls hP hS (lv_sub hl [3, 4, 5, 6, 7, 0] rfl) h kk
      · replace h := k_in c53 h
        refine lv_iload hx hb dX1_bestQuestion_56 (lv_at hl 0 rfl) ?_
        refine lv_istore_n (lv' := [(3, .int v9), (7, .int v9), (6, .int v7), (0, .ref (ad 43)), (1, .int x1), (2, .int x2), (4, .int x4), (5, .int x5)]) hx hb dX1_bestQuestion_58 rfl hl (by decide) rfl (fun ls hl => ?_)
        refine lv_iload hx hb dX1_bestQuestion_59 (lv_at hl 7 rfl) ?_
        refine lv_istore (lv' := [(4, .int x5), (3, .int v9), (7, .int v9), (6, .int v7), (0, .ref (ad 43)), (1, .int x1), (2, .int x2), (5, .int x5)]) hx hb dX1_bestQuestion_61 hl (by decide) rfl (fun ls hl => ?_)
        refine lv_iinc (v := (x5 + 1)) (lv' := [(5, .int (x5 + 1)), (4, .int x5), (3, .int v9), (7, .int v9), (6, .int v7), (0, .ref (ad 43)), (1, .int x1), (2, .int x2)]) hx hb dX1_bestQuestion_63 hl (k := 7) rfl rfl (by decide) rfl (fun ls hl => ?_)
        refine lv_goto (tgt := 19) hx hb dX1_bestQuestion_66 (by decide) ?_
        exact ih v9 x5 (x5 + 1) _ _ _ ls hP hS (lv_sub hl [5, 6, 7, 2, 1, 0] rfl) h kk
set_option maxHeartbeats 4000000 in
set_option maxRecDepth 100000 in
theorem kX1_bestQuestion (l : Launch) {D : va_G} {cI cB cZ : ClassId} {ad : Nat → Nat} {τ : Int64} (hap : cwX ad) (σ : Sg) (o : (Int32 × Sg)) (h : pX1_bestQuestion σ = some o) : Met l yX1_bestQuestion wsX1_bestQuestion rmX1_bestQuestion (va_Pc [.ref (ad 43)] (PW D cI cB cZ (CW cI ad τ σ))) (QI D (CW cI ad τ) (cwA ad) o.1 o.2) 0 0 (cwA ad) := by
  refine Met.ofW (cc := cX1_bestQuestion) (maxL := 8) (ret := (some .int)) (by decide) rfl ?_
  intro p e s m args below meth c s₁ B hml hv
  obtain ⟨rfl, hP, hK, hN⟩ := hv
  have C0 : Cx p s m _ meth c cX1_bestQuestion 8 (some .int) RX1 wsX1_bestQuestion := ⟨⟨B.exec, B.bytes, hml, findClass_of_methodNamed B.named, atoms_spec B.pre⟩, B.returns, B.notSynchronized⟩
  obtain ⟨⟨hx, hb, -, hown, hts⟩, hr, hlk⟩ := id C0
  have hS : va_S (cwA ad) s.heap s.heap [] := va_S.rf
  have hl := lv_entry ([.ref (ad 43)]) (n := 8) (Nat.le_of_ble_eq_true rfl)
  rw [lg_entry_eq]
  generalize (lg_sl ([.ref (ad 43)]) ++ List.replicate (8 - (lg_sl ([.ref (ad 43)])).length) Slot.unset).toArray = ls at hl ⊢
  have hl : lv_has ls 8 [(0, .ref (ad 43))] := hl
  rw [pX1_bestQuestion] at h
  refine lv_aload_n hx hb dX1_bestQuestion_0 rfl (lv_at hl 0 rfl) ?_
  obtain ⟨u1, e2, h⟩ := k_bd h
  refine wr_calli (va_runV (As := []) (rest := []) C0.1 (kX1_fitting l (D := D) (cI := cI) (cB := cB) (cZ := cZ) (τ := τ) hap σ  _ e2) (wX1_bestQuestion_X1_fitting hts ⟨Nat.le_of_ble_eq_true rfl, Nat.le_of_ble_eq_true rfl⟩) ⟨PW.blind, cw_r43 hK hP, PW.mk hP hK hN⟩ rfl rfl hl.1 rfl (lv_room (Nat.le_of_ble_eq_true rfl)) dX1_bestQuestion_1 ⟨Nat.zero_le _, Nat.zero_le _⟩) hS (fun _ h => h) (fun H locs hP hS => ?_)
  have hP : va_P D vwCl (CW cI ad τ u1.2) H := hP
  refine lv_istore_n (lv' := [(1, .int u1.1), (0, .ref (ad 43))]) hx hb dX1_bestQuestion_4 rfl hl (by decide) rfl (fun ls hl => ?_)
  refine lv_iload_n hx hb dX1_bestQuestion_5 rfl (lv_at hl 0 rfl) ?_
  refine rd_calli (va_runS (As := [.int u1.1]) (rest := []) C0.1 (kJ6_bitCount l u1.1) (wX1_bestQuestion_J6_bitCount_0f7a4 hts ⟨Nat.le_of_ble_eq_true rfl, Nat.le_of_ble_eq_true rfl⟩) ⟨PT.blind, fun _ _ _ => ⟨rfl, trivial⟩⟩ rfl rfl hl.1 rfl (lv_room (Nat.le_of_ble_eq_true rfl)) dX1_bestQuestion_6 ⟨Nat.zero_le _, Nat.zero_le _⟩) ?_
  obtain ⟨v3, e4, h⟩ := k_bd h
  refine lv_nmi (k_sm e4) ?_
  refine lv_istore_n (lv' := [(2, .int v3), (1, .int u1.1), (0, .ref (ad 43))]) hx hb dX1_bestQuestion_9 rfl hl (by decide) rfl (fun ls hl => ?_)
  refine lv_iload_n hx hb dX1_bestQuestion_10 rfl (lv_at hl 0 rfl) ?_
  refine lv_istore_n (lv' := [(3, .int v3), (2, .int v3), (1, .int u1.1), (0, .ref (ad 43))]) hx hb dX1_bestQuestion_11 rfl hl (by decide) rfl (fun ls hl => ?_)
  refine lv_bipush (v := (-9)) hx hb dX1_bestQuestion_12 (by decide) ?_
  refine lv_istore (lv' := [(4, .int (-9)), (3, .int v3), (2, .int v3), (1, .int u1.1), (0, .ref (ad 43))]) hx hb dX1_bestQuestion_14 hl (by decide) rfl (fun ls hl => ?_)
  refine lv_iconst (v := 1) hx hb dX1_bestQuestion_16 (by decide) ?_
  refine lv_istore (lv' := [(5, .int 1), (4, .int (-9)), (3, .int v3), (2, .int v3), (1, .int u1.1), (0, .ref (ad 43))]) hx hb dX1_bestQuestion_17 hl (by decide) rfl (fun ls hl => ?_)
  obtain ⟨w11, e12, h⟩ := k_bd h
  refine bX1_bestQuestion_L19 C0 hK hN hap u1.1 v3 2000 v3 (-9) 1 _ _ _ ls hP hS (lv_sub hl [5, 4, 3, 2, 1, 0] rfl) e12 (fun H locs ls hP hS hl => ?_)
  refine lv_iload hx hb dX1_bestQuestion_69 (lv_at hl 0 rfl) ?_
  obtain rfl := k_sm h
  exact W.iret hx hb hr (fun t ht hW => ⟨⟨_, _, rfl, ⟨rfl, rfl⟩, pw_end ht hP⟩, hS.F ht⟩) hS.2.2 dX1_bestQuestion_71
set_option maxHeartbeats 4000000 in
set_option maxRecDepth 100000 in
theorem kX4_markAs (l : Launch) {D : va_G} {cI cB cZ : ClassId} {ad : Nat → Nat} {t_ABOVE t_LEAVES : Nat} (hap : cwX ad) (σ : Sg) : ∀ (d : Nat) (τ : Int64) (x1 x2 x3 : Int32) (o : (Int32 × Int64)), pX4_markAs d σ τ x1 x2 x3 = some o → Met l yX4_markAs wsX4_markAs (rmX4_markAs d) (va_Pc [.ref (ad 47), .int x1, .int x2, .int x3] (fun U => PW D cI cB cZ (CW cI ad τ σ) U ∧ SZ ad t_ABOVE t_LEAVES U)) (QI D (fun t => CW cI ad t σ) (cwA ad) o.1 o.2) 0 0 (cwA ad) := by
  intro d
  induction d with
  | zero =>
    intro τ x1 x2 x3 o h
    exact absurd h (by simp [pX4_markAs])
  | succ d hrec =>
  intro τ x1 x2 x3 o h
  refine Met.ofW (cc := cX4_markAs) (maxL := 5) (ret := (some .int)) (by decide) rfl ?_
  intro p e s m args below meth c s₁ B hml hv
  obtain ⟨rfl, ⟨hP, hK, hN⟩, hZ⟩ := hv
  obtain ⟨hZ_ABOVE, hZ_LEAVES, hT_ABOVE, hT_LEAVES⟩ := id hZ
  have C0 : Cx p s m _ meth c cX4_markAs 5 (some .int) RX4 wsX4_markAs := ⟨⟨B.exec, B.bytes, hml, findClass_of_methodNamed B.named, atoms_spec B.pre⟩, B.returns, B.notSynchronized⟩
  obtain ⟨⟨hx, hb, -, hown, hts⟩, hr, hlk⟩ := id C0
  have hS : va_S (cwA ad) s.heap s.heap [] := va_S.rf
  have hl := lv_entry ([.ref (ad 47), .int x1, .int x2, .int x3]) (n := 5) (Nat.le_of_ble_eq_true rfl)
  rw [lg_entry_eq]
  generalize (lg_sl ([.ref (ad 47), .int x1, .int x2, .int x3]) ++ List.replicate (5 - (lg_sl ([.ref (ad 47), .int x1, .int x2, .int x3])).length) Slot.unset).toArray = ls at hl ⊢
  have hl : lv_has ls 5 [(0, .ref (ad 47)), (1, .int x1), (2, .int x2), (3, .int x3)] := hl
  rw [pX4_markAs] at h
  refine lv_iload_n hx hb dX4_markAs_0 rfl (lv_at hl 3 rfl) ?_
  refine lv_iconst (v := 1) hx hb dX4_markAs_1 (by decide) ?_
  refine lv_icmp_ge (tgt := 7) hx hb dX4_markAs_2 (by decide) (fun c2 => ?_) (fun c2 => ?_)
  · replace h := k_ip c2 h
    refine lv_aload_n hx hb dX4_markAs_7 rfl (lv_at hl 0 rfl) ?_
    refine lv_dup hx hb dX4_markAs_8 rfl ?_
    refine va_get (D := D) (ci := 4) (v := .long τ) (C := RX4) (T := TX4) (N := 3) hx hb hts iX4_markAs_X4 hown hK hP 47 cw_47 rfl 2 (by decide) (hts (.fieldLink RX4 17 RX4 "traced" "J") (by decide +kernel)) (fun _ h9 => h9) rfl dX4_markAs_9 ?_
    refine va_gets hx hb hZ_LEAVES hS hown (hts (.fieldLink RX4 21 RX4 "LEAVES" "[I") (by decide +kernel)) (fun _ h9 => h9) dX4_markAs_12 ?_
    refine lv_iload_n hx hb dX4_markAs_15 rfl (lv_at hl 1 rfl) ?_
    refine rd_calli (va_runSN (As := [.ref t_LEAVES, .int x1]) (rest := [.long τ, .ref (ad 47)]) C0.1 (kX10_at l t_LEAVES 6 f_LEAVES x1 (by decide)) (wX4_markAs_X10_at hts hN ⟨by simp only [headSpec, rmX4_markAs, rmX10_at]; omega, by simp only [headSpec, rmX4_markAs, rmX10_at]; omega⟩) ⟨PAt.blind, PAt.mk (SZ_at hT_LEAVES hS)⟩ rfl rfl hl.1 rfl (lv_room (Nat.le_of_ble_eq_true rfl)) dX4_markAs_16 ⟨Nat.zero_le _, Nat.zero_le _⟩) ?_
    refine lv_i2l hx hb dX4_markAs_19 rfl ?_
    refine lv_ladd hx hb dX4_markAs_20 ?_
    refine va_put (D := D) (ci := 4) (v := .long (τ + ((pX10_at f_LEAVES 6 x1).toInt64))) (ty := .long) (C := RX4) (T := TX4) (N := 3) hx hb hts iX4_markAs_X4 tyX4 tyX4_ok nmX4 hown hK hP (cw_D hap) hS 47 cw_47 rfl 2 (by decide) (hts (.fieldLink RX4 17 RX4 "traced" "J") (by decide +kernel)) (fun _ h9 => h9) rfl (by decide +kernel) rfl rfl (Nat.le_of_ble_eq_true rfl) dX4_markAs_21 (fun H locs hP _ hS => ?_)
    have hP := cw_s47_2 hP
    obtain ⟨t1, e2, h⟩ := k_bd h
    rw [k_sm e2] at hP
    refine lv_iload_n hx hb dX4_markAs_24 rfl (lv_at hl 1 rfl) ?_
    refine lv_if_ne (tgt := 41) hx hb dX4_markAs_25 (by decide) (fun c25 => ?_) (fun c25 => ?_)
    · replace h := k_in c25 h
      refine lv_aload_n hx hb dX4_markAs_41 rfl (lv_at hl 0 rfl) ?_
      refine va_gets hx hb hZ_ABOVE hS hown (hts (.fieldLink RX4 37 RX4 "ABOVE" "[I") (by decide +kernel)) (fun _ h9 => h9) dX4_markAs_42 ?_
      refine lv_iload_n hx hb dX4_markAs_45 rfl (lv_at hl 1 rfl) ?_
      refine rd_calli (va_runSN (As := [.ref t_ABOVE, .int x1]) (rest := [.ref (ad 47)]) C0.1 (kX10_at l t_ABOVE 6 f_ABOVE x1 (by decide)) (wX4_markAs_X10_at hts hN ⟨by simp only [headSpec, rmX4_markAs, rmX10_at]; omega, by simp only [headSpec, rmX4_markAs, rmX10_at]; omega⟩) ⟨PAt.blind, PAt.mk (SZ_at hT_ABOVE hS)⟩ rfl rfl hl.1 rfl (lv_room (Nat.le_of_ble_eq_true rfl)) dX4_markAs_46 ⟨Nat.zero_le _, Nat.zero_le _⟩) ?_
      refine lv_iload_n hx hb dX4_markAs_49 rfl (lv_at hl 2 rfl) ?_
      refine lv_iload_n hx hb dX4_markAs_50 rfl (lv_at hl 3 rfl) ?_
      refine lv_iconst (v := 1) hx hb dX4_markAs_51 (by decide) ?_
      refine lv_isub hx hb dX4_markAs_52 ?_
      obtain ⟨u3, e4, h⟩ := k_bd h
      refine wr_calli (va_runS (As := [.ref (ad 47), .int (pX10_at f_ABOVE 6 x1), .int x2, .int (x3 - 1)]) (rest := []) C0.1 (hrec t1 (pX10_at f_ABOVE 6 x1) x2 (x3 - 1) _ e4) (wX4_markAs_X4_markAs hts ⟨by simp only [headSpec, rmX4_markAs]; omega, by simp only [headSpec, rmX4_markAs]; omega⟩) ⟨PWS.blind, PWS.mk hP hK hN hZ hS⟩ rfl rfl hl.1 rfl (lv_room (Nat.le_of_ble_eq_true rfl)) dX4_markAs_53 ⟨Nat.zero_le _, Nat.zero_le _⟩) hS (fun _ h => h) (fun H locs hP hS => ?_)
      have hP : va_P D vwCl (CW cI ad u3.2 σ) H := hP
      refine lv_istore (lv' := [(4, .int u3.1), (0, .ref (ad 47)), (1, .int x1), (2, .int x2), (3, .int x3)]) hx hb dX4_markAs_56 hl (by decide) rfl (fun ls hl => ?_)
      refine lv_iload_n hx hb dX4_markAs_58 rfl (lv_at hl 2 rfl) ?_
      by_cases c59_1 : x1 = 1
      · replace h := k_ip c59_1 h
        refine lv_tableIn (tgt := 92) hx hb dX4_markAs_59 (by rw [c59_1] <;> decide) (by rw [c59_1] <;> decide) (by rw [c59_1] <;> rfl) (by decide) ?_
        refine lv_iload hx hb dX4_markAs_92 (lv_at hl 0 rfl) ?_
        refine lv_aload_n hx hb dX4_markAs_94 rfl (lv_at hl 1 rfl) ?_
        refine va_get (D := D) (ci := 4) (v := .ref (ad 1)) (C := RX4) (T := TX4) (N := 3) hx hb hts iX4_markAs_X4 hown hK hP 47 cw_47 rfl 0 (by decide) (hts (.fieldLink RX4 7 RX4 "told" "LAnchorWills$Told;") (by decide +kernel)) (fun _ h9 => h9) rfl dX4_markAs_95 ?_
        refine va_getN (D := D) (ci := 9) (v := .ref (ad 6)) (C := RX9) (T := TX9) (N := 10) hx hb hts iX4_markAs_X9 hown hK hP 1 cw_1 rfl 4 (by decide) (va_Nw.use rfl (nf_X4_44 hN)) (fun _ h9 => h9) rfl dX4_markAs_98 ?_
        refine lv_iload_n hx hb dX4_markAs_101 rfl (lv_at hl 3 rfl) ?_
        refine rd_calli (va_runSN (As := [.ref (ad 6), .int x2]) (rest := [.int u3.1]) C0.1 (kX10_at l (ad 6) 8 (σ 6) x2 (by decide)) (wX4_markAs_X10_at hts hN ⟨by simp only [headSpec, rmX4_markAs, rmX10_at]; omega, by simp only [headSpec, rmX4_markAs, rmX10_at]; omega⟩) ⟨PAt.blind, PAt.mk (cw_t6 hK hP)⟩ rfl rfl hl.1 rfl (lv_room (Nat.le_of_ble_eq_true rfl)) dX4_markAs_102 ⟨Nat.zero_le _, Nat.zero_le _⟩) ?_
        refine lv_iadd hx hb dX4_markAs_105 ?_
        obtain rfl := k_sm h
        exact W.iret hx hb hr (fun t ht hW => ⟨⟨_, _, rfl, ⟨rfl, rfl⟩, pw_end ht hP⟩, hS.F ht⟩) hS.2.2 dX4_markAs_106
      replace h := k_in c59_1 h
      by_cases c59_2 : x1 = 2
      · replace h := k_ip c59_2 h
        refine lv_tableIn (tgt := 107) hx hb dX4_markAs_59 (by rw [c59_2] <;> decide) (by rw [c59_2] <;> decide) (by rw [c59_2] <;> rfl) (by decide) ?_
        refine lv_iload hx hb dX4_markAs_107 (lv_at hl 0 rfl) ?_
        refine lv_aload_n hx hb dX4_markAs_109 rfl (lv_at hl 1 rfl) ?_
        refine va_get (D := D) (ci := 4) (v := .ref (ad 19)) (C := RX4) (T := TX4) (N := 3) hx hb hts iX4_markAs_X4 hown hK hP 47 cw_47 rfl 1 (by decide) (hts (.fieldLink RX4 13 RX4 "now" "LAnchorWills$Now;") (by decide +kernel)) (fun _ h9 => h9) rfl dX4_markAs_110 ?_
        refine lv_bipush (v := 16) hx hb dX4_markAs_113 (by decide) ?_
        refine lv_iload_n hx hb dX4_markAs_115 rfl (lv_at hl 3 rfl) ?_
        refine rd_calli (va_runVN (As := [.int 16, .int x2]) (rest := [.int u3.1]) C0.1 (kX5_get_20 l (D := D) (cI := cI) (cB := cB) (cZ := cZ) (ad := ad) (τ := u3.2) σ 16 x2) (wX4_markAs_X5_get hts hN ⟨by simp only [headSpec, rmX4_markAs, rmX5_get]; omega, by simp only [headSpec, rmX4_markAs, rmX5_get]; omega⟩) ⟨PW.blind, cw_r19 hK hP, PW.mk hP hK hN⟩ rfl rfl hl.1 rfl (lv_room (Nat.le_of_ble_eq_true rfl)) dX4_markAs_116 ⟨Nat.zero_le _, Nat.zero_le _⟩) ?_
        refine lv_isub hx hb dX4_markAs_119 ?_
        obtain rfl := k_sm h
        exact W.iret hx hb hr (fun t ht hW => ⟨⟨_, _, rfl, ⟨rfl, rfl⟩, pw_end ht hP⟩, hS.F ht⟩) hS.2.2 dX4_markAs_120
      replace h := k_in c59_2 h
      by_cases c59_3 : x1 = 3
      · replace h := k_ip c59_3 h
        refine lv_tableIn (tgt := 121) hx hb dX4_markAs_59 (by rw [c59_3] <;> decide) (by rw [c59_3] <;> decide) (by rw [c59_3] <;> rfl) (by decide) ?_
        refine lv_iload hx hb dX4_markAs_121 (lv_at hl 0 rfl) ?_
        refine lv_iconst (v := 2) hx hb dX4_markAs_123 (by decide) ?_
        refine lv_imul hx hb dX4_markAs_124 ?_
        obtain rfl := k_sm h
        exact W.iret hx hb hr (fun t ht hW => ⟨⟨_, _, rfl, ⟨rfl, rfl⟩, pw_end ht hP⟩, hS.F ht⟩) hS.2.2 dX4_markAs_125
      replace h := k_in c59_3 h
      by_cases c59_4 : x1 = 4
      · replace h := k_ip c59_4 h
        refine lv_tableIn (tgt := 126) hx hb dX4_markAs_59 (by rw [c59_4] <;> decide) (by rw [c59_4] <;> decide) (by rw [c59_4] <;> rfl) (by decide) ?_
        refine lv_iload hx hb dX4_markAs_126 (lv_at hl 0 rfl) ?_
        refine lv_iload_n hx hb dX4_markAs_128 rfl (lv_at hl 3 rfl) ?_
        refine lv_iadd hx hb dX4_markAs_129 ?_
        obtain rfl := k_sm h
        exact W.iret hx hb hr (fun t ht hW => ⟨⟨_, _, rfl, ⟨rfl, rfl⟩, pw_end ht hP⟩, hS.F ht⟩) hS.2.2 dX4_markAs_130
      replace h := k_in c59_4 h
      by_cases c59_5 : x1 = 5
      · replace h := k_ip c59_5 h
        refine lv_tableIn (tgt := 131) hx hb dX4_markAs_59 (by rw [c59_5] <;> decide) (by rw [c59_5] <;> decide) (by rw [c59_5] <;> rfl) (by decide) ?_
        refine lv_iload hx hb dX4_markAs_131 (lv_at hl 0 rfl) ?_
        refine lv_aload_n hx hb dX4_markAs_133 rfl (lv_at hl 1 rfl) ?_
        refine va_get (D := D) (ci := 4) (v := .ref (ad 19)) (C := RX4) (T := TX4) (N := 3) hx hb hts iX4_markAs_X4 hown hK hP 47 cw_47 rfl 1 (by decide) (hts (.fieldLink RX4 13 RX4 "now" "LAnchorWills$Now;") (by decide +kernel)) (fun _ h9 => h9) rfl dX4_markAs_134 ?_
        refine lv_bipush (v := 38) hx hb dX4_markAs_137 (by decide) ?_
        refine lv_aload_n hx hb dX4_markAs_139 rfl (lv_at hl 1 rfl) ?_
        refine va_get (D := D) (ci := 4) (v := .ref (ad 1)) (C := RX4) (T := TX4) (N := 3) hx hb hts iX4_markAs_X4 hown hK hP 47 cw_47 rfl 0 (by decide) (hts (.fieldLink RX4 7 RX4 "told" "LAnchorWills$Told;") (by decide +kernel)) (fun _ h9 => h9) rfl dX4_markAs_140 ?_
        refine va_getN (D := D) (ci := 9) (v := .ref (ad 4)) (C := RX9) (T := TX9) (N := 10) hx hb hts iX4_markAs_X9 hown hK hP 1 cw_1 rfl 2 (by decide) (va_Nw.use rfl (nf_X4_53 hN)) (fun _ h9 => h9) rfl dX4_markAs_143 ?_
        refine lv_iload_n hx hb dX4_markAs_146 rfl (lv_at hl 3 rfl) ?_
        refine rd_calli (va_runSN (As := [.ref (ad 4), .int x2]) (rest := [.int 38, .ref (ad 19), .int u3.1]) C0.1 (kX10_at l (ad 4) 8 (σ 4) x2 (by decide)) (wX4_markAs_X10_at hts hN ⟨by simp only [headSpec, rmX4_markAs, rmX10_at]; omega, by simp only [headSpec, rmX4_markAs, rmX10_at]; omega⟩) ⟨PAt.blind, PAt.mk (cw_t4 hK hP)⟩ rfl rfl hl.1 rfl (lv_room (Nat.le_of_ble_eq_true rfl)) dX4_markAs_147 ⟨Nat.zero_le _, Nat.zero_le _⟩) ?_
        refine rd_calli (va_runVN (As := [.int 38, .int (pX10_at (σ 4) 8 x2)]) (rest := [.int u3.1]) C0.1 (kX5_get_20 l (D := D) (cI := cI) (cB := cB) (cZ := cZ) (ad := ad) (τ := u3.2) σ 38 (pX10_at (σ 4) 8 x2)) (wX4_markAs_X5_get hts hN ⟨by simp only [headSpec, rmX4_markAs, rmX5_get]; omega, by simp only [headSpec, rmX4_markAs, rmX5_get]; omega⟩) ⟨PW.blind, cw_r19 hK hP, PW.mk hP hK hN⟩ rfl rfl hl.1 rfl (lv_room (Nat.le_of_ble_eq_true rfl)) dX4_markAs_150 ⟨Nat.zero_le _, Nat.zero_le _⟩) ?_
        refine lv_iadd hx hb dX4_markAs_153 ?_
        obtain rfl := k_sm h
        exact W.iret hx hb hr (fun t ht hW => ⟨⟨_, _, rfl, ⟨rfl, rfl⟩, pw_end ht hP⟩, hS.F ht⟩) hS.2.2 dX4_markAs_154
      replace h := k_in c59_5 h
      refine lv_tableOut (tgt := 155) hx hb dX4_markAs_59 (by have z1 := lv_neT (a := 1) c59_1 (by decide); have z2 := lv_neT (a := 2) c59_2 (by decide); have z3 := lv_neT (a := 3) c59_3 (by decide); have z4 := lv_neT (a := 4) c59_4 (by decide); have z5 := lv_neT (a := 5) c59_5 (by decide); omega) (by decide) ?_
      refine lv_iload hx hb dX4_markAs_155 (lv_at hl 0 rfl) ?_
      obtain rfl := k_sm h
      exact W.iret hx hb hr (fun t ht hW => ⟨⟨_, _, rfl, ⟨rfl, rfl⟩, pw_end ht hP⟩, hS.F ht⟩) hS.2.2 dX4_markAs_157
    · replace h := k_ip c25 h
      refine lv_aload_n hx hb dX4_markAs_28 rfl (lv_at hl 0 rfl) ?_
      refine va_get (D := D) (ci := 4) (v := .ref (ad 1)) (C := RX4) (T := TX4) (N := 3) hx hb hts iX4_markAs_X4 hown hK hP 47 cw_47 rfl 0 (by decide) (hts (.fieldLink RX4 7 RX4 "told" "LAnchorWills$Told;") (by decide +kernel)) (fun _ h9 => h9) rfl dX4_markAs_29 ?_
      refine lv_aload_n hx hb dX4_markAs_32 rfl (lv_at hl 0 rfl) ?_
      refine va_get (D := D) (ci := 4) (v := .ref (ad 19)) (C := RX4) (T := TX4) (N := 3) hx hb hts iX4_markAs_X4 hown hK hP 47 cw_47 rfl 1 (by decide) (hts (.fieldLink RX4 13 RX4 "now" "LAnchorWills$Now;") (by decide +kernel)) (fun _ h9 => h9) rfl dX4_markAs_33 ?_
      refine lv_iload_n hx hb dX4_markAs_36 rfl (lv_at hl 2 rfl) ?_
      obtain ⟨v5, e6, h⟩ := k_bd h
      refine rd_calli (va_runVN (As := [.ref (ad 19), .int x2]) (rest := []) C0.1 (kX9_strengthOf_20 l (D := D) (cI := cI) (cB := cB) (cZ := cZ) (ad := ad) (τ := t1) σ x2 _ e6) (wX4_markAs_X9_strengthOf hts hN ⟨by simp only [headSpec, rmX4_markAs, rmX9_strengthOf]; omega, by simp only [headSpec, rmX4_markAs, rmX9_strengthOf]; omega⟩) ⟨PW.blind, cw_r1 hK hP, PW.mk hP hK hN⟩ rfl rfl hl.1 rfl (lv_room (Nat.le_of_ble_eq_true rfl)) dX4_markAs_37 ⟨Nat.zero_le _, Nat.zero_le _⟩) ?_
      obtain rfl := k_sm h
      exact W.iret hx hb hr (fun t ht hW => ⟨⟨_, _, rfl, ⟨rfl, rfl⟩, pw_end ht hP⟩, hS.F ht⟩) hS.2.2 dX4_markAs_40
  · replace h := k_in c2 h
    refine lv_iconst (v := 0) hx hb dX4_markAs_5 (by decide) ?_
    obtain rfl := k_sm h
    exact W.iret hx hb hr (fun t ht hW => ⟨⟨_, _, rfl, ⟨rfl, rfl⟩, pw_end ht hP⟩, hS.F ht⟩) hS.2.2 dX4_markAs_6
set_option maxHeartbeats 4000000 in
set_option maxRecDepth 100000 in
theorem kX3_keeps_23_20 (l : Launch) {D : va_G} {cI cB cZ : ClassId} {ad : Nat → Nat} {τ : Int64} (hap : cwX ad) (σ : Sg) (o : Sg) (h : pX3_keeps_23 20 σ = some o) : Met l yX3_keeps wsX3_keeps rmX3_keeps (va_Pc [.ref (ad 23), .ref (ad 19), .ref (ad 21)] (PW D cI cB cZ (CW cI ad τ σ))) (QV D (CW cI ad τ) (cwA ad) o) 0 0 (cwA ad) := by
  refine Met.ofW (cc := cX3_keeps) (maxL := 3) (ret := none) (by decide) rfl ?_
  intro p e s m args below meth c s₁ B hml hv
  obtain ⟨rfl, hP, hK, hN⟩ := hv
  have C0 : Cx p s m _ meth c cX3_keeps 3 none RX3 wsX3_keeps := ⟨⟨B.exec, B.bytes, hml, findClass_of_methodNamed B.named, atoms_spec B.pre⟩, B.returns, B.notSynchronized⟩
  obtain ⟨⟨hx, hb, -, hown, hts⟩, hr, hlk⟩ := id C0
  have hS : va_S (cwA ad) s.heap s.heap [] := va_S.rf
  have hl := lv_entry ([.ref (ad 23), .ref (ad 19), .ref (ad 21)]) (n := 3) (Nat.le_of_ble_eq_true rfl)
  rw [lg_entry_eq]
  generalize (lg_sl ([.ref (ad 23), .ref (ad 19), .ref (ad 21)]) ++ List.replicate (3 - (lg_sl ([.ref (ad 23), .ref (ad 19), .ref (ad 21)])).length) Slot.unset).toArray = ls at hl ⊢
  have hl : lv_has ls 3 [(0, .ref (ad 23)), (1, .ref (ad 19)), (2, .ref (ad 21))] := hl
  rw [pX3_keeps_23] at h
  refine lv_aload_n hx hb dX3_keeps_0 rfl (lv_at hl 0 rfl) ?_
  refine va_get (D := D) (ci := 3) (v := .ref (ad 24)) (C := RX3) (T := TX3) (N := 3) hx hb hts iX3_keeps_X3 hown hK hP 23 cw_23 rfl 0 (by decide) (hts (.fieldLink RX3 10 RX3 "now" "LAnchorWills$Now;") (by decide +kernel)) (fun _ h9 => h9) rfl dX3_keeps_1 ?_
  refine lv_aload_n hx hb dX3_keeps_4 rfl (lv_at hl 1 rfl) ?_
  obtain ⟨u1, e2, h⟩ := k_bd h
  refine wr_callv (va_runVN (As := [.ref (ad 19)]) (rest := []) C0.1 (kX5_becomes_25_20 l (D := D) (cI := cI) (cB := cB) (cZ := cZ) (τ := τ) hap σ  _ e2) (wX3_keeps_X5_becomes hts hN ⟨Nat.le_of_ble_eq_true rfl, Nat.le_of_ble_eq_true rfl⟩) ⟨PW.blind, cw_r24 hK hP, PW.mk hP hK hN⟩ rfl rfl hl.1 rfl (lv_room (Nat.le_of_ble_eq_true rfl)) dX3_keeps_5 ⟨Nat.zero_le _, Nat.zero_le _⟩) hS (fun _ h => h) (fun H locs hP hS => ?_)
  have hP : va_P D vwCl (CW cI ad τ u1) H := hP
  refine lv_aload_n hx hb dX3_keeps_8 rfl (lv_at hl 0 rfl) ?_
  refine va_get (D := D) (ci := 3) (v := .ref (ad 26)) (C := RX3) (T := TX3) (N := 3) hx hb hts iX3_keeps_X3 hown hK hP 23 cw_23 rfl 1 (by decide) (hts (.fieldLink RX3 19 RX3 "past" "LAnchorWills$Past;") (by decide +kernel)) (fun _ h9 => h9) rfl dX3_keeps_9 ?_
  refine lv_aload_n hx hb dX3_keeps_12 rfl (lv_at hl 2 rfl) ?_
  obtain ⟨u3, e4, h⟩ := k_bd h
  refine wr_callv (va_runVN (As := [.ref (ad 21)]) (rest := []) C0.1 (kX6_becomes_26_21 l (D := D) (cI := cI) (cB := cB) (cZ := cZ) (τ := τ) hap u1  _ e4) (wX3_keeps_X6_becomes hts hN ⟨Nat.le_of_ble_eq_true rfl, Nat.le_of_ble_eq_true rfl⟩) ⟨PW.blind, cw_r26 hK hP, PW.mk hP hK hN⟩ rfl rfl hl.1 rfl (lv_room (Nat.le_of_ble_eq_true rfl)) dX3_keeps_13 ⟨Nat.zero_le _, Nat.zero_le _⟩) hS (fun _ h => h) (fun H locs hP hS => ?_)
  have hP : va_P D vwCl (CW cI ad τ u3) H := hP
  refine lv_aload_n hx hb dX3_keeps_16 rfl (lv_at hl 0 rfl) ?_
  refine lv_iconst (v := 1) hx hb dX3_keeps_17 (by decide) ?_
  refine va_put (D := D) (ci := 3) (v := .int 1) (ty := .boolean) (C := RX3) (T := TX3) (N := 3) hx hb hts iX3_keeps_X3 tyX3 tyX3_ok nmX3 hown hK hP (cw_D hap) hS 23 cw_23 rfl 2 (by decide) (hts (.fieldLink RX3 30 RX3 "isKept" "Z") (by decide +kernel)) (fun _ h9 => h9) rfl (by decide +kernel) rfl rfl (Nat.le_of_ble_eq_true rfl) dX3_keeps_18 (fun H locs hP _ hS => ?_)
  have hP := cw_s23_2 hP
  obtain ⟨σ5, e6, h⟩ := k_bd h
  rw [k_sm e6] at hP
  obtain rfl := k_sm h
  exact W.vret hx hb hr (fun t ht hW => ⟨⟨_, rfl, rfl, pw_end ht hP⟩, hS.F ht⟩) hS.2.2 dX3_keeps_21
set_option maxHeartbeats 4000000 in
set_option maxRecDepth 100000 in
theorem kX3_keeps_28_20 (l : Launch) {D : va_G} {cI cB cZ : ClassId} {ad : Nat → Nat} {τ : Int64} (hap : cwX ad) (σ : Sg) (o : Sg) (h : pX3_keeps_28 20 σ = some o) : Met l yX3_keeps wsX3_keeps rmX3_keeps (va_Pc [.ref (ad 28), .ref (ad 19), .ref (ad 21)] (PW D cI cB cZ (CW cI ad τ σ))) (QV D (CW cI ad τ) (cwA ad) o) 0 0 (cwA ad) := by
  refine Met.ofW (cc := cX3_keeps) (maxL := 3) (ret := none) (by decide) rfl ?_
  intro p e s m args below meth c s₁ B hml hv
  obtain ⟨rfl, hP, hK, hN⟩ := hv
  have C0 : Cx p s m _ meth c cX3_keeps 3 none RX3 wsX3_keeps := ⟨⟨B.exec, B.bytes, hml, findClass_of_methodNamed B.named, atoms_spec B.pre⟩, B.returns, B.notSynchronized⟩
  obtain ⟨⟨hx, hb, -, hown, hts⟩, hr, hlk⟩ := id C0
  have hS : va_S (cwA ad) s.heap s.heap [] := va_S.rf
  have hl := lv_entry ([.ref (ad 28), .ref (ad 19), .ref (ad 21)]) (n := 3) (Nat.le_of_ble_eq_true rfl)
  rw [lg_entry_eq]
  generalize (lg_sl ([.ref (ad 28), .ref (ad 19), .ref (ad 21)]) ++ List.replicate (3 - (lg_sl ([.ref (ad 28), .ref (ad 19), .ref (ad 21)])).length) Slot.unset).toArray = ls at hl ⊢
  have hl : lv_has ls 3 [(0, .ref (ad 28)), (1, .ref (ad 19)), (2, .ref (ad 21))] := hl
  rw [pX3_keeps_28] at h
  refine lv_aload_n hx hb dX3_keeps_0 rfl (lv_at hl 0 rfl) ?_
  refine va_get (D := D) (ci := 3) (v := .ref (ad 29)) (C := RX3) (T := TX3) (N := 3) hx hb hts iX3_keeps_X3 hown hK hP 28 cw_28 rfl 0 (by decide) (hts (.fieldLink RX3 10 RX3 "now" "LAnchorWills$Now;") (by decide +kernel)) (fun _ h9 => h9) rfl dX3_keeps_1 ?_
  refine lv_aload_n hx hb dX3_keeps_4 rfl (lv_at hl 1 rfl) ?_
  obtain ⟨u1, e2, h⟩ := k_bd h
  refine wr_callv (va_runVN (As := [.ref (ad 19)]) (rest := []) C0.1 (kX5_becomes_30_20 l (D := D) (cI := cI) (cB := cB) (cZ := cZ) (τ := τ) hap σ  _ e2) (wX3_keeps_X5_becomes hts hN ⟨Nat.le_of_ble_eq_true rfl, Nat.le_of_ble_eq_true rfl⟩) ⟨PW.blind, cw_r29 hK hP, PW.mk hP hK hN⟩ rfl rfl hl.1 rfl (lv_room (Nat.le_of_ble_eq_true rfl)) dX3_keeps_5 ⟨Nat.zero_le _, Nat.zero_le _⟩) hS (fun _ h => h) (fun H locs hP hS => ?_)
  have hP : va_P D vwCl (CW cI ad τ u1) H := hP
  refine lv_aload_n hx hb dX3_keeps_8 rfl (lv_at hl 0 rfl) ?_
  refine va_get (D := D) (ci := 3) (v := .ref (ad 31)) (C := RX3) (T := TX3) (N := 3) hx hb hts iX3_keeps_X3 hown hK hP 28 cw_28 rfl 1 (by decide) (hts (.fieldLink RX3 19 RX3 "past" "LAnchorWills$Past;") (by decide +kernel)) (fun _ h9 => h9) rfl dX3_keeps_9 ?_
  refine lv_aload_n hx hb dX3_keeps_12 rfl (lv_at hl 2 rfl) ?_
  obtain ⟨u3, e4, h⟩ := k_bd h
  refine wr_callv (va_runVN (As := [.ref (ad 21)]) (rest := []) C0.1 (kX6_becomes_31_21 l (D := D) (cI := cI) (cB := cB) (cZ := cZ) (τ := τ) hap u1  _ e4) (wX3_keeps_X6_becomes hts hN ⟨Nat.le_of_ble_eq_true rfl, Nat.le_of_ble_eq_true rfl⟩) ⟨PW.blind, cw_r31 hK hP, PW.mk hP hK hN⟩ rfl rfl hl.1 rfl (lv_room (Nat.le_of_ble_eq_true rfl)) dX3_keeps_13 ⟨Nat.zero_le _, Nat.zero_le _⟩) hS (fun _ h => h) (fun H locs hP hS => ?_)
  have hP : va_P D vwCl (CW cI ad τ u3) H := hP
  refine lv_aload_n hx hb dX3_keeps_16 rfl (lv_at hl 0 rfl) ?_
  refine lv_iconst (v := 1) hx hb dX3_keeps_17 (by decide) ?_
  refine va_put (D := D) (ci := 3) (v := .int 1) (ty := .boolean) (C := RX3) (T := TX3) (N := 3) hx hb hts iX3_keeps_X3 tyX3 tyX3_ok nmX3 hown hK hP (cw_D hap) hS 28 cw_28 rfl 2 (by decide) (hts (.fieldLink RX3 30 RX3 "isKept" "Z") (by decide +kernel)) (fun _ h9 => h9) rfl (by decide +kernel) rfl rfl (Nat.le_of_ble_eq_true rfl) dX3_keeps_18 (fun H locs hP _ hS => ?_)
  have hP := cw_s28_2 hP
  obtain ⟨σ5, e6, h⟩ := k_bd h
  rw [k_sm e6] at hP
  obtain rfl := k_sm h
  exact W.vret hx hb hr (fun t ht hW => ⟨⟨_, rfl, rfl, pw_end ht hP⟩, hS.F ht⟩) hS.2.2 dX3_keeps_21
set_option maxHeartbeats 4000000 in
set_option maxRecDepth 100000 in
theorem kX3_givesBack_23_20 (l : Launch) {D : va_G} {cI cB cZ : ClassId} {ad : Nat → Nat} {τ : Int64} (hap : cwX ad) (σ : Sg) (o : Sg) (h : pX3_givesBack_23 20 σ = some o) : Met l yX3_givesBack wsX3_givesBack rmX3_givesBack (va_Pc [.ref (ad 23), .ref (ad 19), .ref (ad 21)] (PW D cI cB cZ (CW cI ad τ σ))) (QV D (CW cI ad τ) (cwA ad) o) 0 0 (cwA ad) := by
  refine Met.ofW (cc := cX3_givesBack) (maxL := 3) (ret := none) (by decide) rfl ?_
  intro p e s m args below meth c s₁ B hml hv
  obtain ⟨rfl, hP, hK, hN⟩ := hv
  have C0 : Cx p s m _ meth c cX3_givesBack 3 none RX3 wsX3_givesBack := ⟨⟨B.exec, B.bytes, hml, findClass_of_methodNamed B.named, atoms_spec B.pre⟩, B.returns, B.notSynchronized⟩
  obtain ⟨⟨hx, hb, -, hown, hts⟩, hr, hlk⟩ := id C0
  have hS : va_S (cwA ad) s.heap s.heap [] := va_S.rf
  have hl := lv_entry ([.ref (ad 23), .ref (ad 19), .ref (ad 21)]) (n := 3) (Nat.le_of_ble_eq_true rfl)
  rw [lg_entry_eq]
  generalize (lg_sl ([.ref (ad 23), .ref (ad 19), .ref (ad 21)]) ++ List.replicate (3 - (lg_sl ([.ref (ad 23), .ref (ad 19), .ref (ad 21)])).length) Slot.unset).toArray = ls at hl ⊢
  have hl : lv_has ls 3 [(0, .ref (ad 23)), (1, .ref (ad 19)), (2, .ref (ad 21))] := hl
  rw [pX3_givesBack_23] at h
  refine lv_aload_n hx hb dX3_givesBack_0 rfl (lv_at hl 1 rfl) ?_
  refine lv_aload_n hx hb dX3_givesBack_1 rfl (lv_at hl 0 rfl) ?_
  refine va_get (D := D) (ci := 3) (v := .ref (ad 24)) (C := RX3) (T := TX3) (N := 3) hx hb hts iX3_givesBack_X3 hown hK hP 23 cw_23 rfl 0 (by decide) (hts (.fieldLink RX3 10 RX3 "now" "LAnchorWills$Now;") (by decide +kernel)) (fun _ h9 => h9) rfl dX3_givesBack_2 ?_
  obtain ⟨u1, e2, h⟩ := k_bd h
  refine wr_callv (va_runVN (As := [.ref (ad 24)]) (rest := []) C0.1 (kX5_becomes_20_25 l (D := D) (cI := cI) (cB := cB) (cZ := cZ) (τ := τ) hap σ  _ e2) (wX3_givesBack_X5_becomes hts hN ⟨Nat.le_of_ble_eq_true rfl, Nat.le_of_ble_eq_true rfl⟩) ⟨PW.blind, cw_r19 hK hP, PW.mk hP hK hN⟩ rfl rfl hl.1 rfl (lv_room (Nat.le_of_ble_eq_true rfl)) dX3_givesBack_5 ⟨Nat.zero_le _, Nat.zero_le _⟩) hS (fun _ h => h) (fun H locs hP hS => ?_)
  have hP : va_P D vwCl (CW cI ad τ u1) H := hP
  refine lv_aload_n hx hb dX3_givesBack_8 rfl (lv_at hl 2 rfl) ?_
  refine lv_aload_n hx hb dX3_givesBack_9 rfl (lv_at hl 0 rfl) ?_
  refine va_get (D := D) (ci := 3) (v := .ref (ad 26)) (C := RX3) (T := TX3) (N := 3) hx hb hts iX3_givesBack_X3 hown hK hP 23 cw_23 rfl 1 (by decide) (hts (.fieldLink RX3 19 RX3 "past" "LAnchorWills$Past;") (by decide +kernel)) (fun _ h9 => h9) rfl dX3_givesBack_10 ?_
  obtain ⟨u3, e4, h⟩ := k_bd h
  refine wr_callv (va_runVN (As := [.ref (ad 26)]) (rest := []) C0.1 (kX6_becomes_21_26 l (D := D) (cI := cI) (cB := cB) (cZ := cZ) (τ := τ) hap u1  _ e4) (wX3_givesBack_X6_becomes hts hN ⟨Nat.le_of_ble_eq_true rfl, Nat.le_of_ble_eq_true rfl⟩) ⟨PW.blind, cw_r21 hK hP, PW.mk hP hK hN⟩ rfl rfl hl.1 rfl (lv_room (Nat.le_of_ble_eq_true rfl)) dX3_givesBack_13 ⟨Nat.zero_le _, Nat.zero_le _⟩) hS (fun _ h => h) (fun H locs hP hS => ?_)
  have hP : va_P D vwCl (CW cI ad τ u3) H := hP
  obtain rfl := k_sm h
  exact W.vret hx hb hr (fun t ht hW => ⟨⟨_, rfl, rfl, pw_end ht hP⟩, hS.F ht⟩) hS.2.2 dX3_givesBack_16
set_option maxHeartbeats 4000000 in
set_option maxRecDepth 100000 in
theorem kX3_givesBack_28_20 (l : Launch) {D : va_G} {cI cB cZ : ClassId} {ad : Nat → Nat} {τ : Int64} (hap : cwX ad) (σ : Sg) (o : Sg) (h : pX3_givesBack_28 20 σ = some o) : Met l yX3_givesBack wsX3_givesBack rmX3_givesBack (va_Pc [.ref (ad 28), .ref (ad 19), .ref (ad 21)] (PW D cI cB cZ (CW cI ad τ σ))) (QV D (CW cI ad τ) (cwA ad) o) 0 0 (cwA ad) := by
  refine Met.ofW (cc := cX3_givesBack) (maxL := 3) (ret := none) (by decide) rfl ?_
  intro p e s m args below meth c s₁ B hml hv
  obtain ⟨rfl, hP, hK, hN⟩ := hv
  have C0 : Cx p s m _ meth c cX3_givesBack 3 none RX3 wsX3_givesBack := ⟨⟨B.exec, B.bytes, hml, findClass_of_methodNamed B.named, atoms_spec B.pre⟩, B.returns, B.notSynchronized⟩
  obtain ⟨⟨hx, hb, -, hown, hts⟩, hr, hlk⟩ := id C0
  have hS : va_S (cwA ad) s.heap s.heap [] := va_S.rf
  have hl := lv_entry ([.ref (ad 28), .ref (ad 19), .ref (ad 21)]) (n := 3) (Nat.le_of_ble_eq_true rfl)
  rw [lg_entry_eq]
  generalize (lg_sl ([.ref (ad 28), .ref (ad 19), .ref (ad 21)]) ++ List.replicate (3 - (lg_sl ([.ref (ad 28), .ref (ad 19), .ref (ad 21)])).length) Slot.unset).toArray = ls at hl ⊢
  have hl : lv_has ls 3 [(0, .ref (ad 28)), (1, .ref (ad 19)), (2, .ref (ad 21))] := hl
  rw [pX3_givesBack_28] at h
  refine lv_aload_n hx hb dX3_givesBack_0 rfl (lv_at hl 1 rfl) ?_
  refine lv_aload_n hx hb dX3_givesBack_1 rfl (lv_at hl 0 rfl) ?_
  refine va_get (D := D) (ci := 3) (v := .ref (ad 29)) (C := RX3) (T := TX3) (N := 3) hx hb hts iX3_givesBack_X3 hown hK hP 28 cw_28 rfl 0 (by decide) (hts (.fieldLink RX3 10 RX3 "now" "LAnchorWills$Now;") (by decide +kernel)) (fun _ h9 => h9) rfl dX3_givesBack_2 ?_
  obtain ⟨u1, e2, h⟩ := k_bd h
  refine wr_callv (va_runVN (As := [.ref (ad 29)]) (rest := []) C0.1 (kX5_becomes_20_30 l (D := D) (cI := cI) (cB := cB) (cZ := cZ) (τ := τ) hap σ  _ e2) (wX3_givesBack_X5_becomes hts hN ⟨Nat.le_of_ble_eq_true rfl, Nat.le_of_ble_eq_true rfl⟩) ⟨PW.blind, cw_r19 hK hP, PW.mk hP hK hN⟩ rfl rfl hl.1 rfl (lv_room (Nat.le_of_ble_eq_true rfl)) dX3_givesBack_5 ⟨Nat.zero_le _, Nat.zero_le _⟩) hS (fun _ h => h) (fun H locs hP hS => ?_)
  have hP : va_P D vwCl (CW cI ad τ u1) H := hP
  refine lv_aload_n hx hb dX3_givesBack_8 rfl (lv_at hl 2 rfl) ?_
  refine lv_aload_n hx hb dX3_givesBack_9 rfl (lv_at hl 0 rfl) ?_
  refine va_get (D := D) (ci := 3) (v := .ref (ad 31)) (C := RX3) (T := TX3) (N := 3) hx hb hts iX3_givesBack_X3 hown hK hP 28 cw_28 rfl 1 (by decide) (hts (.fieldLink RX3 19 RX3 "past" "LAnchorWills$Past;") (by decide +kernel)) (fun _ h9 => h9) rfl dX3_givesBack_10 ?_
  obtain ⟨u3, e4, h⟩ := k_bd h
  refine wr_callv (va_runVN (As := [.ref (ad 31)]) (rest := []) C0.1 (kX6_becomes_21_31 l (D := D) (cI := cI) (cB := cB) (cZ := cZ) (τ := τ) hap u1  _ e4) (wX3_givesBack_X6_becomes hts hN ⟨Nat.le_of_ble_eq_true rfl, Nat.le_of_ble_eq_true rfl⟩) ⟨PW.blind, cw_r21 hK hP, PW.mk hP hK hN⟩ rfl rfl hl.1 rfl (lv_room (Nat.le_of_ble_eq_true rfl)) dX3_givesBack_13 ⟨Nat.zero_le _, Nat.zero_le _⟩) hS (fun _ h => h) (fun H locs hP hS => ?_)
  have hP : va_P D vwCl (CW cI ad τ u3) H := hP
  obtain rfl := k_sm h
  exact W.vret hx hb hr (fun t ht hW => ⟨⟨_, rfl, rfl, pw_end ht hP⟩, hS.F ht⟩) hS.2.2 dX3_givesBack_16
