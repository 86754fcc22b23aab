set_option maxHeartbeats 4000000 in
set_option maxRecDepth 100000 in
theorem kX7_takes (l : Launch) {D : va_G} {cI cB cZ : ClassId} {ad : Nat → Nat} {τ : Int64} (hap : cwX ad) (σ : Sg) (x1 : Int32) (o : (Int32 × Sg)) (h : pX7_takes σ x1 = some o) : Met l yX7_takes wsX7_takes rmX7_takes (va_Pc [.ref (ad 33), .int x1] (PW D cI cB cZ (CW cI ad τ σ))) (QI D (CW cI ad τ) (cwA ad) o.1 o.2) 0 0 (cwA ad) := by
  refine Met.ofW (cc := cX7_takes) (maxL := 2) (ret := (some .boolean)) (by decide) rfl ?_
  intro p e s m args below meth c s₁ B hml hv
  obtain ⟨rfl, hP, hK, hN⟩ := hv
  have C0 : Cx p s m _ meth c cX7_takes 2 (some .boolean) RX7 wsX7_takes := ⟨⟨B.exec, B.bytes, hml, findClass_of_methodNamed B.named, atoms_spec B.pre⟩, B.returns, B.notSynchronized⟩
  obtain ⟨⟨hx, hb, -, hown, hts⟩, hr, hlk⟩ := id C0
  have hS : va_S (cwA ad) s.heap s.heap [] := va_S.rf
  have hl := lv_entry ([.ref (ad 33), .int x1]) (n := 2) (Nat.le_of_ble_eq_true rfl)
  rw [lg_entry_eq]
  generalize (lg_sl ([.ref (ad 33), .int x1]) ++ List.replicate (2 - (lg_sl ([.ref (ad 33), .int x1])).length) Slot.unset).toArray = ls at hl ⊢
  have hl : lv_has ls 2 [(0, .ref (ad 33)), (1, .int x1)] := hl
  rw [pX7_takes] at h
  refine lv_aload_n hx hb dX7_takes_0 rfl (lv_at hl 0 rfl) ?_
  refine va_get (D := D) (ci := 7) (v := .int (σ 33 1)) (C := RX7) (T := TX7) (N := 7) hx hb hts iX7_takes_X7 hown hK hP 33 cw_33 rfl 1 (by decide) (hts (.fieldLink RX7 15 RX7 "length" "I") (by decide +kernel)) (fun _ h9 => h9) rfl dX7_takes_1 ?_
  refine lv_sipush (v := 200) hx hb dX7_takes_4 (by decide) ?_
  refine lv_icmp_lt (tgt := 12) hx hb dX7_takes_7 (by decide) (fun c7 => ?_) (fun c7 => ?_)
  · replace h := k_ip c7 h
    refine lv_aload_n hx hb dX7_takes_12 rfl (lv_at hl 0 rfl) ?_
    refine va_get (D := D) (ci := 7) (v := .ref (ad 34)) (C := RX7) (T := TX7) (N := 7) hx hb hts iX7_takes_X7 hown hK hP 33 cw_33 rfl 0 (by decide) (hts (.fieldLink RX7 11 RX7 "bytes" "[I") (by decide +kernel)) (fun _ h9 => h9) rfl dX7_takes_13 ?_
    refine lv_aload_n hx hb dX7_takes_16 rfl (lv_at hl 0 rfl) ?_
    refine va_get (D := D) (ci := 7) (v := .int (σ 33 1)) (C := RX7) (T := TX7) (N := 7) hx hb hts iX7_takes_X7 hown hK hP 33 cw_33 rfl 1 (by decide) (hts (.fieldLink RX7 15 RX7 "length" "I") (by decide +kernel)) (fun _ h9 => h9) rfl dX7_takes_17 ?_
    refine lv_iload_n hx hb dX7_takes_20 rfl (lv_at hl 1 rfl) ?_
    refine wr_callv (va_runSN (As := [.ref (ad 34), .int (σ 33 1), .int x1]) (rest := []) C0.1 (kX10_put l (cw_D hap) 34 cw_34 (by decide) (σ 33 1) x1) (wX7_takes_X10_put hts hN ⟨Nat.le_of_ble_eq_true rfl, Nat.le_of_ble_eq_true rfl⟩) ⟨PW.blind, PW.mk hP hK hN⟩ rfl rfl hl.1 rfl (lv_room (Nat.le_of_ble_eq_true rfl)) dX7_takes_21 ⟨Nat.zero_le _, Nat.zero_le _⟩) hS (fun _ h => h) (fun H locs hP hS => ?_)
    have hP := cw_s34 hP
    obtain ⟨σ1, e2, h⟩ := k_bd h
    rw [k_sm e2] at hP
    refine lv_aload_n hx hb dX7_takes_24 rfl (lv_at hl 0 rfl) ?_
    refine lv_dup hx hb dX7_takes_25 rfl ?_
    refine va_get (D := D) (ci := 7) (v := .int (σ1 33 1)) (C := RX7) (T := TX7) (N := 7) hx hb hts iX7_takes_X7 hown hK hP 33 cw_33 rfl 1 (by decide) (hts (.fieldLink RX7 15 RX7 "length" "I") (by decide +kernel)) (fun _ h9 => h9) rfl dX7_takes_26 ?_
    refine lv_iconst (v := 1) hx hb dX7_takes_29 (by decide) ?_
    refine lv_iadd hx hb dX7_takes_30 ?_
    refine va_put (D := D) (ci := 7) (v := .int ((σ1 33 1) + 1)) (ty := .int) (C := RX7) (T := TX7) (N := 7) hx hb hts iX7_takes_X7 tyX7 tyX7_ok nmX7 hown hK hP (cw_D hap) hS 33 cw_33 rfl 1 (by decide) (hts (.fieldLink RX7 15 RX7 "length" "I") (by decide +kernel)) (fun _ h9 => h9) rfl (by decide +kernel) rfl rfl (Nat.le_of_ble_eq_true rfl) dX7_takes_31 (fun H locs hP _ hS => ?_)
    have hP := cw_s33_1 hP
    obtain ⟨σ3, e4, h⟩ := k_bd h
    rw [k_sm e4] at hP
    refine lv_iconst (v := 1) hx hb dX7_takes_34 (by decide) ?_
    obtain rfl := k_sm h
    exact W.zret hx hb hr rfl (fun t ht hW => ⟨⟨_, _, rfl, ⟨rfl, rfl⟩, pw_end ht hP⟩, hS.F ht⟩) hS.2.2 dX7_takes_35
  · replace h := k_in c7 h
    refine lv_iconst (v := 0) hx hb dX7_takes_10 (by decide) ?_
    obtain rfl := k_sm h
    exact W.zret hx hb hr rfl (fun t ht hW => ⟨⟨_, _, rfl, ⟨rfl, rfl⟩, pw_end ht hP⟩, hS.F ht⟩) hS.2.2 dX7_takes_11
set_option maxHeartbeats 4000000 in
set_option maxRecDepth 100000 in
theorem bX7_endOfRun_L8 {p : Program} {l : Launch} {e : Env} {s : State} {m : MethodId} {args : Array Value} {below : List Frame} {meth : Method} {c : Code} {Q : State → Prop} {D : va_G} {cI cB cZ : ClassId} {ad : Nat → Nat} (C0 : Cx p s m args meth c cX7_endOfRun 5 (some .int) RX7 wsX7_endOfRun) (hK : va_K D vwCl (tysA cI cB cZ) s) (hN : NW s) {τ : Int64} {σ : Sg} (hP : va_P D vwCl (CW cI ad τ σ) s.heap) (x1 : Int32) (x2 : Int32) : ∀ (n : Nat) (x3 : Int32) (x4 : Int32) (v : Int32) (ls : Array Slot), lv_has ls 5 [(0, .ref (ad 33)), (1, .int x1), (2, .int x2), (3, .int x3), (4, .int x4)] → pX7_endOfRun_L8 σ x1 x2 n x3 x4 = some v → (∀ (ls1 : Array Slot), lv_has ls1 5 [(3, .int v)] → W p l e rmX7_endOfRun s m args below meth c s.heap [] 0 0 Q (F0 m 49 ls1 [])) → W p l e rmX7_endOfRun s m args below meth c s.heap [] 0 0 Q (F0 m 8 ls []) := by
  obtain ⟨⟨hx, hb, hml, hown, hts⟩, hr, hlk⟩ := id C0
  intro n
  induction n with
  | zero =>
    intro x3 x4 v ls hl h kk
    exact absurd h (by simp [pX7_endOfRun_L8])
  | succ n ih =>
    intro x3 x4 v ls hl h kk
    rw [pX7_endOfRun_L8] at h
    refine lv_iload hx hb dX7_endOfRun_8 (lv_at hl 4 rfl) ?_
    refine lv_sipush (v := 200) hx hb dX7_endOfRun_10 (by decide) ?_
    refine lv_icmp_ge (tgt := 49) hx hb dX7_endOfRun_13 (by decide) (fun c13 => ?_) (fun c13 => ?_)
    · replace h := k_ip c13 h
      obtain rfl := k_sm h
      exact kk _ (lv_sub hl [3] rfl)
    · replace h := k_in c13 h
      refine lv_iload_n hx hb dX7_endOfRun_16 rfl (lv_at hl 3 rfl) ?_
      refine lv_aload_n hx hb dX7_endOfRun_17 rfl (lv_at hl 0 rfl) ?_
      refine va_get (D := D) (ci := 7) (v := .int (σ 33 1)) (C := RX7) (T := TX7) (N := 7) hx hb hts iX7_endOfRun_X7 hown hK hP 33 cw_33 rfl 1 (by decide) (hts (.fieldLink RX7 15 RX7 "length" "I") (by decide +kernel)) (fun _ h9 => h9) rfl dX7_endOfRun_18 ?_
      refine lv_icmp_ge (tgt := 49) hx hb dX7_endOfRun_21 (by decide) (fun c21 => ?_) (fun c21 => ?_)
      · replace h := k_ip c21 h
        obtain rfl := k_sm h
        exact kk _ (lv_sub hl [3] rfl)
      · replace h := k_in c21 h
        refine lv_aload_n hx hb dX7_endOfRun_24 rfl (lv_at hl 0 rfl) ?_
        refine va_get (D := D) (ci := 7) (v := .ref (ad 34)) (C := RX7) (T := TX7) (N := 7) hx hb hts iX7_endOfRun_X7 hown hK hP 33 cw_33 rfl 0 (by decide) (hts (.fieldLink RX7 11 RX7 "bytes" "[I") (by decide +kernel)) (fun _ h9 => h9) rfl dX7_endOfRun_25 ?_
        refine lv_iload_n hx hb dX7_endOfRun_28 rfl (lv_at hl 3 rfl) ?_
        refine rd_calli (va_runSN (As := [.ref (ad 34), .int x3]) (rest := []) C0.1 (kX10_at l (ad 34) 200 (σ 34) x3 (by decide)) (wX7_endOfRun_X10_at hts hN ⟨Nat.le_of_ble_eq_true rfl, Nat.le_of_ble_eq_true rfl⟩) ⟨PAt.blind, PAt.mk (cw_t34 hK hP)⟩ rfl rfl hl.1 rfl (lv_room (Nat.le_of_ble_eq_true rfl)) dX7_endOfRun_29 ⟨Nat.zero_le _, Nat.zero_le _⟩) ?_
        refine lv_iload_n hx hb dX7_endOfRun_32 rfl (lv_at hl 1 rfl) ?_
        refine lv_iload_n hx hb dX7_endOfRun_33 rfl (lv_at hl 2 rfl) ?_
        refine rd_calli (va_runSN (As := [.int (pX10_at (σ 34) 200 x3), .int x1, .int x2]) (rest := []) C0.1 (kX10_isOutside l (pX10_at (σ 34) 200 x3) x1 x2) (wX7_endOfRun_X10_isOutside hts hN ⟨Nat.le_of_ble_eq_true rfl, Nat.le_of_ble_eq_true rfl⟩) ⟨PT.blind, fun _ _ _ => ⟨rfl, trivial⟩⟩ rfl rfl hl.1 rfl (lv_room (Nat.le_of_ble_eq_true rfl)) dX7_endOfRun_34 ⟨Nat.zero_le _, Nat.zero_le _⟩) ?_
        refine lv_if_ne (tgt := 49) hx hb dX7_endOfRun_37 (by decide) (fun c37 => ?_) (fun c37 => ?_)
        · replace h := k_in c37 h
          obtain rfl := k_sm h
          exact kk _ (lv_sub hl [3] rfl)
        · replace h := k_ip c37 h
          refine lv_iinc (v := (x3 + 1)) (lv' := [(3, .int (x3 + 1)), (0, .ref (ad 33)), (1, .int x1), (2, .int x2), (4, .int x4)]) hx hb dX7_endOfRun_40 hl (k := 3) rfl rfl (by decide) rfl (fun ls hl => ?_)
          refine lv_iinc (v := (x4 + 1)) (lv' := [(4, .int (x4 + 1)), (3, .int (x3 + 1)), (0, .ref (ad 33)), (1, .int x1), (2, .int x2)]) hx hb dX7_endOfRun_43 hl (k := 4) rfl rfl (by decide) rfl (fun ls hl => ?_)
          refine lv_goto (tgt := 8) hx hb dX7_endOfRun_46 (by decide) ?_
          exact ih (x3 + 1) (x4 + 1) _ ls (lv_sub hl [2, 3, 4, 1, 0] rfl) h kk
set_option maxHeartbeats 4000000 in
set_option maxRecDepth 100000 in
theorem kX7_endOfRun (l : Launch) {D : va_G} {cI cB cZ : ClassId} {ad : Nat → Nat} {τ : Int64} (σ : Sg) (x1 : Int32) (x2 : Int32) (o : Int32) (h : pX7_endOfRun σ x1 x2 = some o) : Met l yX7_endOfRun wsX7_endOfRun rmX7_endOfRun (va_Pc [.ref (ad 33), .int x1, .int x2] (PW D cI cB cZ (CW cI ad τ σ))) (QcRead o) 0 0 (fun _ => False) := by
  refine Met.ofW (cc := cX7_endOfRun) (maxL := 5) (ret := (some .int)) (by decide) rfl ?_
  intro p e s m args below meth c s₁ B hml hv
  obtain ⟨rfl, hP, hK, hN⟩ := hv
  have C0 : Cx p s m _ meth c cX7_endOfRun 5 (some .int) RX7 wsX7_endOfRun := ⟨⟨B.exec, B.bytes, hml, findClass_of_methodNamed B.named, atoms_spec B.pre⟩, B.returns, B.notSynchronized⟩
  obtain ⟨⟨hx, hb, -, hown, hts⟩, hr, hlk⟩ := id C0
  have hl := lv_entry ([.ref (ad 33), .int x1, .int x2]) (n := 5) (Nat.le_of_ble_eq_true rfl)
  rw [lg_entry_eq]
  generalize (lg_sl ([.ref (ad 33), .int x1, .int x2]) ++ List.replicate (5 - (lg_sl ([.ref (ad 33), .int x1, .int x2])).length) Slot.unset).toArray = ls at hl ⊢
  have hl : lv_has ls 5 [(0, .ref (ad 33)), (1, .int x1), (2, .int x2)] := hl
  rw [pX7_endOfRun] at h
  refine lv_aload_n hx hb dX7_endOfRun_0 rfl (lv_at hl 0 rfl) ?_
  refine va_get (D := D) (ci := 7) (v := .int (σ 33 2)) (C := RX7) (T := TX7) (N := 7) hx hb hts iX7_endOfRun_X7 hown hK hP 33 cw_33 rfl 2 (by decide) (hts (.fieldLink RX7 28 RX7 "place" "I") (by decide +kernel)) (fun _ h9 => h9) rfl dX7_endOfRun_1 ?_
  obtain ⟨v1, e2, h⟩ := k_bd h
  refine lv_nmi (k_sm e2) ?_
  refine lv_istore_n (lv' := [(3, .int v1), (0, .ref (ad 33)), (1, .int x1), (2, .int x2)]) hx hb dX7_endOfRun_4 rfl hl (by decide) rfl (fun ls hl => ?_)
  refine lv_iconst (v := 0) hx hb dX7_endOfRun_5 (by decide) ?_
  refine lv_istore (lv' := [(4, .int 0), (3, .int v1), (0, .ref (ad 33)), (1, .int x1), (2, .int x2)]) hx hb dX7_endOfRun_6 hl (by decide) rfl (fun ls hl => ?_)
  obtain ⟨w3, e4, h⟩ := k_bd h
  refine bX7_endOfRun_L8 C0 hK hN hP x1 x2 2000 v1 0 _ ls (lv_sub hl [2, 3, 4, 1, 0] rfl) e4 (fun ls hl => ?_)
  refine lv_iload_n hx hb dX7_endOfRun_49 rfl (lv_at hl 0 rfl) ?_
  obtain rfl := k_sm h
  exact W.iret hx hb hr (fun t ht hW => ⟨rfl, ht⟩) (fun _ h => by cases h) dX7_endOfRun_50
set_option maxHeartbeats 4000000 in
set_option maxRecDepth 100000 in
theorem kX7_valueOfDigits (l : Launch) {D : va_G} {cI cB cZ : ClassId} {ad : Nat → Nat} {τ : Int64} (σ : Sg) : Met l yX7_valueOfDigits wsX7_valueOfDigits rmX7_valueOfDigits (va_Pc [.ref (ad 33)] (PW D cI cB cZ (CW cI ad τ σ))) (QcRead (pX7_valueOfDigits σ)) 0 0 (fun _ => False) := by
  obtain ⟨o, h⟩ : ∃ o, pX7_valueOfDigits σ = o := ⟨_, rfl⟩
  rw [h]
  refine Met.ofW (cc := cX7_valueOfDigits) (maxL := 2) (ret := (some .int)) (by decide) rfl ?_
  intro p e s m args below meth c s₁ B hml hv
  obtain ⟨rfl, hP, hK, hN⟩ := hv
  have C0 : Cx p s m _ meth c cX7_valueOfDigits 2 (some .int) RX7 wsX7_valueOfDigits := ⟨⟨B.exec, B.bytes, hml, findClass_of_methodNamed B.named, atoms_spec B.pre⟩, B.returns, B.notSynchronized⟩
  obtain ⟨⟨hx, hb, -, hown, hts⟩, hr, hlk⟩ := id C0
  have hl := lv_entry ([.ref (ad 33)]) (n := 2) (Nat.le_of_ble_eq_true rfl)
  rw [lg_entry_eq]
  generalize (lg_sl ([.ref (ad 33)]) ++ List.replicate (2 - (lg_sl ([.ref (ad 33)])).length) Slot.unset).toArray = ls at hl ⊢
  have hl : lv_has ls 2 [(0, .ref (ad 33))] := hl
  rw [pX7_valueOfDigits] at h
  refine lv_aload_n hx hb dX7_valueOfDigits_0 rfl (lv_at hl 0 rfl) ?_
  refine va_get (D := D) (ci := 7) (v := .ref (ad 34)) (C := RX7) (T := TX7) (N := 7) hx hb hts iX7_valueOfDigits_X7 hown hK hP 33 cw_33 rfl 0 (by decide) (hts (.fieldLink RX7 11 RX7 "bytes" "[I") (by decide +kernel)) (fun _ h9 => h9) rfl dX7_valueOfDigits_1 ?_
  refine lv_aload_n hx hb dX7_valueOfDigits_4 rfl (lv_at hl 0 rfl) ?_
  refine va_get (D := D) (ci := 7) (v := .int (σ 33 4)) (C := RX7) (T := TX7) (N := 7) hx hb hts iX7_valueOfDigits_X7 hown hK hP 33 cw_33 rfl 4 (by decide) (hts (.fieldLink RX7 56 RX7 "start" "I") (by decide +kernel)) (fun _ h9 => h9) rfl dX7_valueOfDigits_5 ?_
  refine rd_calli (va_runSN (As := [.ref (ad 34), .int (σ 33 4)]) (rest := []) C0.1 (kX10_at l (ad 34) 200 (σ 34) (σ 33 4) (by decide)) (wX7_valueOfDigits_X10_at hts hN ⟨Nat.le_of_ble_eq_true rfl, Nat.le_of_ble_eq_true rfl⟩) ⟨PAt.blind, PAt.mk (cw_t34 hK hP)⟩ rfl rfl hl.1 rfl (lv_room (Nat.le_of_ble_eq_true rfl)) dX7_valueOfDigits_8 ⟨Nat.zero_le _, Nat.zero_le _⟩) ?_
  refine lv_bipush (v := 48) hx hb dX7_valueOfDigits_11 (by decide) ?_
  refine lv_isub hx hb dX7_valueOfDigits_13 ?_
  refine lv_istore_n (lv' := [(1, .int ((pX10_at (σ 34) 200 (σ 33 4)) - 48)), (0, .ref (ad 33))]) hx hb dX7_valueOfDigits_14 rfl hl (by decide) rfl (fun ls hl => ?_)
  refine lv_aload_n hx hb dX7_valueOfDigits_15 rfl (lv_at hl 1 rfl) ?_
  refine va_get (D := D) (ci := 7) (v := .int (σ 33 2)) (C := RX7) (T := TX7) (N := 7) hx hb hts iX7_valueOfDigits_X7 hown hK hP 33 cw_33 rfl 2 (by decide) (hts (.fieldLink RX7 28 RX7 "place" "I") (by decide +kernel)) (fun _ h9 => h9) rfl dX7_valueOfDigits_16 ?_
  refine lv_aload_n hx hb dX7_valueOfDigits_19 rfl (lv_at hl 1 rfl) ?_
  refine va_get (D := D) (ci := 7) (v := .int (σ 33 4)) (C := RX7) (T := TX7) (N := 7) hx hb hts iX7_valueOfDigits_X7 hown hK hP 33 cw_33 rfl 4 (by decide) (hts (.fieldLink RX7 56 RX7 "start" "I") (by decide +kernel)) (fun _ h9 => h9) rfl dX7_valueOfDigits_20 ?_
  refine lv_isub hx hb dX7_valueOfDigits_23 ?_
  refine lv_iconst (v := 1) hx hb dX7_valueOfDigits_24 (by decide) ?_
  refine lv_icmp_ne (tgt := 30) hx hb dX7_valueOfDigits_25 (by decide) (fun c25 => ?_) (fun c25 => ?_)
  · replace h := k_in c25 h
    refine lv_aload_n hx hb dX7_valueOfDigits_30 rfl (lv_at hl 1 rfl) ?_
    refine va_get (D := D) (ci := 7) (v := .int (σ 33 2)) (C := RX7) (T := TX7) (N := 7) hx hb hts iX7_valueOfDigits_X7 hown hK hP 33 cw_33 rfl 2 (by decide) (hts (.fieldLink RX7 28 RX7 "place" "I") (by decide +kernel)) (fun _ h9 => h9) rfl dX7_valueOfDigits_31 ?_
    refine lv_aload_n hx hb dX7_valueOfDigits_34 rfl (lv_at hl 1 rfl) ?_
    refine va_get (D := D) (ci := 7) (v := .int (σ 33 4)) (C := RX7) (T := TX7) (N := 7) hx hb hts iX7_valueOfDigits_X7 hown hK hP 33 cw_33 rfl 4 (by decide) (hts (.fieldLink RX7 56 RX7 "start" "I") (by decide +kernel)) (fun _ h9 => h9) rfl dX7_valueOfDigits_35 ?_
    refine lv_isub hx hb dX7_valueOfDigits_38 ?_
    refine lv_iconst (v := 2) hx hb dX7_valueOfDigits_39 (by decide) ?_
    refine lv_icmp_ne (tgt := 71) hx hb dX7_valueOfDigits_40 (by decide) (fun c40 => ?_) (fun c40 => ?_)
    · replace h := k_in c40 h
      refine lv_iconst (v := (-1)) hx hb dX7_valueOfDigits_71 (by decide) ?_
      subst h
      exact W.iret hx hb hr (fun t ht hW => ⟨rfl, ht⟩) (fun _ h => by cases h) dX7_valueOfDigits_72
    · replace h := k_ip c40 h
      refine lv_iload_n hx hb dX7_valueOfDigits_43 rfl (lv_at hl 0 rfl) ?_
      refine lv_if_le (tgt := 71) hx hb dX7_valueOfDigits_44 (by decide) (fun c44 => ?_) (fun c44 => ?_)
      · replace h := k_ip c44 h
        refine lv_iconst (v := (-1)) hx hb dX7_valueOfDigits_71 (by decide) ?_
        subst h
        exact W.iret hx hb hr (fun t ht hW => ⟨rfl, ht⟩) (fun _ h => by cases h) dX7_valueOfDigits_72
      · replace h := k_in c44 h
        refine lv_iload_n hx hb dX7_valueOfDigits_47 rfl (lv_at hl 0 rfl) ?_
        refine lv_bipush (v := 10) hx hb dX7_valueOfDigits_48 (by decide) ?_
        refine lv_imul hx hb dX7_valueOfDigits_50 ?_
        refine lv_aload_n hx hb dX7_valueOfDigits_51 rfl (lv_at hl 1 rfl) ?_
        refine va_get (D := D) (ci := 7) (v := .ref (ad 34)) (C := RX7) (T := TX7) (N := 7) hx hb hts iX7_valueOfDigits_X7 hown hK hP 33 cw_33 rfl 0 (by decide) (hts (.fieldLink RX7 11 RX7 "bytes" "[I") (by decide +kernel)) (fun _ h9 => h9) rfl dX7_valueOfDigits_52 ?_
        refine lv_aload_n hx hb dX7_valueOfDigits_55 rfl (lv_at hl 1 rfl) ?_
        refine va_get (D := D) (ci := 7) (v := .int (σ 33 4)) (C := RX7) (T := TX7) (N := 7) hx hb hts iX7_valueOfDigits_X7 hown hK hP 33 cw_33 rfl 4 (by decide) (hts (.fieldLink RX7 56 RX7 "start" "I") (by decide +kernel)) (fun _ h9 => h9) rfl dX7_valueOfDigits_56 ?_
        refine lv_iconst (v := 1) hx hb dX7_valueOfDigits_59 (by decide) ?_
        refine lv_iadd hx hb dX7_valueOfDigits_60 ?_
        refine rd_calli (va_runSN (As := [.ref (ad 34), .int ((σ 33 4) + 1)]) (rest := [.int (((pX10_at (σ 34) 200 (σ 33 4)) - 48) * 10)]) C0.1 (kX10_at l (ad 34) 200 (σ 34) ((σ 33 4) + 1) (by decide)) (wX7_valueOfDigits_X10_at hts hN ⟨Nat.le_of_ble_eq_true rfl, Nat.le_of_ble_eq_true rfl⟩) ⟨PAt.blind, PAt.mk (cw_t34 hK hP)⟩ rfl rfl hl.1 rfl (lv_room (Nat.le_of_ble_eq_true rfl)) dX7_valueOfDigits_61 ⟨Nat.zero_le _, Nat.zero_le _⟩) ?_
        refine lv_iadd hx hb dX7_valueOfDigits_64 ?_
        refine lv_bipush (v := 48) hx hb dX7_valueOfDigits_65 (by decide) ?_
        refine lv_isub hx hb dX7_valueOfDigits_67 ?_
        refine lv_goto (tgt := 72) hx hb dX7_valueOfDigits_68 (by decide) ?_
        subst h
        exact W.iret hx hb hr (fun t ht hW => ⟨rfl, ht⟩) (fun _ h => by cases h) dX7_valueOfDigits_72
  · replace h := k_ip c25 h
    refine lv_iload_n hx hb dX7_valueOfDigits_28 rfl (lv_at hl 0 rfl) ?_
    subst h
    exact W.iret hx hb hr (fun t ht hW => ⟨rfl, ht⟩) (fun _ h => by cases h) dX7_valueOfDigits_29
set_option maxHeartbeats 4000000 in
set_option maxRecDepth 100000 in
theorem kX7_nextToken (l : Launch) {D : va_G} {cI cB cZ : ClassId} {ad : Nat → Nat} {τ : Int64} (hap : cwX ad) (σ : Sg) (o : Sg) (h : pX7_nextToken σ = some o) : Met l yX7_nextToken wsX7_nextToken rmX7_nextToken (va_Pc [.ref (ad 33)] (PW D cI cB cZ (CW cI ad τ σ))) (QV D (CW cI ad τ) (cwA ad) o) 0 0 (cwA ad) := by
  refine Met.ofW (cc := cX7_nextToken) (maxL := 1) (ret := none) (by decide) rfl ?_
  intro p e s m args below meth c s₁ B hml hv
  obtain ⟨rfl, hP, hK, hN⟩ := hv
  have C0 : Cx p s m _ meth c cX7_nextToken 1 none RX7 wsX7_nextToken := ⟨⟨B.exec, B.bytes, hml, findClass_of_methodNamed B.named, atoms_spec B.pre⟩, B.returns, B.notSynchronized⟩
  obtain ⟨⟨hx, hb, -, hown, hts⟩, hr, hlk⟩ := id C0
  have hS : va_S (cwA ad) s.heap s.heap [] := va_S.rf
  have hl := lv_entry ([.ref (ad 33)]) (n := 1) (Nat.le_of_ble_eq_true rfl)
  rw [lg_entry_eq]
  generalize (lg_sl ([.ref (ad 33)]) ++ List.replicate (1 - (lg_sl ([.ref (ad 33)])).length) Slot.unset).toArray = ls at hl ⊢
  have hl : lv_has ls 1 [(0, .ref (ad 33))] := hl
  rw [pX7_nextToken] at h
  refine lv_aload_n hx hb dX7_nextToken_0 rfl (lv_at hl 0 rfl) ?_
  refine lv_aload_n hx hb dX7_nextToken_1 rfl (lv_at hl 0 rfl) ?_
  refine lv_bipush (v := 32) hx hb dX7_nextToken_2 (by decide) ?_
  refine lv_bipush (v := 32) hx hb dX7_nextToken_4 (by decide) ?_
  obtain ⟨v1, e2, h⟩ := k_bd h
  refine rd_calli (va_runV (As := [.int 32, .int 32]) (rest := [.ref (ad 33)]) C0.1 (kX7_endOfRun l (D := D) (cI := cI) (cB := cB) (cZ := cZ) (ad := ad) (τ := τ) σ 32 32 _ e2) (wX7_nextToken_X7_endOfRun hts ⟨Nat.le_of_ble_eq_true rfl, Nat.le_of_ble_eq_true rfl⟩) ⟨PW.blind, cw_r33 hK hP, PW.mk hP hK hN⟩ rfl rfl hl.1 rfl (lv_room (Nat.le_of_ble_eq_true rfl)) dX7_nextToken_6 ⟨Nat.zero_le _, Nat.zero_le _⟩) ?_
  refine va_put (D := D) (ci := 7) (v := .int v1) (ty := .int) (C := RX7) (T := TX7) (N := 7) hx hb hts iX7_nextToken_X7 tyX7 tyX7_ok nmX7 hown hK hP (cw_D hap) hS 33 cw_33 rfl 2 (by decide) (hts (.fieldLink RX7 28 RX7 "place" "I") (by decide +kernel)) (fun _ h9 => h9) rfl (by decide +kernel) rfl rfl (Nat.le_of_ble_eq_true rfl) dX7_nextToken_9 (fun H locs hP _ hS => ?_)
  have hP := cw_s33_2 hP
  obtain ⟨σ3, e4, h⟩ := k_bd h
  rw [k_sm e4] at hP
  refine lv_aload_n hx hb dX7_nextToken_12 rfl (lv_at hl 0 rfl) ?_
  refine lv_aload_n hx hb dX7_nextToken_13 rfl (lv_at hl 0 rfl) ?_
  refine va_get (D := D) (ci := 7) (v := .int (σ3 33 2)) (C := RX7) (T := TX7) (N := 7) hx hb hts iX7_nextToken_X7 hown hK hP 33 cw_33 rfl 2 (by decide) (hts (.fieldLink RX7 28 RX7 "place" "I") (by decide +kernel)) (fun _ h9 => h9) rfl dX7_nextToken_14 ?_
  refine va_put (D := D) (ci := 7) (v := .int (σ3 33 2)) (ty := .int) (C := RX7) (T := TX7) (N := 7) hx hb hts iX7_nextToken_X7 tyX7 tyX7_ok nmX7 hown hK hP (cw_D hap) hS 33 cw_33 rfl 4 (by decide) (hts (.fieldLink RX7 56 RX7 "start" "I") (by decide +kernel)) (fun _ h9 => h9) rfl (by decide +kernel) rfl rfl (Nat.le_of_ble_eq_true rfl) dX7_nextToken_17 (fun H locs hP _ hS => ?_)
  have hP := cw_s33_4 hP
  obtain ⟨σ5, e6, h⟩ := k_bd h
  rw [k_sm e6] at hP
  refine lv_aload_n hx hb dX7_nextToken_20 rfl (lv_at hl 0 rfl) ?_
  refine lv_aload_n hx hb dX7_nextToken_21 rfl (lv_at hl 0 rfl) ?_
  refine va_get (D := D) (ci := 7) (v := .ref (ad 34)) (C := RX7) (T := TX7) (N := 7) hx hb hts iX7_nextToken_X7 hown hK hP 33 cw_33 rfl 0 (by decide) (hts (.fieldLink RX7 11 RX7 "bytes" "[I") (by decide +kernel)) (fun _ h9 => h9) rfl dX7_nextToken_22 ?_
  refine lv_aload_n hx hb dX7_nextToken_25 rfl (lv_at hl 0 rfl) ?_
  refine va_get (D := D) (ci := 7) (v := .int (σ5 33 4)) (C := RX7) (T := TX7) (N := 7) hx hb hts iX7_nextToken_X7 hown hK hP 33 cw_33 rfl 4 (by decide) (hts (.fieldLink RX7 56 RX7 "start" "I") (by decide +kernel)) (fun _ h9 => h9) rfl dX7_nextToken_26 ?_
  refine rd_calli (va_runSN (As := [.ref (ad 34), .int (σ5 33 4)]) (rest := [.ref (ad 33)]) C0.1 (kX10_at l (ad 34) 200 (σ5 34) (σ5 33 4) (by decide)) (wX7_nextToken_X10_at hts hN ⟨Nat.le_of_ble_eq_true rfl, Nat.le_of_ble_eq_true rfl⟩) ⟨PAt.blind, PAt.mk (cw_t34 hK hP)⟩ rfl rfl hl.1 rfl (lv_room (Nat.le_of_ble_eq_true rfl)) dX7_nextToken_29 ⟨Nat.zero_le _, Nat.zero_le _⟩) ?_
  refine va_put (D := D) (ci := 7) (v := .int (pX10_at (σ5 34) 200 (σ5 33 4))) (ty := .int) (C := RX7) (T := TX7) (N := 7) hx hb hts iX7_nextToken_X7 tyX7 tyX7_ok nmX7 hown hK hP (cw_D hap) hS 33 cw_33 rfl 5 (by decide) (hts (.fieldLink RX7 40 RX7 "value" "I") (by decide +kernel)) (fun _ h9 => h9) rfl (by decide +kernel) rfl rfl (Nat.le_of_ble_eq_true rfl) dX7_nextToken_32 (fun H locs hP _ hS => ?_)
  have hP := cw_s33_5 hP
  obtain ⟨σ7, e8, h⟩ := k_bd h
  rw [k_sm e8] at hP
  refine lv_aload_n hx hb dX7_nextToken_35 rfl (lv_at hl 0 rfl) ?_
  refine va_get (D := D) (ci := 7) (v := .int (σ7 33 4)) (C := RX7) (T := TX7) (N := 7) hx hb hts iX7_nextToken_X7 hown hK hP 33 cw_33 rfl 4 (by decide) (hts (.fieldLink RX7 56 RX7 "start" "I") (by decide +kernel)) (fun _ h9 => h9) rfl dX7_nextToken_36 ?_
  refine lv_aload_n hx hb dX7_nextToken_39 rfl (lv_at hl 0 rfl) ?_
  refine va_get (D := D) (ci := 7) (v := .int (σ7 33 1)) (C := RX7) (T := TX7) (N := 7) hx hb hts iX7_nextToken_X7 hown hK hP 33 cw_33 rfl 1 (by decide) (hts (.fieldLink RX7 15 RX7 "length" "I") (by decide +kernel)) (fun _ h9 => h9) rfl dX7_nextToken_40 ?_
  refine lv_icmp_lt (tgt := 54) hx hb dX7_nextToken_43 (by decide) (fun c43 => ?_) (fun c43 => ?_)
  · replace h := k_ip c43 h
    refine lv_aload_n hx hb dX7_nextToken_54 rfl (lv_at hl 0 rfl) ?_
    refine va_get (D := D) (ci := 7) (v := .int (σ7 33 5)) (C := RX7) (T := TX7) (N := 7) hx hb hts iX7_nextToken_X7 hown hK hP 33 cw_33 rfl 5 (by decide) (hts (.fieldLink RX7 40 RX7 "value" "I") (by decide +kernel)) (fun _ h9 => h9) rfl dX7_nextToken_55 ?_
    refine lv_bipush (v := 97) hx hb dX7_nextToken_58 (by decide) ?_
    refine lv_bipush (v := 122) hx hb dX7_nextToken_60 (by decide) ?_
    refine rd_calli (va_runSN (As := [.int (σ7 33 5), .int 97, .int 122]) (rest := []) C0.1 (kX10_isOutside l (σ7 33 5) 97 122) (wX7_nextToken_X10_isOutside hts hN ⟨Nat.le_of_ble_eq_true rfl, Nat.le_of_ble_eq_true rfl⟩) ⟨PT.blind, fun _ _ _ => ⟨rfl, trivial⟩⟩ rfl rfl hl.1 rfl (lv_room (Nat.le_of_ble_eq_true rfl)) dX7_nextToken_62 ⟨Nat.zero_le _, Nat.zero_le _⟩) ?_
    refine lv_if_ne (tgt := 113) hx hb dX7_nextToken_65 (by decide) (fun c65 => ?_) (fun c65 => ?_)
    · replace h := k_in c65 h
      refine lv_aload_n hx hb dX7_nextToken_113 rfl (lv_at hl 0 rfl) ?_
      refine va_get (D := D) (ci := 7) (v := .int (σ7 33 5)) (C := RX7) (T := TX7) (N := 7) hx hb hts iX7_nextToken_X7 hown hK hP 33 cw_33 rfl 5 (by decide) (hts (.fieldLink RX7 40 RX7 "value" "I") (by decide +kernel)) (fun _ h9 => h9) rfl dX7_nextToken_114 ?_
      refine lv_bipush (v := 48) hx hb dX7_nextToken_117 (by decide) ?_
      refine lv_bipush (v := 57) hx hb dX7_nextToken_119 (by decide) ?_
      refine rd_calli (va_runSN (As := [.int (σ7 33 5), .int 48, .int 57]) (rest := []) C0.1 (kX10_isOutside l (σ7 33 5) 48 57) (wX7_nextToken_X10_isOutside hts hN ⟨Nat.le_of_ble_eq_true rfl, Nat.le_of_ble_eq_true rfl⟩) ⟨PT.blind, fun _ _ _ => ⟨rfl, trivial⟩⟩ rfl rfl hl.1 rfl (lv_room (Nat.le_of_ble_eq_true rfl)) dX7_nextToken_121 ⟨Nat.zero_le _, Nat.zero_le _⟩) ?_
      refine lv_if_ne (tgt := 166) hx hb dX7_nextToken_124 (by decide) (fun c124 => ?_) (fun c124 => ?_)
      · replace h := k_in c124 h
        refine lv_aload_n hx hb dX7_nextToken_166 rfl (lv_at hl 0 rfl) ?_
        refine lv_dup hx hb dX7_nextToken_167 rfl ?_
        refine va_get (D := D) (ci := 7) (v := .int (σ7 33 2)) (C := RX7) (T := TX7) (N := 7) hx hb hts iX7_nextToken_X7 hown hK hP 33 cw_33 rfl 2 (by decide) (hts (.fieldLink RX7 28 RX7 "place" "I") (by decide +kernel)) (fun _ h9 => h9) rfl dX7_nextToken_168 ?_
        refine lv_iconst (v := 1) hx hb dX7_nextToken_171 (by decide) ?_
        refine lv_iadd hx hb dX7_nextToken_172 ?_
        refine va_put (D := D) (ci := 7) (v := .int ((σ7 33 2) + 1)) (ty := .int) (C := RX7) (T := TX7) (N := 7) hx hb hts iX7_nextToken_X7 tyX7 tyX7_ok nmX7 hown hK hP (cw_D hap) hS 33 cw_33 rfl 2 (by decide) (hts (.fieldLink RX7 28 RX7 "place" "I") (by decide +kernel)) (fun _ h9 => h9) rfl (by decide +kernel) rfl rfl (Nat.le_of_ble_eq_true rfl) dX7_nextToken_173 (fun H locs hP _ hS => ?_)
        have hP := cw_s33_2 hP
        obtain ⟨σ9, e10, h⟩ := k_bd h
        rw [k_sm e10] at hP
        refine lv_aload_n hx hb dX7_nextToken_176 rfl (lv_at hl 0 rfl) ?_
        refine lv_aload_n hx hb dX7_nextToken_177 rfl (lv_at hl 0 rfl) ?_
        refine va_get (D := D) (ci := 7) (v := .int (σ9 33 5)) (C := RX7) (T := TX7) (N := 7) hx hb hts iX7_nextToken_X7 hown hK hP 33 cw_33 rfl 5 (by decide) (hts (.fieldLink RX7 40 RX7 "value" "I") (by decide +kernel)) (fun _ h9 => h9) rfl dX7_nextToken_178 ?_
        refine lv_bipush (v := 59) hx hb dX7_nextToken_181 (by decide) ?_
        refine lv_icmp_ne (tgt := 190) hx hb dX7_nextToken_183 (by decide) (fun c183 => ?_) (fun c183 => ?_)
        · replace h := k_in c183 h
          refine lv_iconst (v := 4) hx hb dX7_nextToken_190 (by decide) ?_
          refine va_put (D := D) (ci := 7) (v := .int 4) (ty := .int) (C := RX7) (T := TX7) (N := 7) hx hb hts iX7_nextToken_X7 tyX7 tyX7_ok nmX7 hown hK hP (cw_D hap) hS 33 cw_33 rfl 3 (by decide) (hts (.fieldLink RX7 37 RX7 "token" "I") (by decide +kernel)) (fun _ h9 => h9) rfl (by decide +kernel) rfl rfl (Nat.le_of_ble_eq_true rfl) dX7_nextToken_191 (fun H locs hP _ hS => ?_)
          have hP := cw_s33_3 hP
          obtain ⟨σ11, e12, h⟩ := k_bd h
          rw [k_sm e12] at hP
          obtain rfl := k_sm h
          exact W.vret hx hb hr (fun t ht hW => ⟨⟨_, rfl, rfl, pw_end ht hP⟩, hS.F ht⟩) hS.2.2 dX7_nextToken_194
        · replace h := k_ip c183 h
          refine lv_iconst (v := 3) hx hb dX7_nextToken_186 (by decide) ?_
          refine lv_goto (tgt := 191) hx hb dX7_nextToken_187 (by decide) ?_
          refine va_put (D := D) (ci := 7) (v := .int 3) (ty := .int) (C := RX7) (T := TX7) (N := 7) hx hb hts iX7_nextToken_X7 tyX7 tyX7_ok nmX7 hown hK hP (cw_D hap) hS 33 cw_33 rfl 3 (by decide) (hts (.fieldLink RX7 37 RX7 "token" "I") (by decide +kernel)) (fun _ h9 => h9) rfl (by decide +kernel) rfl rfl (Nat.le_of_ble_eq_true rfl) dX7_nextToken_191 (fun H locs hP _ hS => ?_)
          have hP := cw_s33_3 hP
          obtain ⟨σ13, e14, h⟩ := k_bd h
          rw [k_sm e14] at hP
          obtain rfl := k_sm h
          exact W.vret hx hb hr (fun t ht hW => ⟨⟨_, rfl, rfl, pw_end ht hP⟩, hS.F ht⟩) hS.2.2 dX7_nextToken_194
      · replace h := k_ip c124 h
        refine lv_aload_n hx hb dX7_nextToken_127 rfl (lv_at hl 0 rfl) ?_
        refine lv_aload_n hx hb dX7_nextToken_128 rfl (lv_at hl 0 rfl) ?_
        refine lv_bipush (v := 48) hx hb dX7_nextToken_129 (by decide) ?_
        refine lv_bipush (v := 57) hx hb dX7_nextToken_131 (by decide) ?_
        obtain ⟨v15, e16, h⟩ := k_bd h
        refine rd_calli (va_runV (As := [.int 48, .int 57]) (rest := [.ref (ad 33)]) C0.1 (kX7_endOfRun l (D := D) (cI := cI) (cB := cB) (cZ := cZ) (ad := ad) (τ := τ) σ7 48 57 _ e16) (wX7_nextToken_X7_endOfRun hts ⟨Nat.le_of_ble_eq_true rfl, Nat.le_of_ble_eq_true rfl⟩) ⟨PW.blind, cw_r33 hK hP, PW.mk hP hK hN⟩ rfl rfl hl.1 rfl (lv_room (Nat.le_of_ble_eq_true rfl)) dX7_nextToken_133 ⟨Nat.zero_le _, Nat.zero_le _⟩) ?_
        refine va_put (D := D) (ci := 7) (v := .int v15) (ty := .int) (C := RX7) (T := TX7) (N := 7) hx hb hts iX7_nextToken_X7 tyX7 tyX7_ok nmX7 hown hK hP (cw_D hap) hS 33 cw_33 rfl 2 (by decide) (hts (.fieldLink RX7 28 RX7 "place" "I") (by decide +kernel)) (fun _ h9 => h9) rfl (by decide +kernel) rfl rfl (Nat.le_of_ble_eq_true rfl) dX7_nextToken_136 (fun H locs hP _ hS => ?_)
        have hP := cw_s33_2 hP
        obtain ⟨σ17, e18, h⟩ := k_bd h
        rw [k_sm e18] at hP
        refine lv_aload_n hx hb dX7_nextToken_139 rfl (lv_at hl 0 rfl) ?_
        refine lv_aload_n hx hb dX7_nextToken_140 rfl (lv_at hl 0 rfl) ?_
        refine rd_calli (va_runV (As := []) (rest := [.ref (ad 33)]) C0.1 (kX7_valueOfDigits l (D := D) (cI := cI) (cB := cB) (cZ := cZ) (ad := ad) (τ := τ) σ17 ) (wX7_nextToken_X7_valueOfDigits hts ⟨Nat.le_of_ble_eq_true rfl, Nat.le_of_ble_eq_true rfl⟩) ⟨PW.blind, cw_r33 hK hP, PW.mk hP hK hN⟩ rfl rfl hl.1 rfl (lv_room (Nat.le_of_ble_eq_true rfl)) dX7_nextToken_141 ⟨Nat.zero_le _, Nat.zero_le _⟩) ?_
        refine va_put (D := D) (ci := 7) (v := .int (pX7_valueOfDigits σ17)) (ty := .int) (C := RX7) (T := TX7) (N := 7) hx hb hts iX7_nextToken_X7 tyX7 tyX7_ok nmX7 hown hK hP (cw_D hap) hS 33 cw_33 rfl 5 (by decide) (hts (.fieldLink RX7 40 RX7 "value" "I") (by decide +kernel)) (fun _ h9 => h9) rfl (by decide +kernel) rfl rfl (Nat.le_of_ble_eq_true rfl) dX7_nextToken_144 (fun H locs hP _ hS => ?_)
        have hP := cw_s33_5 hP
        obtain ⟨σ19, e20, h⟩ := k_bd h
        rw [k_sm e20] at hP
        refine lv_aload_n hx hb dX7_nextToken_147 rfl (lv_at hl 0 rfl) ?_
        refine lv_aload_n hx hb dX7_nextToken_148 rfl (lv_at hl 0 rfl) ?_
        refine va_get (D := D) (ci := 7) (v := .int (σ19 33 5)) (C := RX7) (T := TX7) (N := 7) hx hb hts iX7_nextToken_X7 hown hK hP 33 cw_33 rfl 5 (by decide) (hts (.fieldLink RX7 40 RX7 "value" "I") (by decide +kernel)) (fun _ h9 => h9) rfl dX7_nextToken_149 ?_
        refine lv_if_ge (tgt := 159) hx hb dX7_nextToken_152 (by decide) (fun c152 => ?_) (fun c152 => ?_)
        · replace h := k_ip c152 h
          refine lv_iconst (v := 2) hx hb dX7_nextToken_159 (by decide) ?_
          refine va_put (D := D) (ci := 7) (v := .int 2) (ty := .int) (C := RX7) (T := TX7) (N := 7) hx hb hts iX7_nextToken_X7 tyX7 tyX7_ok nmX7 hown hK hP (cw_D hap) hS 33 cw_33 rfl 3 (by decide) (hts (.fieldLink RX7 37 RX7 "token" "I") (by decide +kernel)) (fun _ h9 => h9) rfl (by decide +kernel) rfl rfl (Nat.le_of_ble_eq_true rfl) dX7_nextToken_160 (fun H locs hP _ hS => ?_)
          have hP := cw_s33_3 hP
          obtain ⟨σ21, e22, h⟩ := k_bd h
          rw [k_sm e22] at hP
          refine lv_goto (tgt := 194) hx hb dX7_nextToken_163 (by decide) ?_
          obtain rfl := k_sm h
          exact W.vret hx hb hr (fun t ht hW => ⟨⟨_, rfl, rfl, pw_end ht hP⟩, hS.F ht⟩) hS.2.2 dX7_nextToken_194
        · replace h := k_in c152 h
          refine lv_iconst (v := 4) hx hb dX7_nextToken_155 (by decide) ?_
          refine lv_goto (tgt := 160) hx hb dX7_nextToken_156 (by decide) ?_
          refine va_put (D := D) (ci := 7) (v := .int 4) (ty := .int) (C := RX7) (T := TX7) (N := 7) hx hb hts iX7_nextToken_X7 tyX7 tyX7_ok nmX7 hown hK hP (cw_D hap) hS 33 cw_33 rfl 3 (by decide) (hts (.fieldLink RX7 37 RX7 "token" "I") (by decide +kernel)) (fun _ h9 => h9) rfl (by decide +kernel) rfl rfl (Nat.le_of_ble_eq_true rfl) dX7_nextToken_160 (fun H locs hP _ hS => ?_)
          have hP := cw_s33_3 hP
          obtain ⟨σ23, e24, h⟩ := k_bd h
          rw [k_sm e24] at hP
          refine lv_goto (tgt := 194) hx hb dX7_nextToken_163 (by decide) ?_
          obtain rfl := k_sm h
          exact W.vret hx hb hr (fun t ht hW => ⟨⟨_, rfl, rfl, pw_end ht hP⟩, hS.F ht⟩) hS.2.2 dX7_nextToken_194
    · replace h := k_ip c65 h
      refine lv_aload_n hx hb dX7_nextToken_68 rfl (lv_at hl 0 rfl) ?_
      refine lv_aload_n hx hb dX7_nextToken_69 rfl (lv_at hl 0 rfl) ?_
      refine lv_bipush (v := 97) hx hb dX7_nextToken_70 (by decide) ?_
      refine lv_bipush (v := 122) hx hb dX7_nextToken_72 (by decide) ?_
      obtain ⟨v25, e26, h⟩ := k_bd h
      refine rd_calli (va_runV (As := [.int 97, .int 122]) (rest := [.ref (ad 33)]) C0.1 (kX7_endOfRun l (D := D) (cI := cI) (cB := cB) (cZ := cZ) (ad := ad) (τ := τ) σ7 97 122 _ e26) (wX7_nextToken_X7_endOfRun hts ⟨Nat.le_of_ble_eq_true rfl, Nat.le_of_ble_eq_true rfl⟩) ⟨PW.blind, cw_r33 hK hP, PW.mk hP hK hN⟩ rfl rfl hl.1 rfl (lv_room (Nat.le_of_ble_eq_true rfl)) dX7_nextToken_74 ⟨Nat.zero_le _, Nat.zero_le _⟩) ?_
      refine va_put (D := D) (ci := 7) (v := .int v25) (ty := .int) (C := RX7) (T := TX7) (N := 7) hx hb hts iX7_nextToken_X7 tyX7 tyX7_ok nmX7 hown hK hP (cw_D hap) hS 33 cw_33 rfl 2 (by decide) (hts (.fieldLink RX7 28 RX7 "place" "I") (by decide +kernel)) (fun _ h9 => h9) rfl (by decide +kernel) rfl rfl (Nat.le_of_ble_eq_true rfl) dX7_nextToken_77 (fun H locs hP _ hS => ?_)
      have hP := cw_s33_2 hP
      obtain ⟨σ27, e28, h⟩ := k_bd h
      rw [k_sm e28] at hP
      refine lv_aload_n hx hb dX7_nextToken_80 rfl (lv_at hl 0 rfl) ?_
      refine lv_iconst (v := 1) hx hb dX7_nextToken_81 (by decide) ?_
      refine va_put (D := D) (ci := 7) (v := .int 1) (ty := .int) (C := RX7) (T := TX7) (N := 7) hx hb hts iX7_nextToken_X7 tyX7 tyX7_ok nmX7 hown hK hP (cw_D hap) hS 33 cw_33 rfl 3 (by decide) (hts (.fieldLink RX7 37 RX7 "token" "I") (by decide +kernel)) (fun _ h9 => h9) rfl (by decide +kernel) rfl rfl (Nat.le_of_ble_eq_true rfl) dX7_nextToken_82 (fun H locs hP _ hS => ?_)
      have hP := cw_s33_3 hP
      obtain ⟨σ29, e30, h⟩ := k_bd h
      rw [k_sm e30] at hP
      refine lv_aload_n hx hb dX7_nextToken_85 rfl (lv_at hl 0 rfl) ?_
      refine lv_aload_n hx hb dX7_nextToken_86 rfl (lv_at hl 0 rfl) ?_
      refine va_get (D := D) (ci := 7) (v := .int (σ29 33 2)) (C := RX7) (T := TX7) (N := 7) hx hb hts iX7_nextToken_X7 hown hK hP 33 cw_33 rfl 2 (by decide) (hts (.fieldLink RX7 28 RX7 "place" "I") (by decide +kernel)) (fun _ h9 => h9) rfl dX7_nextToken_87 ?_
      refine lv_aload_n hx hb dX7_nextToken_90 rfl (lv_at hl 0 rfl) ?_
      refine va_get (D := D) (ci := 7) (v := .int (σ29 33 4)) (C := RX7) (T := TX7) (N := 7) hx hb hts iX7_nextToken_X7 hown hK hP 33 cw_33 rfl 4 (by decide) (hts (.fieldLink RX7 56 RX7 "start" "I") (by decide +kernel)) (fun _ h9 => h9) rfl dX7_nextToken_91 ?_
      refine lv_isub hx hb dX7_nextToken_94 ?_
      refine lv_iconst (v := 1) hx hb dX7_nextToken_95 (by decide) ?_
      refine lv_icmp_ne (tgt := 106) hx hb dX7_nextToken_96 (by decide) (fun c96 => ?_) (fun c96 => ?_)
      · replace h := k_in c96 h
        refine lv_iconst (v := 0) hx hb dX7_nextToken_106 (by decide) ?_
        refine va_put (D := D) (ci := 7) (v := .int 0) (ty := .int) (C := RX7) (T := TX7) (N := 7) hx hb hts iX7_nextToken_X7 tyX7 tyX7_ok nmX7 hown hK hP (cw_D hap) hS 33 cw_33 rfl 5 (by decide) (hts (.fieldLink RX7 40 RX7 "value" "I") (by decide +kernel)) (fun _ h9 => h9) rfl (by decide +kernel) rfl rfl (Nat.le_of_ble_eq_true rfl) dX7_nextToken_107 (fun H locs hP _ hS => ?_)
        have hP := cw_s33_5 hP
        obtain ⟨σ31, e32, h⟩ := k_bd h
        rw [k_sm e32] at hP
        refine lv_goto (tgt := 194) hx hb dX7_nextToken_110 (by decide) ?_
        obtain rfl := k_sm h
        exact W.vret hx hb hr (fun t ht hW => ⟨⟨_, rfl, rfl, pw_end ht hP⟩, hS.F ht⟩) hS.2.2 dX7_nextToken_194
      · replace h := k_ip c96 h
        refine lv_aload_n hx hb dX7_nextToken_99 rfl (lv_at hl 0 rfl) ?_
        refine va_get (D := D) (ci := 7) (v := .int (σ29 33 5)) (C := RX7) (T := TX7) (N := 7) hx hb hts iX7_nextToken_X7 hown hK hP 33 cw_33 rfl 5 (by decide) (hts (.fieldLink RX7 40 RX7 "value" "I") (by decide +kernel)) (fun _ h9 => h9) rfl dX7_nextToken_100 ?_
        refine lv_goto (tgt := 107) hx hb dX7_nextToken_103 (by decide) ?_
        refine va_put (D := D) (ci := 7) (v := .int (σ29 33 5)) (ty := .int) (C := RX7) (T := TX7) (N := 7) hx hb hts iX7_nextToken_X7 tyX7 tyX7_ok nmX7 hown hK hP (cw_D hap) hS 33 cw_33 rfl 5 (by decide) (hts (.fieldLink RX7 40 RX7 "value" "I") (by decide +kernel)) (fun _ h9 => h9) rfl (by decide +kernel) rfl rfl (Nat.le_of_ble_eq_true rfl) dX7_nextToken_107 (fun H locs hP _ hS => ?_)
        have hP := cw_s33_5 hP
        obtain ⟨σ33, e34, h⟩ := k_bd h
        rw [k_sm e34] at hP
        refine lv_goto (tgt := 194) hx hb dX7_nextToken_110 (by decide) ?_
        obtain rfl := k_sm h
        exact W.vret hx hb hr (fun t ht hW => ⟨⟨_, rfl, rfl, pw_end ht hP⟩, hS.F ht⟩) hS.2.2 dX7_nextToken_194
  · replace h := k_in c43 h
    refine lv_aload_n hx hb dX7_nextToken_46 rfl (lv_at hl 0 rfl) ?_
    refine lv_iconst (v := 0) hx hb dX7_nextToken_47 (by decide) ?_
    refine va_put (D := D) (ci := 7) (v := .int 0) (ty := .int) (C := RX7) (T := TX7) (N := 7) hx hb hts iX7_nextToken_X7 tyX7 tyX7_ok nmX7 hown hK hP (cw_D hap) hS 33 cw_33 rfl 3 (by decide) (hts (.fieldLink RX7 37 RX7 "token" "I") (by decide +kernel)) (fun _ h9 => h9) rfl (by decide +kernel) rfl rfl (Nat.le_of_ble_eq_true rfl) dX7_nextToken_48 (fun H locs hP _ hS => ?_)
    have hP := cw_s33_3 hP
    obtain ⟨σ35, e36, h⟩ := k_bd h
    rw [k_sm e36] at hP
    refine lv_goto (tgt := 194) hx hb dX7_nextToken_51 (by decide) ?_
    obtain rfl := k_sm h
    exact W.vret hx hb hr (fun t ht hW => ⟨⟨_, rfl, rfl, pw_end ht hP⟩, hS.F ht⟩) hS.2.2 dX7_nextToken_194
set_option maxHeartbeats 4000000 in
set_option maxRecDepth 100000 in
theorem kX7_number (l : Launch) {D : va_G} {cI cB cZ : ClassId} {ad : Nat → Nat} {τ : Int64} (hap : cwX ad) (σ : Sg) (x1 : Int32) (x2 : Int32) (x3 : Int32) (o : (Int32 × Sg)) (h : pX7_number σ x1 x2 x3 = some o) : Met l yX7_number wsX7_number rmX7_number (va_Pc [.ref (ad 33), .int x1, .int x2, .int x3] (PW D cI cB cZ (CW cI ad τ σ))) (QI D (CW cI ad τ) (cwA ad) o.1 o.2) 0 0 (cwA ad) := by
  refine Met.ofW (cc := cX7_number) (maxL := 4) (ret := (some .int)) (by decide) rfl ?_
  intro p e s m args below meth c s₁ B hml hv
  obtain ⟨rfl, hP, hK, hN⟩ := hv
  have C0 : Cx p s m _ meth c cX7_number 4 (some .int) RX7 wsX7_number := ⟨⟨B.exec, B.bytes, hml, findClass_of_methodNamed B.named, atoms_spec B.pre⟩, B.returns, B.notSynchronized⟩
  obtain ⟨⟨hx, hb, -, hown, hts⟩, hr, hlk⟩ := id C0
  have hS : va_S (cwA ad) s.heap s.heap [] := va_S.rf
  have hl := lv_entry ([.ref (ad 33), .int x1, .int x2, .int x3]) (n := 4) (Nat.le_of_ble_eq_true rfl)
  rw [lg_entry_eq]
  generalize (lg_sl ([.ref (ad 33), .int x1, .int x2, .int x3]) ++ List.replicate (4 - (lg_sl ([.ref (ad 33), .int x1, .int x2, .int x3])).length) Slot.unset).toArray = ls at hl ⊢
  have hl : lv_has ls 4 [(0, .ref (ad 33)), (1, .int x1), (2, .int x2), (3, .int x3)] := hl
  rw [pX7_number] at h
  refine lv_aload_n hx hb dX7_number_0 rfl (lv_at hl 0 rfl) ?_
  refine va_get (D := D) (ci := 7) (v := .int (σ 33 6)) (C := RX7) (T := TX7) (N := 7) hx hb hts iX7_number_X7 hown hK hP 33 cw_33 rfl 6 (by decide) (hts (.fieldLink RX7 31 RX7 "fault" "I") (by decide +kernel)) (fun _ h9 => h9) rfl dX7_number_1 ?_
  refine lv_iconst (v := (-1)) hx hb dX7_number_4 (by decide) ?_
  refine lv_icmp_eq (tgt := 10) hx hb dX7_number_5 (by decide) (fun c5 => ?_) (fun c5 => ?_)
  · replace h := k_ip c5 h
    refine lv_aload_n hx hb dX7_number_10 rfl (lv_at hl 0 rfl) ?_
    obtain ⟨u1, e2, h⟩ := k_bd h
    refine wr_callv (va_runV (As := []) (rest := []) C0.1 (kX7_nextToken l (D := D) (cI := cI) (cB := cB) (cZ := cZ) (τ := τ) hap σ  _ e2) (wX7_number_X7_nextToken hts ⟨Nat.le_of_ble_eq_true rfl, Nat.le_of_ble_eq_true rfl⟩) ⟨PW.blind, cw_r33 hK hP, PW.mk hP hK hN⟩ rfl rfl hl.1 rfl (lv_room (Nat.le_of_ble_eq_true rfl)) dX7_number_11 ⟨Nat.zero_le _, Nat.zero_le _⟩) hS (fun _ h => h) (fun H locs hP hS => ?_)
    have hP : va_P D vwCl (CW cI ad τ u1) H := hP
    refine lv_aload_n hx hb dX7_number_14 rfl (lv_at hl 0 rfl) ?_
    refine va_get (D := D) (ci := 7) (v := .int (u1 33 3)) (C := RX7) (T := TX7) (N := 7) hx hb hts iX7_number_X7 hown hK hP 33 cw_33 rfl 3 (by decide) (hts (.fieldLink RX7 37 RX7 "token" "I") (by decide +kernel)) (fun _ h9 => h9) rfl dX7_number_15 ?_
    refine lv_iconst (v := 2) hx hb dX7_number_18 (by decide) ?_
    refine lv_icmp_ne (tgt := 42) hx hb dX7_number_19 (by decide) (fun c19 => ?_) (fun c19 => ?_)
    · replace h := k_in c19 h
      refine lv_aload_n hx hb dX7_number_42 rfl (lv_at hl 0 rfl) ?_
      refine lv_aload_n hx hb dX7_number_43 rfl (lv_at hl 0 rfl) ?_
      refine va_get (D := D) (ci := 7) (v := .int (u1 33 4)) (C := RX7) (T := TX7) (N := 7) hx hb hts iX7_number_X7 hown hK hP 33 cw_33 rfl 4 (by decide) (hts (.fieldLink RX7 56 RX7 "start" "I") (by decide +kernel)) (fun _ h9 => h9) rfl dX7_number_44 ?_
      refine va_put (D := D) (ci := 7) (v := .int (u1 33 4)) (ty := .int) (C := RX7) (T := TX7) (N := 7) hx hb hts iX7_number_X7 tyX7 tyX7_ok nmX7 hown hK hP (cw_D hap) hS 33 cw_33 rfl 6 (by decide) (hts (.fieldLink RX7 31 RX7 "fault" "I") (by decide +kernel)) (fun _ h9 => h9) rfl (by decide +kernel) rfl rfl (Nat.le_of_ble_eq_true rfl) dX7_number_47 (fun H locs hP _ hS => ?_)
      have hP := cw_s33_6 hP
      obtain ⟨σ3, e4, h⟩ := k_bd h
      rw [k_sm e4] at hP
      refine lv_iconst (v := 0) hx hb dX7_number_50 (by decide) ?_
      obtain rfl := k_sm h
      exact W.iret hx hb hr (fun t ht hW => ⟨⟨_, _, rfl, ⟨rfl, rfl⟩, pw_end ht hP⟩, hS.F ht⟩) hS.2.2 dX7_number_51
    · replace h := k_ip c19 h
      refine lv_aload_n hx hb dX7_number_22 rfl (lv_at hl 0 rfl) ?_
      refine va_get (D := D) (ci := 7) (v := .int (u1 33 5)) (C := RX7) (T := TX7) (N := 7) hx hb hts iX7_number_X7 hown hK hP 33 cw_33 rfl 5 (by decide) (hts (.fieldLink RX7 40 RX7 "value" "I") (by decide +kernel)) (fun _ h9 => h9) rfl dX7_number_23 ?_
      refine lv_iload_n hx hb dX7_number_26 rfl (lv_at hl 1 rfl) ?_
      refine lv_iload_n hx hb dX7_number_27 rfl (lv_at hl 2 rfl) ?_
      refine rd_calli (va_runSN (As := [.int (u1 33 5), .int x1, .int x2]) (rest := []) C0.1 (kX10_isOutside l (u1 33 5) x1 x2) (wX7_number_X10_isOutside hts hN ⟨Nat.le_of_ble_eq_true rfl, Nat.le_of_ble_eq_true rfl⟩) ⟨PT.blind, fun _ _ _ => ⟨rfl, trivial⟩⟩ rfl rfl hl.1 rfl (lv_room (Nat.le_of_ble_eq_true rfl)) dX7_number_28 ⟨Nat.zero_le _, Nat.zero_le _⟩) ?_
      refine lv_if_ne (tgt := 42) hx hb dX7_number_31 (by decide) (fun c31 => ?_) (fun c31 => ?_)
      · replace h := k_in c31 h
        refine lv_aload_n hx hb dX7_number_42 rfl (lv_at hl 0 rfl) ?_
        refine lv_aload_n hx hb dX7_number_43 rfl (lv_at hl 0 rfl) ?_
        refine va_get (D := D) (ci := 7) (v := .int (u1 33 4)) (C := RX7) (T := TX7) (N := 7) hx hb hts iX7_number_X7 hown hK hP 33 cw_33 rfl 4 (by decide) (hts (.fieldLink RX7 56 RX7 "start" "I") (by decide +kernel)) (fun _ h9 => h9) rfl dX7_number_44 ?_
        refine va_put (D := D) (ci := 7) (v := .int (u1 33 4)) (ty := .int) (C := RX7) (T := TX7) (N := 7) hx hb hts iX7_number_X7 tyX7 tyX7_ok nmX7 hown hK hP (cw_D hap) hS 33 cw_33 rfl 6 (by decide) (hts (.fieldLink RX7 31 RX7 "fault" "I") (by decide +kernel)) (fun _ h9 => h9) rfl (by decide +kernel) rfl rfl (Nat.le_of_ble_eq_true rfl) dX7_number_47 (fun H locs hP _ hS => ?_)
        have hP := cw_s33_6 hP
        obtain ⟨σ5, e6, h⟩ := k_bd h
        rw [k_sm e6] at hP
        refine lv_iconst (v := 0) hx hb dX7_number_50 (by decide) ?_
        obtain rfl := k_sm h
        exact W.iret hx hb hr (fun t ht hW => ⟨⟨_, _, rfl, ⟨rfl, rfl⟩, pw_end ht hP⟩, hS.F ht⟩) hS.2.2 dX7_number_51
      · replace h := k_ip c31 h
        refine lv_aload_n hx hb dX7_number_34 rfl (lv_at hl 0 rfl) ?_
        refine va_get (D := D) (ci := 7) (v := .int (u1 33 5)) (C := RX7) (T := TX7) (N := 7) hx hb hts iX7_number_X7 hown hK hP 33 cw_33 rfl 5 (by decide) (hts (.fieldLink RX7 40 RX7 "value" "I") (by decide +kernel)) (fun _ h9 => h9) rfl dX7_number_35 ?_
        refine lv_iload_n hx hb dX7_number_38 rfl (lv_at hl 3 rfl) ?_
        refine lv_icmp_ne (tgt := 52) hx hb dX7_number_39 (by decide) (fun c39 => ?_) (fun c39 => ?_)
        · replace h := k_in c39 h
          refine lv_aload_n hx hb dX7_number_52 rfl (lv_at hl 0 rfl) ?_
          refine va_get (D := D) (ci := 7) (v := .int (u1 33 5)) (C := RX7) (T := TX7) (N := 7) hx hb hts iX7_number_X7 hown hK hP 33 cw_33 rfl 5 (by decide) (hts (.fieldLink RX7 40 RX7 "value" "I") (by decide +kernel)) (fun _ h9 => h9) rfl dX7_number_53 ?_
          obtain rfl := k_sm h
          exact W.iret hx hb hr (fun t ht hW => ⟨⟨_, _, rfl, ⟨rfl, rfl⟩, pw_end ht hP⟩, hS.F ht⟩) hS.2.2 dX7_number_56
        · replace h := k_ip c39 h
          refine lv_aload_n hx hb dX7_number_42 rfl (lv_at hl 0 rfl) ?_
          refine lv_aload_n hx hb dX7_number_43 rfl (lv_at hl 0 rfl) ?_
          refine va_get (D := D) (ci := 7) (v := .int (u1 33 4)) (C := RX7) (T := TX7) (N := 7) hx hb hts iX7_number_X7 hown hK hP 33 cw_33 rfl 4 (by decide) (hts (.fieldLink RX7 56 RX7 "start" "I") (by decide +kernel)) (fun _ h9 => h9) rfl dX7_number_44 ?_
          refine va_put (D := D) (ci := 7) (v := .int (u1 33 4)) (ty := .int) (C := RX7) (T := TX7) (N := 7) hx hb hts iX7_number_X7 tyX7 tyX7_ok nmX7 hown hK hP (cw_D hap) hS 33 cw_33 rfl 6 (by decide) (hts (.fieldLink RX7 31 RX7 "fault" "I") (by decide +kernel)) (fun _ h9 => h9) rfl (by decide +kernel) rfl rfl (Nat.le_of_ble_eq_true rfl) dX7_number_47 (fun H locs hP _ hS => ?_)
          have hP := cw_s33_6 hP
          obtain ⟨σ7, e8, h⟩ := k_bd h
          rw [k_sm e8] at hP
          refine lv_iconst (v := 0) hx hb dX7_number_50 (by decide) ?_
          obtain rfl := k_sm h
          exact W.iret hx hb hr (fun t ht hW => ⟨⟨_, _, rfl, ⟨rfl, rfl⟩, pw_end ht hP⟩, hS.F ht⟩) hS.2.2 dX7_number_51
  · replace h := k_in c5 h
    refine lv_iconst (v := 0) hx hb dX7_number_8 (by decide) ?_
    obtain rfl := k_sm h
    exact W.iret hx hb hr (fun t ht hW => ⟨⟨_, _, rfl, ⟨rfl, rfl⟩, pw_end ht hP⟩, hS.F ht⟩) hS.2.2 dX7_number_9
set_option maxHeartbeats 4000000 in
set_option maxRecDepth 100000 in
theorem kX7_stops (l : Launch) {D : va_G} {cI cB cZ : ClassId} {ad : Nat → Nat} {τ : Int64} (hap : cwX ad) (σ : Sg) (o : (Int32 × Sg)) (h : pX7_stops σ = some o) : Met l yX7_stops wsX7_stops rmX7_stops (va_Pc [.ref (ad 33)] (PW D cI cB cZ (CW cI ad τ σ))) (QI D (CW cI ad τ) (cwA ad) o.1 o.2) 0 0 (cwA ad) := by
  refine Met.ofW (cc := cX7_stops) (maxL := 1) (ret := (some .boolean)) (by decide) rfl ?_
  intro p e s m args below meth c s₁ B hml hv
  obtain ⟨rfl, hP, hK, hN⟩ := hv
  have C0 : Cx p s m _ meth c cX7_stops 1 (some .boolean) RX7 wsX7_stops := ⟨⟨B.exec, B.bytes, hml, findClass_of_methodNamed B.named, atoms_spec B.pre⟩, B.returns, B.notSynchronized⟩
  obtain ⟨⟨hx, hb, -, hown, hts⟩, hr, hlk⟩ := id C0
  have hS : va_S (cwA ad) s.heap s.heap [] := va_S.rf
  have hl := lv_entry ([.ref (ad 33)]) (n := 1) (Nat.le_of_ble_eq_true rfl)
  rw [lg_entry_eq]
  generalize (lg_sl ([.ref (ad 33)]) ++ List.replicate (1 - (lg_sl ([.ref (ad 33)])).length) Slot.unset).toArray = ls at hl ⊢
  have hl : lv_has ls 1 [(0, .ref (ad 33))] := hl
  rw [pX7_stops] at h
  refine lv_aload_n hx hb dX7_stops_0 rfl (lv_at hl 0 rfl) ?_
  refine va_get (D := D) (ci := 7) (v := .int (σ 33 6)) (C := RX7) (T := TX7) (N := 7) hx hb hts iX7_stops_X7 hown hK hP 33 cw_33 rfl 6 (by decide) (hts (.fieldLink RX7 31 RX7 "fault" "I") (by decide +kernel)) (fun _ h9 => h9) rfl dX7_stops_1 ?_
  refine lv_iconst (v := (-1)) hx hb dX7_stops_4 (by decide) ?_
  refine lv_icmp_eq (tgt := 10) hx hb dX7_stops_5 (by decide) (fun c5 => ?_) (fun c5 => ?_)
  · replace h := k_ip c5 h
    refine lv_aload_n hx hb dX7_stops_10 rfl (lv_at hl 0 rfl) ?_
    obtain ⟨u1, e2, h⟩ := k_bd h
    refine wr_callv (va_runV (As := []) (rest := []) C0.1 (kX7_nextToken l (D := D) (cI := cI) (cB := cB) (cZ := cZ) (τ := τ) hap σ  _ e2) (wX7_stops_X7_nextToken hts ⟨Nat.le_of_ble_eq_true rfl, Nat.le_of_ble_eq_true rfl⟩) ⟨PW.blind, cw_r33 hK hP, PW.mk hP hK hN⟩ rfl rfl hl.1 rfl (lv_room (Nat.le_of_ble_eq_true rfl)) dX7_stops_11 ⟨Nat.zero_le _, Nat.zero_le _⟩) hS (fun _ h => h) (fun H locs hP hS => ?_)
    have hP : va_P D vwCl (CW cI ad τ u1) H := hP
    refine lv_aload_n hx hb dX7_stops_14 rfl (lv_at hl 0 rfl) ?_
    refine va_get (D := D) (ci := 7) (v := .int (u1 33 3)) (C := RX7) (T := TX7) (N := 7) hx hb hts iX7_stops_X7 hown hK hP 33 cw_33 rfl 3 (by decide) (hts (.fieldLink RX7 37 RX7 "token" "I") (by decide +kernel)) (fun _ h9 => h9) rfl dX7_stops_15 ?_
    refine lv_iconst (v := 3) hx hb dX7_stops_18 (by decide) ?_
    refine lv_icmp_eq (tgt := 30) hx hb dX7_stops_19 (by decide) (fun c19 => ?_) (fun c19 => ?_)
    · replace h := k_ip c19 h
      refine lv_aload_n hx hb dX7_stops_30 rfl (lv_at hl 0 rfl) ?_
      refine va_get (D := D) (ci := 7) (v := .int (u1 33 6)) (C := RX7) (T := TX7) (N := 7) hx hb hts iX7_stops_X7 hown hK hP 33 cw_33 rfl 6 (by decide) (hts (.fieldLink RX7 31 RX7 "fault" "I") (by decide +kernel)) (fun _ h9 => h9) rfl dX7_stops_31 ?_
      refine lv_iconst (v := (-1)) hx hb dX7_stops_34 (by decide) ?_
      refine lv_icmp_ne (tgt := 42) hx hb dX7_stops_35 (by decide) (fun c35 => ?_) (fun c35 => ?_)
      · replace h := k_in c35 h
        refine lv_iconst (v := 0) hx hb dX7_stops_42 (by decide) ?_
        obtain rfl := k_sm h
        exact W.zret hx hb hr rfl (fun t ht hW => ⟨⟨_, _, rfl, ⟨rfl, rfl⟩, pw_end ht hP⟩, hS.F ht⟩) hS.2.2 dX7_stops_43
      · replace h := k_ip c35 h
        refine lv_iconst (v := 1) hx hb dX7_stops_38 (by decide) ?_
        refine lv_goto (tgt := 43) hx hb dX7_stops_39 (by decide) ?_
        obtain rfl := k_sm h
        exact W.zret hx hb hr rfl (fun t ht hW => ⟨⟨_, _, rfl, ⟨rfl, rfl⟩, pw_end ht hP⟩, hS.F ht⟩) hS.2.2 dX7_stops_43
    · replace h := k_in c19 h
      refine lv_aload_n hx hb dX7_stops_22 rfl (lv_at hl 0 rfl) ?_
      refine lv_aload_n hx hb dX7_stops_23 rfl (lv_at hl 0 rfl) ?_
      refine va_get (D := D) (ci := 7) (v := .int (u1 33 4)) (C := RX7) (T := TX7) (N := 7) hx hb hts iX7_stops_X7 hown hK hP 33 cw_33 rfl 4 (by decide) (hts (.fieldLink RX7 56 RX7 "start" "I") (by decide +kernel)) (fun _ h9 => h9) rfl dX7_stops_24 ?_
      refine va_put (D := D) (ci := 7) (v := .int (u1 33 4)) (ty := .int) (C := RX7) (T := TX7) (N := 7) hx hb hts iX7_stops_X7 tyX7 tyX7_ok nmX7 hown hK hP (cw_D hap) hS 33 cw_33 rfl 6 (by decide) (hts (.fieldLink RX7 31 RX7 "fault" "I") (by decide +kernel)) (fun _ h9 => h9) rfl (by decide +kernel) rfl rfl (Nat.le_of_ble_eq_true rfl) dX7_stops_27 (fun H locs hP _ hS => ?_)
      have hP := cw_s33_6 hP
      obtain ⟨σ3, e4, h⟩ := k_bd h
      rw [k_sm e4] at hP
      refine lv_aload_n hx hb dX7_stops_30 rfl (lv_at hl 0 rfl) ?_
      refine va_get (D := D) (ci := 7) (v := .int (σ3 33 6)) (C := RX7) (T := TX7) (N := 7) hx hb hts iX7_stops_X7 hown hK hP 33 cw_33 rfl 6 (by decide) (hts (.fieldLink RX7 31 RX7 "fault" "I") (by decide +kernel)) (fun _ h9 => h9) rfl dX7_stops_31 ?_
      refine lv_iconst (v := (-1)) hx hb dX7_stops_34 (by decide) ?_
      refine lv_icmp_ne (tgt := 42) hx hb dX7_stops_35 (by decide) (fun c35 => ?_) (fun c35 => ?_)
      · replace h := k_in c35 h
        refine lv_iconst (v := 0) hx hb dX7_stops_42 (by decide) ?_
        obtain rfl := k_sm h
        exact W.zret hx hb hr rfl (fun t ht hW => ⟨⟨_, _, rfl, ⟨rfl, rfl⟩, pw_end ht hP⟩, hS.F ht⟩) hS.2.2 dX7_stops_43
      · replace h := k_ip c35 h
        refine lv_iconst (v := 1) hx hb dX7_stops_38 (by decide) ?_
        refine lv_goto (tgt := 43) hx hb dX7_stops_39 (by decide) ?_
        obtain rfl := k_sm h
        exact W.zret hx hb hr rfl (fun t ht hW => ⟨⟨_, _, rfl, ⟨rfl, rfl⟩, pw_end ht hP⟩, hS.F ht⟩) hS.2.2 dX7_stops_43
  · replace h := k_in c5 h
    refine lv_iconst (v := 0) hx hb dX7_stops_8 (by decide) ?_
    obtain rfl := k_sm h
    exact W.zret hx hb hr rfl (fun t ht hW => ⟨⟨_, _, rfl, ⟨rfl, rfl⟩, pw_end ht hP⟩, hS.F ht⟩) hS.2.2 dX7_stops_9
set_option maxHeartbeats 4000000 in
set_option maxRecDepth 100000 in
theorem kX7_readCell (l : Launch) {D : va_G} {cI cB cZ : ClassId} {ad : Nat → Nat} {τ : Int64} (hap : cwX ad) (σ : Sg) (o : Sg) (h : pX7_readCell σ = some o) : Met l yX7_readCell wsX7_readCell rmX7_readCell (va_Pc [.ref (ad 33), .ref (ad 10)] (PW D cI cB cZ (CW cI ad τ σ))) (QV D (CW cI ad τ) (cwA ad) o) 0 0 (cwA ad) := by
  refine Met.ofW (cc := cX7_readCell) (maxL := 5) (ret := none) (by decide) rfl ?_
  intro p e s m args below meth c s₁ B hml hv
  obtain ⟨rfl, hP, hK, hN⟩ := hv
  have C0 : Cx p s m _ meth c cX7_readCell 5 none RX7 wsX7_readCell := ⟨⟨B.exec, B.bytes, hml, findClass_of_methodNamed B.named, atoms_spec B.pre⟩, B.returns, B.notSynchronized⟩
  obtain ⟨⟨hx, hb, -, hown, hts⟩, hr, hlk⟩ := id C0
  have hS : va_S (cwA ad) s.heap s.heap [] := va_S.rf
  have hl := lv_entry ([.ref (ad 33), .ref (ad 10)]) (n := 5) (Nat.le_of_ble_eq_true rfl)
  rw [lg_entry_eq]
  generalize (lg_sl ([.ref (ad 33), .ref (ad 10)]) ++ List.replicate (5 - (lg_sl ([.ref (ad 33), .ref (ad 10)])).length) Slot.unset).toArray = ls at hl ⊢
  have hl : lv_has ls 5 [(0, .ref (ad 33)), (1, .ref (ad 10))] := hl
  rw [pX7_readCell] at h
  refine lv_aload_n hx hb dX7_readCell_0 rfl (lv_at hl 0 rfl) ?_
  refine lv_iconst (v := 0) hx hb dX7_readCell_1 (by decide) ?_
  refine lv_bipush (v := 9) hx hb dX7_readCell_2 (by decide) ?_
  refine lv_iconst (v := (-1)) hx hb dX7_readCell_4 (by decide) ?_
  obtain ⟨u1, e2, h⟩ := k_bd h
  refine wr_calli (va_runV (As := [.int 0, .int 9, .int (-1)]) (rest := []) C0.1 (kX7_number l (D := D) (cI := cI) (cB := cB) (cZ := cZ) (τ := τ) hap σ 0 9 (-1) _ e2) (wX7_readCell_X7_number hts ⟨Nat.le_of_ble_eq_true rfl, Nat.le_of_ble_eq_true rfl⟩) ⟨PW.blind, cw_r33 hK hP, PW.mk hP hK hN⟩ rfl rfl hl.1 rfl (lv_room (Nat.le_of_ble_eq_true rfl)) dX7_readCell_5 ⟨Nat.zero_le _, Nat.zero_le _⟩) hS (fun _ h => h) (fun H locs hP hS => ?_)
  have hP : va_P D vwCl (CW cI ad τ u1.2) H := hP
  refine lv_istore_n (lv' := [(2, .int u1.1), (0, .ref (ad 33)), (1, .ref (ad 10))]) hx hb dX7_readCell_8 rfl hl (by decide) rfl (fun ls hl => ?_)
  refine lv_aload_n hx hb dX7_readCell_9 rfl (lv_at hl 1 rfl) ?_
  refine lv_iconst (v := 1) hx hb dX7_readCell_10 (by decide) ?_
  refine lv_bipush (v := 9) hx hb dX7_readCell_11 (by decide) ?_
  refine lv_iconst (v := (-1)) hx hb dX7_readCell_13 (by decide) ?_
  obtain ⟨u3, e4, h⟩ := k_bd h
  refine wr_calli (va_runV (As := [.int 1, .int 9, .int (-1)]) (rest := []) C0.1 (kX7_number l (D := D) (cI := cI) (cB := cB) (cZ := cZ) (τ := τ) hap u1.2 1 9 (-1) _ e4) (wX7_readCell_X7_number hts ⟨Nat.le_of_ble_eq_true rfl, Nat.le_of_ble_eq_true rfl⟩) ⟨PW.blind, cw_r33 hK hP, PW.mk hP hK hN⟩ rfl rfl hl.1 rfl (lv_room (Nat.le_of_ble_eq_true rfl)) dX7_readCell_14 ⟨Nat.zero_le _, Nat.zero_le _⟩) hS (fun _ h => h) (fun H locs hP hS => ?_)
  have hP : va_P D vwCl (CW cI ad τ u3.2) H := hP
  refine lv_istore_n (lv' := [(3, .int u3.1), (2, .int u1.1), (0, .ref (ad 33)), (1, .ref (ad 10))]) hx hb dX7_readCell_17 rfl hl (by decide) rfl (fun ls hl => ?_)
  refine lv_aload_n hx hb dX7_readCell_18 rfl (lv_at hl 2 rfl) ?_
  refine lv_iconst (v := 0) hx hb dX7_readCell_19 (by decide) ?_
  refine lv_iconst (v := 3) hx hb dX7_readCell_20 (by decide) ?_
  refine lv_iconst (v := (-1)) hx hb dX7_readCell_21 (by decide) ?_
  obtain ⟨u5, e6, h⟩ := k_bd h
  refine wr_calli (va_runV (As := [.int 0, .int 3, .int (-1)]) (rest := []) C0.1 (kX7_number l (D := D) (cI := cI) (cB := cB) (cZ := cZ) (τ := τ) hap u3.2 0 3 (-1) _ e6) (wX7_readCell_X7_number hts ⟨Nat.le_of_ble_eq_true rfl, Nat.le_of_ble_eq_true rfl⟩) ⟨PW.blind, cw_r33 hK hP, PW.mk hP hK hN⟩ rfl rfl hl.1 rfl (lv_room (Nat.le_of_ble_eq_true rfl)) dX7_readCell_22 ⟨Nat.zero_le _, Nat.zero_le _⟩) hS (fun _ h => h) (fun H locs hP hS => ?_)
  have hP : va_P D vwCl (CW cI ad τ u5.2) H := hP
  refine lv_istore (lv' := [(4, .int u5.1), (3, .int u3.1), (2, .int u1.1), (0, .ref (ad 33)), (1, .ref (ad 10))]) hx hb dX7_readCell_25 hl (by decide) rfl (fun ls hl => ?_)
  refine lv_aload_n hx hb dX7_readCell_27 rfl (lv_at hl 3 rfl) ?_
  obtain ⟨u7, e8, h⟩ := k_bd h
  refine wr_calli (va_runV (As := []) (rest := []) C0.1 (kX7_stops l (D := D) (cI := cI) (cB := cB) (cZ := cZ) (τ := τ) hap u5.2  _ e8) (wX7_readCell_X7_stops hts ⟨Nat.le_of_ble_eq_true rfl, Nat.le_of_ble_eq_true rfl⟩) ⟨PW.blind, cw_r33 hK hP, PW.mk hP hK hN⟩ rfl rfl hl.1 rfl (lv_room (Nat.le_of_ble_eq_true rfl)) dX7_readCell_28 ⟨Nat.zero_le _, Nat.zero_le _⟩) hS (fun _ h => h) (fun H locs hP hS => ?_)
  have hP : va_P D vwCl (CW cI ad τ u7.2) H := hP
  refine lv_if_eq (tgt := 53) hx hb dX7_readCell_31 (by decide) (fun c31 => ?_) (fun c31 => ?_)
  · replace h := k_ip c31 h
    obtain rfl := k_sm h
    exact W.vret hx hb hr (fun t ht hW => ⟨⟨_, rfl, rfl, pw_end ht hP⟩, hS.F ht⟩) hS.2.2 dX7_readCell_53
  · replace h := k_in c31 h
    refine lv_aload_n hx hb dX7_readCell_34 rfl (lv_at hl 4 rfl) ?_
    refine va_getN (D := D) (ci := 9) (v := .ref (ad 11)) (C := RX9) (T := TX9) (N := 10) hx hb hts iX7_readCell_X9 hown hK hP 10 cw_10 rfl 0 (by decide) (va_Nw.use rfl (nf_X7_67 hN)) (fun _ h9 => h9) rfl dX7_readCell_35 ?_
    refine lv_iload_n hx hb dX7_readCell_38 rfl (lv_at hl 2 rfl) ?_
    refine lv_iload_n hx hb dX7_readCell_39 rfl (lv_at hl 1 rfl) ?_
    refine wr_callv (va_runSN (As := [.ref (ad 11), .int u1.1, .int u3.1]) (rest := []) C0.1 (kX10_put l (cw_D hap) 11 cw_11 (by decide) u1.1 u3.1) (wX7_readCell_X10_put hts hN ⟨Nat.le_of_ble_eq_true rfl, Nat.le_of_ble_eq_true rfl⟩) ⟨PW.blind, PW.mk hP hK hN⟩ rfl rfl hl.1 rfl (lv_room (Nat.le_of_ble_eq_true rfl)) dX7_readCell_40 ⟨Nat.zero_le _, Nat.zero_le _⟩) hS (fun _ h => h) (fun H locs hP hS => ?_)
    have hP := cw_s11 hP
    obtain ⟨σ9, e10, h⟩ := k_bd h
    rw [k_sm e10] at hP
    refine lv_aload_n hx hb dX7_readCell_43 rfl (lv_at hl 4 rfl) ?_
    refine va_getN (D := D) (ci := 9) (v := .ref (ad 12)) (C := RX9) (T := TX9) (N := 10) hx hb hts iX7_readCell_X9 hown hK hP 10 cw_10 rfl 1 (by decide) (va_Nw.use rfl (nf_X7_70 hN)) (fun _ h9 => h9) rfl dX7_readCell_44 ?_
    refine lv_iload_n hx hb dX7_readCell_47 rfl (lv_at hl 2 rfl) ?_
    refine lv_iload hx hb dX7_readCell_48 (lv_at hl 0 rfl) ?_
    refine wr_callv (va_runSN (As := [.ref (ad 12), .int u1.1, .int u5.1]) (rest := []) C0.1 (kX10_put l (cw_D hap) 12 cw_12 (by decide) u1.1 u5.1) (wX7_readCell_X10_put hts hN ⟨Nat.le_of_ble_eq_true rfl, Nat.le_of_ble_eq_true rfl⟩) ⟨PW.blind, PW.mk hP hK hN⟩ rfl rfl hl.1 rfl (lv_room (Nat.le_of_ble_eq_true rfl)) dX7_readCell_50 ⟨Nat.zero_le _, Nat.zero_le _⟩) hS (fun _ h => h) (fun H locs hP hS => ?_)
    have hP := cw_s12 hP
    obtain ⟨σ11, e12, h⟩ := k_bd h
    rw [k_sm e12] at hP
    obtain rfl := k_sm h
    exact W.vret hx hb hr (fun t ht hW => ⟨⟨_, rfl, rfl, pw_end ht hP⟩, hS.F ht⟩) hS.2.2 dX7_readCell_53
set_option maxHeartbeats 4000000 in
set_option maxRecDepth 100000 in
theorem kX7_readRaft (l : Launch) {D : va_G} {cI cB cZ : ClassId} {ad : Nat → Nat} {τ : Int64} (hap : cwX ad) (σ : Sg) (o : Sg) (h : pX7_readRaft σ = some o) : Met l yX7_readRaft wsX7_readRaft rmX7_readRaft (va_Pc [.ref (ad 33), .ref (ad 10)] (PW D cI cB cZ (CW cI ad τ σ))) (QV D (CW cI ad τ) (cwA ad) o) 0 0 (cwA ad) := by
  refine Met.ofW (cc := cX7_readRaft) (maxL := 3) (ret := none) (by decide) rfl ?_
  intro p e s m args below meth c s₁ B hml hv
  obtain ⟨rfl, hP, hK, hN⟩ := hv
  have C0 : Cx p s m _ meth c cX7_readRaft 3 none RX7 wsX7_readRaft := ⟨⟨B.exec, B.bytes, hml, findClass_of_methodNamed B.named, atoms_spec B.pre⟩, B.returns, B.notSynchronized⟩
  obtain ⟨⟨hx, hb, -, hown, hts⟩, hr, hlk⟩ := id C0
  have hS : va_S (cwA ad) s.heap s.heap [] := va_S.rf
  have hl := lv_entry ([.ref (ad 33), .ref (ad 10)]) (n := 3) (Nat.le_of_ble_eq_true rfl)
  rw [lg_entry_eq]
  generalize (lg_sl ([.ref (ad 33), .ref (ad 10)]) ++ List.replicate (3 - (lg_sl ([.ref (ad 33), .ref (ad 10)])).length) Slot.unset).toArray = ls at hl ⊢
  have hl : lv_has ls 3 [(0, .ref (ad 33)), (1, .ref (ad 10))] := hl
  rw [pX7_readRaft] at h
  refine lv_aload_n hx hb dX7_readRaft_0 rfl (lv_at hl 1 rfl) ?_
  refine va_getN (D := D) (ci := 9) (v := .int (σ 10 7)) (C := RX9) (T := TX9) (N := 10) hx hb hts iX7_readRaft_X9 hown hK hP 10 cw_10 rfl 7 (by decide) (va_Nw.use rfl (nf_X7_73 hN)) (fun _ h9 => h9) rfl dX7_readRaft_1 ?_
  refine lv_bipush (v := 6) hx hb dX7_readRaft_4 (by decide) ?_
  obtain ⟨j1, e4, h⟩ := k_bd h
  have key : ∀ (H : Heap) (locs : List Loc) (ls : Array Slot), va_P D vwCl (CW cI ad τ j1) H → va_S (cwA ad) s.heap H locs → lv_has ls 3 [(0, .ref (ad 33)), (1, .ref (ad 10))] → W p l e rmX7_readRaft s m ([.ref (ad 33), .ref (ad 10)] : List Value).toArray below meth c H locs 0 0 (MQ below (QV D (CW cI ad τ) (cwA ad) o) ([.ref (ad 33), .ref (ad 10)] : List Value).toArray s 0 0 (cwA ad)) (F0 m 17 ls []) := by
    intro H locs ls hP hS hl
    refine lv_aload_n hx hb dX7_readRaft_17 rfl (lv_at hl 0 rfl) ?_
    refine lv_iconst (v := 0) hx hb dX7_readRaft_18 (by decide) ?_
    refine lv_aload_n hx hb dX7_readRaft_19 rfl (lv_at hl 1 rfl) ?_
    refine va_getN (D := D) (ci := 9) (v := .int (j1 10 7)) (C := RX9) (T := TX9) (N := 10) hx hb hts iX7_readRaft_X9 hown hK hP 10 cw_10 rfl 7 (by decide) (va_Nw.use rfl (nf_X7_73 hN)) (fun _ h9 => h9) rfl dX7_readRaft_20 ?_
    refine lv_iconst (v := (-1)) hx hb dX7_readRaft_23 (by decide) ?_
    obtain ⟨u5, e6, h⟩ := k_bd h
    refine wr_calli (va_runV (As := [.int 0, .int (j1 10 7), .int (-1)]) (rest := []) C0.1 (kX7_number l (D := D) (cI := cI) (cB := cB) (cZ := cZ) (τ := τ) hap j1 0 (j1 10 7) (-1) _ e6) (wX7_readRaft_X7_number hts ⟨Nat.le_of_ble_eq_true rfl, Nat.le_of_ble_eq_true rfl⟩) ⟨PW.blind, cw_r33 hK hP, PW.mk hP hK hN⟩ rfl rfl hl.1 rfl (lv_room (Nat.le_of_ble_eq_true rfl)) dX7_readRaft_24 ⟨Nat.zero_le _, Nat.zero_le _⟩) hS (fun _ h => h) (fun H locs hP hS => ?_)
    have hP : va_P D vwCl (CW cI ad τ u5.2) H := hP
    refine lv_istore_n (lv' := [(2, .int u5.1), (0, .ref (ad 33)), (1, .ref (ad 10))]) hx hb dX7_readRaft_27 rfl hl (by decide) rfl (fun ls hl => ?_)
    refine lv_aload_n hx hb dX7_readRaft_28 rfl (lv_at hl 1 rfl) ?_
    obtain ⟨u7, e8, h⟩ := k_bd h
    refine wr_calli (va_runV (As := []) (rest := []) C0.1 (kX7_stops l (D := D) (cI := cI) (cB := cB) (cZ := cZ) (τ := τ) hap u5.2  _ e8) (wX7_readRaft_X7_stops hts ⟨Nat.le_of_ble_eq_true rfl, Nat.le_of_ble_eq_true rfl⟩) ⟨PW.blind, cw_r33 hK hP, PW.mk hP hK hN⟩ rfl rfl hl.1 rfl (lv_room (Nat.le_of_ble_eq_true rfl)) dX7_readRaft_29 ⟨Nat.zero_le _, Nat.zero_le _⟩) hS (fun _ h => h) (fun H locs hP hS => ?_)
    have hP : va_P D vwCl (CW cI ad τ u7.2) H := hP
    refine lv_if_eq (tgt := 40) hx hb dX7_readRaft_32 (by decide) (fun c32 => ?_) (fun c32 => ?_)
    · replace h := k_ip c32 h
      obtain rfl := k_sm h
      exact W.vret hx hb hr (fun t ht hW => ⟨⟨_, rfl, rfl, pw_end ht hP⟩, hS.F ht⟩) hS.2.2 dX7_readRaft_40
    · replace h := k_in c32 h
      refine lv_aload_n hx hb dX7_readRaft_35 rfl (lv_at hl 2 rfl) ?_
      refine lv_iload_n hx hb dX7_readRaft_36 rfl (lv_at hl 0 rfl) ?_
      obtain ⟨u9, e10, h⟩ := k_bd h
      refine wr_callv (va_runVN (As := [.int u5.1]) (rest := []) C0.1 (kX9_addRaft l (D := D) (cI := cI) (cB := cB) (cZ := cZ) (τ := τ) hap u7.2 u5.1 _ e10) (wX7_readRaft_X9_addRaft hts hN ⟨Nat.le_of_ble_eq_true rfl, Nat.le_of_ble_eq_true rfl⟩) ⟨PW.blind, cw_r10 hK hP, PW.mk hP hK hN⟩ rfl rfl hl.1 rfl (lv_room (Nat.le_of_ble_eq_true rfl)) dX7_readRaft_37 ⟨Nat.zero_le _, Nat.zero_le _⟩) hS (fun _ h => h) (fun H locs hP hS => ?_)
      have hP : va_P D vwCl (CW cI ad τ u9) H := hP
      obtain rfl := k_sm h
      exact W.vret hx hb hr (fun t ht hW => ⟨⟨_, rfl, rfl, pw_end ht hP⟩, hS.F ht⟩) hS.2.2 dX7_readRaft_40
  clear h
  have h := e4
  clear e4
  refine lv_icmp_lt (tgt := 17) hx hb dX7_readRaft_6 (by decide) (fun c6 => ?_) (fun c6 => ?_)
  · replace h := k_ip c6 h
    obtain rfl := k_sm h
    exact key _ _ _ hP hS (lv_sub hl [0, 1] rfl)
  · replace h := k_in c6 h
    refine lv_aload_n hx hb dX7_readRaft_9 rfl (lv_at hl 0 rfl) ?_
    refine lv_aload_n hx hb dX7_readRaft_10 rfl (lv_at hl 0 rfl) ?_
    refine va_get (D := D) (ci := 7) (v := .int (σ 33 4)) (C := RX7) (T := TX7) (N := 7) hx hb hts iX7_readRaft_X7 hown hK hP 33 cw_33 rfl 4 (by decide) (hts (.fieldLink RX7 56 RX7 "start" "I") (by decide +kernel)) (fun _ h9 => h9) rfl dX7_readRaft_11 ?_
    refine va_put (D := D) (ci := 7) (v := .int (σ 33 4)) (ty := .int) (C := RX7) (T := TX7) (N := 7) hx hb hts iX7_readRaft_X7 tyX7 tyX7_ok nmX7 hown hK hP (cw_D hap) hS 33 cw_33 rfl 6 (by decide) (hts (.fieldLink RX7 31 RX7 "fault" "I") (by decide +kernel)) (fun _ h9 => h9) rfl (by decide +kernel) rfl rfl (Nat.le_of_ble_eq_true rfl) dX7_readRaft_14 (fun H locs hP _ hS => ?_)
    have hP := cw_s33_6 hP
    obtain ⟨σ2, e3, h⟩ := k_bd h
    rw [k_sm e3] at hP
    obtain rfl := k_sm h
    exact key _ _ _ hP hS (lv_sub hl [0, 1] rfl)
set_option maxHeartbeats 4000000 in
set_option maxRecDepth 100000 in
theorem kX7_readAnchor (l : Launch) {D : va_G} {cI cB cZ : ClassId} {ad : Nat → Nat} {τ : Int64} (hap : cwX ad) (σ : Sg) (o : Sg) (h : pX7_readAnchor σ = some o) : Met l yX7_readAnchor wsX7_readAnchor rmX7_readAnchor (va_Pc [.ref (ad 33), .ref (ad 10)] (PW D cI cB cZ (CW cI ad τ σ))) (QV D (CW cI ad τ) (cwA ad) o) 0 0 (cwA ad) := by
  refine Met.ofW (cc := cX7_readAnchor) (maxL := 7) (ret := none) (by decide) rfl ?_
  intro p e s m args below meth c s₁ B hml hv
  obtain ⟨rfl, hP, hK, hN⟩ := hv
  have C0 : Cx p s m _ meth c cX7_readAnchor 7 none RX7 wsX7_readAnchor := ⟨⟨B.exec, B.bytes, hml, findClass_of_methodNamed B.named, atoms_spec B.pre⟩, B.returns, B.notSynchronized⟩
  obtain ⟨⟨hx, hb, -, hown, hts⟩, hr, hlk⟩ := id C0
  have hS : va_S (cwA ad) s.heap s.heap [] := va_S.rf
  have hl := lv_entry ([.ref (ad 33), .ref (ad 10)]) (n := 7) (Nat.le_of_ble_eq_true rfl)
  rw [lg_entry_eq]
  generalize (lg_sl ([.ref (ad 33), .ref (ad 10)]) ++ List.replicate (7 - (lg_sl ([.ref (ad 33), .ref (ad 10)])).length) Slot.unset).toArray = ls at hl ⊢
  have hl : lv_has ls 7 [(0, .ref (ad 33)), (1, .ref (ad 10))] := hl
  rw [pX7_readAnchor] at h
  refine lv_aload_n hx hb dX7_readAnchor_0 rfl (lv_at hl 1 rfl) ?_
  refine va_getN (D := D) (ci := 9) (v := .int (σ 10 8)) (C := RX9) (T := TX9) (N := 10) hx hb hts iX7_readAnchor_X9 hown hK hP 10 cw_10 rfl 8 (by decide) (va_Nw.use rfl (nf_X7_80 hN)) (fun _ h9 => h9) rfl dX7_readAnchor_1 ?_
  refine lv_bipush (v := 8) hx hb dX7_readAnchor_4 (by decide) ?_
  obtain ⟨j1, e4, h⟩ := k_bd h
  have key : ∀ (H : Heap) (locs : List Loc) (ls : Array Slot), va_P D vwCl (CW cI ad τ j1) H → va_S (cwA ad) s.heap H locs → lv_has ls 7 [(0, .ref (ad 33)), (1, .ref (ad 10))] → W p l e rmX7_readAnchor s m ([.ref (ad 33), .ref (ad 10)] : List Value).toArray below meth c H locs 0 0 (MQ below (QV D (CW cI ad τ) (cwA ad) o) ([.ref (ad 33), .ref (ad 10)] : List Value).toArray s 0 0 (cwA ad)) (F0 m 17 ls []) := by
    intro H locs ls hP hS hl
    refine lv_aload_n hx hb dX7_readAnchor_17 rfl (lv_at hl 0 rfl) ?_
    refine lv_iconst (v := 0) hx hb dX7_readAnchor_18 (by decide) ?_
    refine lv_aload_n hx hb dX7_readAnchor_19 rfl (lv_at hl 1 rfl) ?_
    refine va_getN (D := D) (ci := 9) (v := .int (j1 10 7)) (C := RX9) (T := TX9) (N := 10) hx hb hts iX7_readAnchor_X9 hown hK hP 10 cw_10 rfl 7 (by decide) (va_Nw.use rfl (nf_X7_73 hN)) (fun _ h9 => h9) rfl dX7_readAnchor_20 ?_
    refine lv_iconst (v := 1) hx hb dX7_readAnchor_23 (by decide) ?_
    refine lv_isub hx hb dX7_readAnchor_24 ?_
    refine lv_iconst (v := (-1)) hx hb dX7_readAnchor_25 (by decide) ?_
    obtain ⟨u5, e6, h⟩ := k_bd h
    refine wr_calli (va_runV (As := [.int 0, .int ((j1 10 7) - 1), .int (-1)]) (rest := []) C0.1 (kX7_number l (D := D) (cI := cI) (cB := cB) (cZ := cZ) (τ := τ) hap j1 0 ((j1 10 7) - 1) (-1) _ e6) (wX7_readAnchor_X7_number hts ⟨Nat.le_of_ble_eq_true rfl, Nat.le_of_ble_eq_true rfl⟩) ⟨PW.blind, cw_r33 hK hP, PW.mk hP hK hN⟩ rfl rfl hl.1 rfl (lv_room (Nat.le_of_ble_eq_true rfl)) dX7_readAnchor_26 ⟨Nat.zero_le _, Nat.zero_le _⟩) hS (fun _ h => h) (fun H locs hP hS => ?_)
    have hP : va_P D vwCl (CW cI ad τ u5.2) H := hP
    refine lv_istore_n (lv' := [(2, .int u5.1), (0, .ref (ad 33)), (1, .ref (ad 10))]) hx hb dX7_readAnchor_29 rfl hl (by decide) rfl (fun ls hl => ?_)
    refine lv_aload_n hx hb dX7_readAnchor_30 rfl (lv_at hl 1 rfl) ?_
    refine lv_iconst (v := 0) hx hb dX7_readAnchor_31 (by decide) ?_
    refine lv_bipush (v := 9) hx hb dX7_readAnchor_32 (by decide) ?_
    refine lv_iconst (v := (-1)) hx hb dX7_readAnchor_34 (by decide) ?_
    obtain ⟨u7, e8, h⟩ := k_bd h
    refine wr_calli (va_runV (As := [.int 0, .int 9, .int (-1)]) (rest := []) C0.1 (kX7_number l (D := D) (cI := cI) (cB := cB) (cZ := cZ) (τ := τ) hap u5.2 0 9 (-1) _ e8) (wX7_readAnchor_X7_number hts ⟨Nat.le_of_ble_eq_true rfl, Nat.le_of_ble_eq_true rfl⟩) ⟨PW.blind, cw_r33 hK hP, PW.mk hP hK hN⟩ rfl rfl hl.1 rfl (lv_room (Nat.le_of_ble_eq_true rfl)) dX7_readAnchor_35 ⟨Nat.zero_le _, Nat.zero_le _⟩) hS (fun _ h => h) (fun H locs hP hS => ?_)
    have hP : va_P D vwCl (CW cI ad τ u7.2) H := hP
    refine lv_istore_n (lv' := [(3, .int u7.1), (2, .int u5.1), (0, .ref (ad 33)), (1, .ref (ad 10))]) hx hb dX7_readAnchor_38 rfl hl (by decide) rfl (fun ls hl => ?_)
    refine lv_aload_n hx hb dX7_readAnchor_39 rfl (lv_at hl 2 rfl) ?_
    refine lv_iconst (v := 1) hx hb dX7_readAnchor_40 (by decide) ?_
    refine lv_bipush (v := 9) hx hb dX7_readAnchor_41 (by decide) ?_
    refine lv_iconst (v := (-1)) hx hb dX7_readAnchor_43 (by decide) ?_
    obtain ⟨u9, e10, h⟩ := k_bd h
    refine wr_calli (va_runV (As := [.int 1, .int 9, .int (-1)]) (rest := []) C0.1 (kX7_number l (D := D) (cI := cI) (cB := cB) (cZ := cZ) (τ := τ) hap u7.2 1 9 (-1) _ e10) (wX7_readAnchor_X7_number hts ⟨Nat.le_of_ble_eq_true rfl, Nat.le_of_ble_eq_true rfl⟩) ⟨PW.blind, cw_r33 hK hP, PW.mk hP hK hN⟩ rfl rfl hl.1 rfl (lv_room (Nat.le_of_ble_eq_true rfl)) dX7_readAnchor_44 ⟨Nat.zero_le _, Nat.zero_le _⟩) hS (fun _ h => h) (fun H locs hP hS => ?_)
    have hP : va_P D vwCl (CW cI ad τ u9.2) H := hP
    refine lv_istore (lv' := [(4, .int u9.1), (3, .int u7.1), (2, .int u5.1), (0, .ref (ad 33)), (1, .ref (ad 10))]) hx hb dX7_readAnchor_47 hl (by decide) rfl (fun ls hl => ?_)
    refine lv_aload_n hx hb dX7_readAnchor_49 rfl (lv_at hl 3 rfl) ?_
    refine lv_iconst (v := 1) hx hb dX7_readAnchor_50 (by decide) ?_
    refine lv_bipush (v := 60) hx hb dX7_readAnchor_51 (by decide) ?_
    refine lv_iconst (v := (-1)) hx hb dX7_readAnchor_53 (by decide) ?_
    obtain ⟨u11, e12, h⟩ := k_bd h
    refine wr_calli (va_runV (As := [.int 1, .int 60, .int (-1)]) (rest := []) C0.1 (kX7_number l (D := D) (cI := cI) (cB := cB) (cZ := cZ) (τ := τ) hap u9.2 1 60 (-1) _ e12) (wX7_readAnchor_X7_number hts ⟨Nat.le_of_ble_eq_true rfl, Nat.le_of_ble_eq_true rfl⟩) ⟨PW.blind, cw_r33 hK hP, PW.mk hP hK hN⟩ rfl rfl hl.1 rfl (lv_room (Nat.le_of_ble_eq_true rfl)) dX7_readAnchor_54 ⟨Nat.zero_le _, Nat.zero_le _⟩) hS (fun _ h => h) (fun H locs hP hS => ?_)
    have hP : va_P D vwCl (CW cI ad τ u11.2) H := hP
    refine lv_istore (lv' := [(5, .int u11.1), (4, .int u9.1), (3, .int u7.1), (2, .int u5.1), (0, .ref (ad 33)), (1, .ref (ad 10))]) hx hb dX7_readAnchor_57 hl (by decide) rfl (fun ls hl => ?_)
    refine lv_aload_n hx hb dX7_readAnchor_59 rfl (lv_at hl 4 rfl) ?_
    refine lv_iconst (v := 0) hx hb dX7_readAnchor_60 (by decide) ?_
    refine lv_bipush (v := 99) hx hb dX7_readAnchor_61 (by decide) ?_
    refine lv_iconst (v := (-1)) hx hb dX7_readAnchor_63 (by decide) ?_
    obtain ⟨u13, e14, h⟩ := k_bd h
    refine wr_calli (va_runV (As := [.int 0, .int 99, .int (-1)]) (rest := []) C0.1 (kX7_number l (D := D) (cI := cI) (cB := cB) (cZ := cZ) (τ := τ) hap u11.2 0 99 (-1) _ e14) (wX7_readAnchor_X7_number hts ⟨Nat.le_of_ble_eq_true rfl, Nat.le_of_ble_eq_true rfl⟩) ⟨PW.blind, cw_r33 hK hP, PW.mk hP hK hN⟩ rfl rfl hl.1 rfl (lv_room (Nat.le_of_ble_eq_true rfl)) dX7_readAnchor_64 ⟨Nat.zero_le _, Nat.zero_le _⟩) hS (fun _ h => h) (fun H locs hP hS => ?_)
    have hP : va_P D vwCl (CW cI ad τ u13.2) H := hP
    refine lv_istore (lv' := [(6, .int u13.1), (5, .int u11.1), (4, .int u9.1), (3, .int u7.1), (2, .int u5.1), (0, .ref (ad 33)), (1, .ref (ad 10))]) hx hb dX7_readAnchor_67 hl (by decide) rfl (fun ls hl => ?_)
    refine lv_aload_n hx hb dX7_readAnchor_69 rfl (lv_at hl 5 rfl) ?_
    obtain ⟨u15, e16, h⟩ := k_bd h
    refine wr_calli (va_runV (As := []) (rest := []) C0.1 (kX7_stops l (D := D) (cI := cI) (cB := cB) (cZ := cZ) (τ := τ) hap u13.2  _ e16) (wX7_readAnchor_X7_stops hts ⟨Nat.le_of_ble_eq_true rfl, Nat.le_of_ble_eq_true rfl⟩) ⟨PW.blind, cw_r33 hK hP, PW.mk hP hK hN⟩ rfl rfl hl.1 rfl (lv_room (Nat.le_of_ble_eq_true rfl)) dX7_readAnchor_70 ⟨Nat.zero_le _, Nat.zero_le _⟩) hS (fun _ h => h) (fun H locs hP hS => ?_)
    have hP : va_P D vwCl (CW cI ad τ u15.2) H := hP
    refine lv_if_eq (tgt := 88) hx hb dX7_readAnchor_73 (by decide) (fun c73 => ?_) (fun c73 => ?_)
    · replace h := k_ip c73 h
      obtain rfl := k_sm h
      exact W.vret hx hb hr (fun t ht hW => ⟨⟨_, rfl, rfl, pw_end ht hP⟩, hS.F ht⟩) hS.2.2 dX7_readAnchor_88
    · replace h := k_in c73 h
      refine lv_aload_n hx hb dX7_readAnchor_76 rfl (lv_at hl 6 rfl) ?_
      refine lv_iload_n hx hb dX7_readAnchor_77 rfl (lv_at hl 4 rfl) ?_
      refine lv_iload_n hx hb dX7_readAnchor_78 rfl (lv_at hl 3 rfl) ?_
      refine lv_iload hx hb dX7_readAnchor_79 (lv_at hl 2 rfl) ?_
      refine lv_iload hx hb dX7_readAnchor_81 (lv_at hl 1 rfl) ?_
      refine lv_iload hx hb dX7_readAnchor_83 (lv_at hl 0 rfl) ?_
      obtain ⟨u17, e18, h⟩ := k_bd h
      refine wr_callv (va_runVN (As := [.int u5.1, .int u7.1, .int u9.1, .int u11.1, .int u13.1]) (rest := []) C0.1 (kX9_addAnchor l (D := D) (cI := cI) (cB := cB) (cZ := cZ) (τ := τ) hap u15.2 u5.1 u7.1 u9.1 u11.1 u13.1 _ e18) (wX7_readAnchor_X9_addAnchor hts hN ⟨Nat.le_of_ble_eq_true rfl, Nat.le_of_ble_eq_true rfl⟩) ⟨PW.blind, cw_r10 hK hP, PW.mk hP hK hN⟩ rfl rfl hl.1 rfl (lv_room (Nat.le_of_ble_eq_true rfl)) dX7_readAnchor_85 ⟨Nat.zero_le _, Nat.zero_le _⟩) hS (fun _ h => h) (fun H locs hP hS => ?_)
      have hP : va_P D vwCl (CW cI ad τ u17) H := hP
      obtain rfl := k_sm h
      exact W.vret hx hb hr (fun t ht hW => ⟨⟨_, rfl, rfl, pw_end ht hP⟩, hS.F ht⟩) hS.2.2 dX7_readAnchor_88
  clear h
  have h := e4
  clear e4
  refine lv_icmp_lt (tgt := 17) hx hb dX7_readAnchor_6 (by decide) (fun c6 => ?_) (fun c6 => ?_)
  · replace h := k_ip c6 h
    obtain rfl := k_sm h
    exact key _ _ _ hP hS (lv_sub hl [0, 1] rfl)
  · replace h := k_in c6 h
    refine lv_aload_n hx hb dX7_readAnchor_9 rfl (lv_at hl 0 rfl) ?_
    refine lv_aload_n hx hb dX7_readAnchor_10 rfl (lv_at hl 0 rfl) ?_
    refine va_get (D := D) (ci := 7) (v := .int (σ 33 4)) (C := RX7) (T := TX7) (N := 7) hx hb hts iX7_readAnchor_X7 hown hK hP 33 cw_33 rfl 4 (by decide) (hts (.fieldLink RX7 56 RX7 "start" "I") (by decide +kernel)) (fun _ h9 => h9) rfl dX7_readAnchor_11 ?_
    refine va_put (D := D) (ci := 7) (v := .int (σ 33 4)) (ty := .int) (C := RX7) (T := TX7) (N := 7) hx hb hts iX7_readAnchor_X7 tyX7 tyX7_ok nmX7 hown hK hP (cw_D hap) hS 33 cw_33 rfl 6 (by decide) (hts (.fieldLink RX7 31 RX7 "fault" "I") (by decide +kernel)) (fun _ h9 => h9) rfl (by decide +kernel) rfl rfl (Nat.le_of_ble_eq_true rfl) dX7_readAnchor_14 (fun H locs hP _ hS => ?_)
    have hP := cw_s33_6 hP
    obtain ⟨σ2, e3, h⟩ := k_bd h
    rw [k_sm e3] at hP
    obtain rfl := k_sm h
    exact key _ _ _ hP hS (lv_sub hl [0, 1] rfl)
set_option maxHeartbeats 4000000 in
set_option maxRecDepth 100000 in
theorem kX7_readRope (l : Launch) {D : va_G} {cI cB cZ : ClassId} {ad : Nat → Nat} {τ : Int64} (hap : cwX ad) (σ : Sg) (o : Sg) (h : pX7_readRope σ = some o) : Met l yX7_readRope wsX7_readRope rmX7_readRope (va_Pc [.ref (ad 33), .ref (ad 10)] (PW D cI cB cZ (CW cI ad τ σ))) (QV D (CW cI ad τ) (cwA ad) o) 0 0 (cwA ad) := by
  refine Met.ofW (cc := cX7_readRope) (maxL := 4) (ret := none) (by decide) rfl ?_
  intro p e s m args below meth c s₁ B hml hv
  obtain ⟨rfl, hP, hK, hN⟩ := hv
  have C0 : Cx p s m _ meth c cX7_readRope 4 none RX7 wsX7_readRope := ⟨⟨B.exec, B.bytes, hml, findClass_of_methodNamed B.named, atoms_spec B.pre⟩, B.returns, B.notSynchronized⟩
  obtain ⟨⟨hx, hb, -, hown, hts⟩, hr, hlk⟩ := id C0
  have hS : va_S (cwA ad) s.heap s.heap [] := va_S.rf
  have hl := lv_entry ([.ref (ad 33), .ref (ad 10)]) (n := 4) (Nat.le_of_ble_eq_true rfl)
  rw [lg_entry_eq]
  generalize (lg_sl ([.ref (ad 33), .ref (ad 10)]) ++ List.replicate (4 - (lg_sl ([.ref (ad 33), .ref (ad 10)])).length) Slot.unset).toArray = ls at hl ⊢
  have hl : lv_has ls 4 [(0, .ref (ad 33)), (1, .ref (ad 10))] := hl
  rw [pX7_readRope] at h
  refine lv_aload_n hx hb dX7_readRope_0 rfl (lv_at hl 0 rfl) ?_
  refine lv_iconst (v := 0) hx hb dX7_readRope_1 (by decide) ?_
  refine lv_aload_n hx hb dX7_readRope_2 rfl (lv_at hl 1 rfl) ?_
  refine va_getN (D := D) (ci := 9) (v := .int (σ 10 7)) (C := RX9) (T := TX9) (N := 10) hx hb hts iX7_readRope_X9 hown hK hP 10 cw_10 rfl 7 (by decide) (va_Nw.use rfl (nf_X7_73 hN)) (fun _ h9 => h9) rfl dX7_readRope_3 ?_
  refine lv_iconst (v := 1) hx hb dX7_readRope_6 (by decide) ?_
  refine lv_isub hx hb dX7_readRope_7 ?_
  refine lv_iconst (v := (-1)) hx hb dX7_readRope_8 (by decide) ?_
  obtain ⟨u1, e2, h⟩ := k_bd h
  refine wr_calli (va_runV (As := [.int 0, .int ((σ 10 7) - 1), .int (-1)]) (rest := []) C0.1 (kX7_number l (D := D) (cI := cI) (cB := cB) (cZ := cZ) (τ := τ) hap σ 0 ((σ 10 7) - 1) (-1) _ e2) (wX7_readRope_X7_number hts ⟨Nat.le_of_ble_eq_true rfl, Nat.le_of_ble_eq_true rfl⟩) ⟨PW.blind, cw_r33 hK hP, PW.mk hP hK hN⟩ rfl rfl hl.1 rfl (lv_room (Nat.le_of_ble_eq_true rfl)) dX7_readRope_9 ⟨Nat.zero_le _, Nat.zero_le _⟩) hS (fun _ h => h) (fun H locs hP hS => ?_)
  have hP : va_P D vwCl (CW cI ad τ u1.2) H := hP
  refine lv_istore_n (lv' := [(2, .int u1.1), (0, .ref (ad 33)), (1, .ref (ad 10))]) hx hb dX7_readRope_12 rfl hl (by decide) rfl (fun ls hl => ?_)
  refine lv_aload_n hx hb dX7_readRope_13 rfl (lv_at hl 1 rfl) ?_
  refine lv_iconst (v := 0) hx hb dX7_readRope_14 (by decide) ?_
  refine lv_aload_n hx hb dX7_readRope_15 rfl (lv_at hl 2 rfl) ?_
  refine va_getN (D := D) (ci := 9) (v := .int (u1.2 10 7)) (C := RX9) (T := TX9) (N := 10) hx hb hts iX7_readRope_X9 hown hK hP 10 cw_10 rfl 7 (by decide) (va_Nw.use rfl (nf_X7_73 hN)) (fun _ h9 => h9) rfl dX7_readRope_16 ?_
  refine lv_iconst (v := 1) hx hb dX7_readRope_19 (by decide) ?_
  refine lv_isub hx hb dX7_readRope_20 ?_
  refine lv_iload_n hx hb dX7_readRope_21 rfl (lv_at hl 0 rfl) ?_
  obtain ⟨u3, e4, h⟩ := k_bd h
  refine wr_calli (va_runV (As := [.int 0, .int ((u1.2 10 7) - 1), .int u1.1]) (rest := []) C0.1 (kX7_number l (D := D) (cI := cI) (cB := cB) (cZ := cZ) (τ := τ) hap u1.2 0 ((u1.2 10 7) - 1) u1.1 _ e4) (wX7_readRope_X7_number hts ⟨Nat.le_of_ble_eq_true rfl, Nat.le_of_ble_eq_true rfl⟩) ⟨PW.blind, cw_r33 hK hP, PW.mk hP hK hN⟩ rfl rfl hl.1 rfl (lv_room (Nat.le_of_ble_eq_true rfl)) dX7_readRope_22 ⟨Nat.zero_le _, Nat.zero_le _⟩) hS (fun _ h => h) (fun H locs hP hS => ?_)
  have hP : va_P D vwCl (CW cI ad τ u3.2) H := hP
  refine lv_istore_n (lv' := [(3, .int u3.1), (2, .int u1.1), (0, .ref (ad 33)), (1, .ref (ad 10))]) hx hb dX7_readRope_25 rfl hl (by decide) rfl (fun ls hl => ?_)
  refine lv_aload_n hx hb dX7_readRope_26 rfl (lv_at hl 2 rfl) ?_
  obtain ⟨u5, e6, h⟩ := k_bd h
  refine wr_calli (va_runV (As := []) (rest := []) C0.1 (kX7_stops l (D := D) (cI := cI) (cB := cB) (cZ := cZ) (τ := τ) hap u3.2  _ e6) (wX7_readRope_X7_stops hts ⟨Nat.le_of_ble_eq_true rfl, Nat.le_of_ble_eq_true rfl⟩) ⟨PW.blind, cw_r33 hK hP, PW.mk hP hK hN⟩ rfl rfl hl.1 rfl (lv_room (Nat.le_of_ble_eq_true rfl)) dX7_readRope_27 ⟨Nat.zero_le _, Nat.zero_le _⟩) hS (fun _ h => h) (fun H locs hP hS => ?_)
  have hP : va_P D vwCl (CW cI ad τ u5.2) H := hP
  refine lv_if_eq (tgt := 39) hx hb dX7_readRope_30 (by decide) (fun c30 => ?_) (fun c30 => ?_)
  · replace h := k_ip c30 h
    obtain rfl := k_sm h
    exact W.vret hx hb hr (fun t ht hW => ⟨⟨_, rfl, rfl, pw_end ht hP⟩, hS.F ht⟩) hS.2.2 dX7_readRope_39
  · replace h := k_in c30 h
    refine lv_aload_n hx hb dX7_readRope_33 rfl (lv_at hl 3 rfl) ?_
    refine lv_iload_n hx hb dX7_readRope_34 rfl (lv_at hl 1 rfl) ?_
    refine lv_iload_n hx hb dX7_readRope_35 rfl (lv_at hl 0 rfl) ?_
    obtain ⟨u7, e8, h⟩ := k_bd h
    refine wr_callv (va_runVN (As := [.int u1.1, .int u3.1]) (rest := []) C0.1 (kX9_addRope l (D := D) (cI := cI) (cB := cB) (cZ := cZ) (τ := τ) hap u5.2 u1.1 u3.1 _ e8) (wX7_readRope_X9_addRope hts hN ⟨Nat.le_of_ble_eq_true rfl, Nat.le_of_ble_eq_true rfl⟩) ⟨PW.blind, cw_r10 hK hP, PW.mk hP hK hN⟩ rfl rfl hl.1 rfl (lv_room (Nat.le_of_ble_eq_true rfl)) dX7_readRope_36 ⟨Nat.zero_le _, Nat.zero_le _⟩) hS (fun _ h => h) (fun H locs hP hS => ?_)
    have hP : va_P D vwCl (CW cI ad τ u7) H := hP
    obtain rfl := k_sm h
    exact W.vret hx hb hr (fun t ht hW => ⟨⟨_, rfl, rfl, pw_end ht hP⟩, hS.F ht⟩) hS.2.2 dX7_readRope_39
set_option maxHeartbeats 4000000 in
set_option maxRecDepth 100000 in
theorem bX7_readInto_L18 {p : Program} {l : Launch} {e : Env} {s : State} {m : MethodId} {args : Array Value} {below : List Frame} {meth : Method} {c : Code} {D : va_G} {cI cB cZ : ClassId} {ad : Nat → Nat} (C0 : Cx p s m args meth c cX7_readInto 5 (some .int) RX7 wsX7_readInto) (hK : va_K D vwCl (tysA cI cB cZ) s) (hN : NW s) (hap : cwX ad) {τ : Int64}  : ∀ (n : Nat) (x2 : Int32) (x3 : Int32) (σ : Sg) (o : (Int32 × Sg)) (H : Heap) (locs : List Loc) (ls : Array Slot), va_P D vwCl (CW cI ad τ σ) H → va_S (cwA ad) s.heap H locs → lv_has ls 5 [(0, .ref (ad 33)), (1, .ref (ad 10)), (2, .int x2), (3, .int x3)] → pX7_readInto_L18  n x2 x3 σ = some o → W p l e rmX7_readInto s m args below meth c H locs 0 0 (MQ below (QI D (CW cI ad τ) (cwA ad) o.1 o.2) args s 0 0 (cwA ad)) (F0 m 18 ls []) := by
  obtain ⟨⟨hx, hb, hml, hown, hts⟩, hr, hlk⟩ := id C0
  intro n
  induction n with
  | zero =>
    intro x2 x3 σ o H locs ls hP hS hl h
    exact absurd h (by simp [pX7_readInto_L18])
  | succ n ih =>
    intro x2 x3 σ o H locs ls hP hS hl h
    rw [pX7_readInto_L18] at h
    refine lv_iload_n hx hb dX7_readInto_18 rfl (lv_at hl 3 rfl) ?_
    refine lv_sipush (v := 200) hx hb dX7_readInto_19 (by decide) ?_
    refine lv_icmp_ge (tgt := 165) hx hb dX7_readInto_22 (by decide) (fun c22 => ?_) (fun c22 => ?_)
    · replace h := k_ip c22 h
      refine lv_iload_n hx hb dX7_readInto_165 rfl (lv_at hl 2 rfl) ?_
      obtain rfl := k_sm h
      exact W.iret hx hb hr (fun t ht hW => ⟨⟨_, _, rfl, ⟨rfl, rfl⟩, pw_end ht hP⟩, hS.F ht⟩) hS.2.2 dX7_readInto_166
    · replace h := k_in c22 h
      refine lv_aload_n hx hb dX7_readInto_25 rfl (lv_at hl 0 rfl) ?_
      obtain ⟨u7, e8, h⟩ := k_bd h
      refine wr_callv (va_runV (As := []) (rest := []) C0.1 (kX7_nextToken l (D := D) (cI := cI) (cB := cB) (cZ := cZ) (τ := τ) hap σ  _ e8) (wX7_readInto_X7_nextToken hts ⟨Nat.le_of_ble_eq_true rfl, Nat.le_of_ble_eq_true rfl⟩) ⟨PW.blind, cw_r33 hK hP, PW.mk hP hK hN⟩ rfl rfl hl.1 rfl (lv_room (Nat.le_of_ble_eq_true rfl)) dX7_readInto_26 ⟨Nat.zero_le _, Nat.zero_le _⟩) hS (fun _ h => h) (fun H locs hP hS => ?_)
      have hP : va_P D vwCl (CW cI ad τ u7) H := hP
      refine lv_aload_n hx hb dX7_readInto_29 rfl (lv_at hl 0 rfl) ?_
      refine va_get (D := D) (ci := 7) (v := .int (u7 33 3)) (C := RX7) (T := TX7) (N := 7) hx hb hts iX7_readInto_X7 hown hK hP 33 cw_33 rfl 3 (by decide) (hts (.fieldLink RX7 37 RX7 "token" "I") (by decide +kernel)) (fun _ h9 => h9) rfl dX7_readInto_30 ?_
      refine lv_if_ne (tgt := 38) hx hb dX7_readInto_33 (by decide) (fun c33 => ?_) (fun c33 => ?_)
      · replace h := k_in c33 h
        refine lv_aload_n hx hb dX7_readInto_38 rfl (lv_at hl 0 rfl) ?_
        refine va_get (D := D) (ci := 7) (v := .int (u7 33 3)) (C := RX7) (T := TX7) (N := 7) hx hb hts iX7_readInto_X7 hown hK hP 33 cw_33 rfl 3 (by decide) (hts (.fieldLink RX7 37 RX7 "token" "I") (by decide +kernel)) (fun _ h9 => h9) rfl dX7_readInto_39 ?_
        refine lv_iconst (v := 1) hx hb dX7_readInto_42 (by decide) ?_
        obtain ⟨j9, e10, h⟩ := k_bd h
        have key : ∀ (H : Heap) (locs : List Loc) (ls : Array Slot), va_P D vwCl (CW cI ad τ u7) H → va_S (cwA ad) s.heap H locs → lv_has ls 5 [(0, .ref (ad 33)), (1, .ref (ad 10)), (2, .int x2), (3, .int x3)] → W p l e rmX7_readInto s m args below meth c H locs 0 0 (MQ below (QI D (CW cI ad τ) (cwA ad) o.1 o.2) args s 0 0 (cwA ad)) (F0 m 54 ls [.int j9]) := by
          intro H locs ls hP hS hl
          refine lv_istore (lv' := [(4, .int j9), (0, .ref (ad 33)), (1, .ref (ad 10)), (2, .int x2), (3, .int x3)]) hx hb dX7_readInto_54 hl (by decide) rfl (fun ls hl => ?_)
          refine lv_iload hx hb dX7_readInto_56 (lv_at hl 0 rfl) ?_
          obtain ⟨j11, e22, h⟩ := k_bd h
          have key : ∀ (H : Heap) (locs : List Loc) (ls : Array Slot), va_P D vwCl (CW cI ad τ j11) H → va_S (cwA ad) s.heap H locs → lv_has ls 5 [(0, .ref (ad 33)), (1, .ref (ad 10)), (2, .int x2), (3, .int x3)] → W p l e rmX7_readInto s m args below meth c H locs 0 0 (MQ below (QI D (CW cI ad τ) (cwA ad) o.1 o.2) args s 0 0 (cwA ad)) (F0 m 140 ls []) := by
            intro H locs ls hP hS hl
            refine lv_aload_n hx hb dX7_readInto_140 rfl (lv_at hl 0 rfl) ?_
            refine va_get (D := D) (ci := 7) (v := .int (j11 33 6)) (C := RX7) (T := TX7) (N := 7) hx hb hts iX7_readInto_X7 hown hK hP 33 cw_33 rfl 6 (by decide) (hts (.fieldLink RX7 31 RX7 "fault" "I") (by decide +kernel)) (fun _ h9 => h9) rfl dX7_readInto_141 ?_
            refine lv_iconst (v := (-1)) hx hb dX7_readInto_144 (by decide) ?_
            refine lv_icmp_eq (tgt := 156) hx hb dX7_readInto_145 (by decide) (fun c145 => ?_) (fun c145 => ?_)
            · replace h := k_ip c145 h
              refine lv_iinc (v := (x2 + 1)) (lv' := [(2, .int (x2 + 1)), (0, .ref (ad 33)), (1, .ref (ad 10)), (3, .int x3)]) hx hb dX7_readInto_156 hl (k := 2) rfl rfl (by decide) rfl (fun ls hl => ?_)
              refine lv_iinc (v := (x3 + 1)) (lv' := [(3, .int (x3 + 1)), (2, .int (x2 + 1)), (0, .ref (ad 33)), (1, .ref (ad 10))]) hx hb dX7_readInto_159 hl (k := 3) rfl rfl (by decide) rfl (fun ls hl => ?_)
              refine lv_goto (tgt := 18) hx hb dX7_readInto_162 (by decide) ?_
              exact ih (x2 + 1) (x3 + 1) j11 _ _ _ ls hP hS (lv_sub hl [2, 3, 1, 0] rfl) h
            · replace h := k_in c145 h
              refine lv_bipush (v := (-10)) hx hb dX7_readInto_148 (by decide) ?_
              refine lv_aload_n hx hb dX7_readInto_150 rfl (lv_at hl 0 rfl) ?_
              refine va_get (D := D) (ci := 7) (v := .int (j11 33 6)) (C := RX7) (T := TX7) (N := 7) hx hb hts iX7_readInto_X7 hown hK hP 33 cw_33 rfl 6 (by decide) (hts (.fieldLink RX7 31 RX7 "fault" "I") (by decide +kernel)) (fun _ h9 => h9) rfl dX7_readInto_151 ?_
              refine lv_isub hx hb dX7_readInto_154 ?_
              obtain rfl := k_sm h
              exact W.iret hx hb hr (fun t ht hW => ⟨⟨_, _, rfl, ⟨rfl, rfl⟩, pw_end ht hP⟩, hS.F ht⟩) hS.2.2 dX7_readInto_155
          clear h
          have h := e22
          clear e22
          by_cases c58_97 : j9 = 97
          · replace h := k_ip c58_97 h
            refine lv_lookup (tgt := 116) hx hb dX7_readInto_58 (by decide) (by rw [c58_97] <;> rfl) (by decide) ?_
            refine lv_aload_n hx hb dX7_readInto_116 rfl (lv_at hl 1 rfl) ?_
            refine lv_aload_n hx hb dX7_readInto_117 rfl (lv_at hl 2 rfl) ?_
            obtain ⟨u12, e13, h⟩ := k_bd h
            refine wr_callv (va_runV (As := [.ref (ad 10)]) (rest := []) C0.1 (kX7_readAnchor l (D := D) (cI := cI) (cB := cB) (cZ := cZ) (τ := τ) hap u7  _ e13) (wX7_readInto_X7_readAnchor hts ⟨Nat.le_of_ble_eq_true rfl, Nat.le_of_ble_eq_true rfl⟩) ⟨PW.blind, cw_r33 hK hP, PW.mk hP hK hN⟩ rfl rfl hl.1 rfl (lv_room (Nat.le_of_ble_eq_true rfl)) dX7_readInto_118 ⟨Nat.zero_le _, Nat.zero_le _⟩) hS (fun _ h => h) (fun H locs hP hS => ?_)
            have hP : va_P D vwCl (CW cI ad τ u12) H := hP
            refine lv_goto (tgt := 140) hx hb dX7_readInto_121 (by decide) ?_
            obtain rfl := k_sm h
            exact key _ _ _ hP hS (lv_sub hl [1, 2, 3, 4] rfl)
          replace h := k_in c58_97 h
          by_cases c58_99 : j9 = 99
          · replace h := k_ip c58_99 h
            refine lv_lookup (tgt := 100) hx hb dX7_readInto_58 (by decide) (by rw [c58_99] <;> rfl) (by decide) ?_
            refine lv_aload_n hx hb dX7_readInto_100 rfl (lv_at hl 1 rfl) ?_
            refine lv_aload_n hx hb dX7_readInto_101 rfl (lv_at hl 2 rfl) ?_
            obtain ⟨u14, e15, h⟩ := k_bd h
            refine wr_callv (va_runV (As := [.ref (ad 10)]) (rest := []) C0.1 (kX7_readCell l (D := D) (cI := cI) (cB := cB) (cZ := cZ) (τ := τ) hap u7  _ e15) (wX7_readInto_X7_readCell hts ⟨Nat.le_of_ble_eq_true rfl, Nat.le_of_ble_eq_true rfl⟩) ⟨PW.blind, cw_r33 hK hP, PW.mk hP hK hN⟩ rfl rfl hl.1 rfl (lv_room (Nat.le_of_ble_eq_true rfl)) dX7_readInto_102 ⟨Nat.zero_le _, Nat.zero_le _⟩) hS (fun _ h => h) (fun H locs hP hS => ?_)
            have hP : va_P D vwCl (CW cI ad τ u14) H := hP
            refine lv_goto (tgt := 140) hx hb dX7_readInto_105 (by decide) ?_
            obtain rfl := k_sm h
            exact key _ _ _ hP hS (lv_sub hl [1, 2, 3, 4] rfl)
          replace h := k_in c58_99 h
          by_cases c58_114 : j9 = 114
          · replace h := k_ip c58_114 h
            refine lv_lookup (tgt := 108) hx hb dX7_readInto_58 (by decide) (by rw [c58_114] <;> rfl) (by decide) ?_
            refine lv_aload_n hx hb dX7_readInto_108 rfl (lv_at hl 1 rfl) ?_
            refine lv_aload_n hx hb dX7_readInto_109 rfl (lv_at hl 2 rfl) ?_
            obtain ⟨u16, e17, h⟩ := k_bd h
            refine wr_callv (va_runV (As := [.ref (ad 10)]) (rest := []) C0.1 (kX7_readRaft l (D := D) (cI := cI) (cB := cB) (cZ := cZ) (τ := τ) hap u7  _ e17) (wX7_readInto_X7_readRaft hts ⟨Nat.le_of_ble_eq_true rfl, Nat.le_of_ble_eq_true rfl⟩) ⟨PW.blind, cw_r33 hK hP, PW.mk hP hK hN⟩ rfl rfl hl.1 rfl (lv_room (Nat.le_of_ble_eq_true rfl)) dX7_readInto_110 ⟨Nat.zero_le _, Nat.zero_le _⟩) hS (fun _ h => h) (fun H locs hP hS => ?_)
            have hP : va_P D vwCl (CW cI ad τ u16) H := hP
            refine lv_goto (tgt := 140) hx hb dX7_readInto_113 (by decide) ?_
            obtain rfl := k_sm h
            exact key _ _ _ hP hS (lv_sub hl [1, 2, 3, 4] rfl)
          replace h := k_in c58_114 h
          by_cases c58_116 : j9 = 116
          · replace h := k_ip c58_116 h
            refine lv_lookup (tgt := 124) hx hb dX7_readInto_58 (by decide) (by rw [c58_116] <;> rfl) (by decide) ?_
            refine lv_aload_n hx hb dX7_readInto_124 rfl (lv_at hl 1 rfl) ?_
            refine lv_aload_n hx hb dX7_readInto_125 rfl (lv_at hl 2 rfl) ?_
            obtain ⟨u18, e19, h⟩ := k_bd h
            refine wr_callv (va_runV (As := [.ref (ad 10)]) (rest := []) C0.1 (kX7_readRope l (D := D) (cI := cI) (cB := cB) (cZ := cZ) (τ := τ) hap u7  _ e19) (wX7_readInto_X7_readRope hts ⟨Nat.le_of_ble_eq_true rfl, Nat.le_of_ble_eq_true rfl⟩) ⟨PW.blind, cw_r33 hK hP, PW.mk hP hK hN⟩ rfl rfl hl.1 rfl (lv_room (Nat.le_of_ble_eq_true rfl)) dX7_readInto_126 ⟨Nat.zero_le _, Nat.zero_le _⟩) hS (fun _ h => h) (fun H locs hP hS => ?_)
            have hP : va_P D vwCl (CW cI ad τ u18) H := hP
            refine lv_goto (tgt := 140) hx hb dX7_readInto_129 (by decide) ?_
            obtain rfl := k_sm h
            exact key _ _ _ hP hS (lv_sub hl [1, 2, 3, 4] rfl)
          replace h := k_in c58_116 h
          refine lv_lookup (tgt := 132) hx hb dX7_readInto_58 (by decide) (off := 74) (by rw [lv_osw c58_97 (by decide), lv_osw c58_99 (by decide), lv_osw c58_114 (by decide), lv_osw c58_116 (by decide)] <;> rfl) (by decide) ?_
          refine lv_aload_n hx hb dX7_readInto_132 rfl (lv_at hl 1 rfl) ?_
          refine lv_aload_n hx hb dX7_readInto_133 rfl (lv_at hl 1 rfl) ?_
          refine va_get (D := D) (ci := 7) (v := .int (u7 33 4)) (C := RX7) (T := TX7) (N := 7) hx hb hts iX7_readInto_X7 hown hK hP 33 cw_33 rfl 4 (by decide) (hts (.fieldLink RX7 56 RX7 "start" "I") (by decide +kernel)) (fun _ h9 => h9) rfl dX7_readInto_134 ?_
          refine va_put (D := D) (ci := 7) (v := .int (u7 33 4)) (ty := .int) (C := RX7) (T := TX7) (N := 7) hx hb hts iX7_readInto_X7 tyX7 tyX7_ok nmX7 hown hK hP (cw_D hap) hS 33 cw_33 rfl 6 (by decide) (hts (.fieldLink RX7 31 RX7 "fault" "I") (by decide +kernel)) (fun _ h9 => h9) rfl (by decide +kernel) rfl rfl (Nat.le_of_ble_eq_true rfl) dX7_readInto_137 (fun H locs hP _ hS => ?_)
          have hP := cw_s33_6 hP
          obtain ⟨σ20, e21, h⟩ := k_bd h
          rw [k_sm e21] at hP
          obtain rfl := k_sm h
          exact key _ _ _ hP hS (lv_sub hl [1, 2, 3, 4] rfl)
        clear h
        have h := e10
        clear e10
        refine lv_icmp_ne (tgt := 53) hx hb dX7_readInto_43 (by decide) (fun c43 => ?_) (fun c43 => ?_)
        · replace h := k_in c43 h
          refine lv_iconst (v := 0) hx hb dX7_readInto_53 (by decide) ?_
          obtain rfl := k_sm h
          exact key _ _ _ hP hS (lv_sub hl [0, 1, 2, 3] rfl)
        · replace h := k_ip c43 h
          refine lv_aload_n hx hb dX7_readInto_46 rfl (lv_at hl 0 rfl) ?_
          refine va_get (D := D) (ci := 7) (v := .int (u7 33 5)) (C := RX7) (T := TX7) (N := 7) hx hb hts iX7_readInto_X7 hown hK hP 33 cw_33 rfl 5 (by decide) (hts (.fieldLink RX7 40 RX7 "value" "I") (by decide +kernel)) (fun _ h9 => h9) rfl dX7_readInto_47 ?_
          refine lv_goto (tgt := 54) hx hb dX7_readInto_50 (by decide) ?_
          obtain rfl := k_sm h
          exact key _ _ _ hP hS (lv_sub hl [0, 1, 2, 3] rfl)
      · replace h := k_ip c33 h
        refine lv_iload_n hx hb dX7_readInto_36 rfl (lv_at hl 2 rfl) ?_
        obtain rfl := k_sm h
        exact W.iret hx hb hr (fun t ht hW => ⟨⟨_, _, rfl, ⟨rfl, rfl⟩, pw_end ht hP⟩, hS.F ht⟩) hS.2.2 dX7_readInto_37
set_option maxHeartbeats 4000000 in
set_option maxRecDepth 100000 in
theorem kX7_readInto (l : Launch) {D : va_G} {cI cB cZ : ClassId} {ad : Nat → Nat} {τ : Int64} (hap : cwX ad) (σ : Sg) (o : (Int32 × Sg)) (h : pX7_readInto σ = some o) : Met l yX7_readInto wsX7_readInto rmX7_readInto (va_Pc [.ref (ad 33), .ref (ad 10)] (PW D cI cB cZ (CW cI ad τ σ))) (QI D (CW cI ad τ) (cwA ad) o.1 o.2) 0 0 (cwA ad) := by
  refine Met.ofW (cc := cX7_readInto) (maxL := 5) (ret := (some .int)) (by decide) rfl ?_
  intro p e s m args below meth c s₁ B hml hv
  obtain ⟨rfl, hP, hK, hN⟩ := hv
  have C0 : Cx p s m _ meth c cX7_readInto 5 (some .int) RX7 wsX7_readInto := ⟨⟨B.exec, B.bytes, hml, findClass_of_methodNamed B.named, atoms_spec B.pre⟩, B.returns, B.notSynchronized⟩
  obtain ⟨⟨hx, hb, -, hown, hts⟩, hr, hlk⟩ := id C0
  have hS : va_S (cwA ad) s.heap s.heap [] := va_S.rf
  have hl := lv_entry ([.ref (ad 33), .ref (ad 10)]) (n := 5) (Nat.le_of_ble_eq_true rfl)
  rw [lg_entry_eq]
  generalize (lg_sl ([.ref (ad 33), .ref (ad 10)]) ++ List.replicate (5 - (lg_sl ([.ref (ad 33), .ref (ad 10)])).length) Slot.unset).toArray = ls at hl ⊢
  have hl : lv_has ls 5 [(0, .ref (ad 33)), (1, .ref (ad 10))] := hl
  rw [pX7_readInto] at h
  refine lv_aload_n hx hb dX7_readInto_0 rfl (lv_at hl 1 rfl) ?_
  obtain ⟨u1, e2, h⟩ := k_bd h
  refine wr_callv (va_runVN (As := []) (rest := []) C0.1 (kX9_empties l (D := D) (cI := cI) (cB := cB) (cZ := cZ) (τ := τ) hap σ  _ e2) (wX7_readInto_X9_empties hts hN ⟨Nat.le_of_ble_eq_true rfl, Nat.le_of_ble_eq_true rfl⟩) ⟨PW.blind, cw_r10 hK hP, PW.mk hP hK hN⟩ rfl rfl hl.1 rfl (lv_room (Nat.le_of_ble_eq_true rfl)) dX7_readInto_1 ⟨Nat.zero_le _, Nat.zero_le _⟩) hS (fun _ h => h) (fun H locs hP hS => ?_)
  have hP : va_P D vwCl (CW cI ad τ u1) H := hP
  refine lv_aload_n hx hb dX7_readInto_4 rfl (lv_at hl 0 rfl) ?_
  refine lv_iconst (v := 0) hx hb dX7_readInto_5 (by decide) ?_
  refine va_put (D := D) (ci := 7) (v := .int 0) (ty := .int) (C := RX7) (T := TX7) (N := 7) hx hb hts iX7_readInto_X7 tyX7 tyX7_ok nmX7 hown hK hP (cw_D hap) hS 33 cw_33 rfl 2 (by decide) (hts (.fieldLink RX7 28 RX7 "place" "I") (by decide +kernel)) (fun _ h9 => h9) rfl (by decide +kernel) rfl rfl (Nat.le_of_ble_eq_true rfl) dX7_readInto_6 (fun H locs hP _ hS => ?_)
  have hP := cw_s33_2 hP
  obtain ⟨σ3, e4, h⟩ := k_bd h
  rw [k_sm e4] at hP
  refine lv_aload_n hx hb dX7_readInto_9 rfl (lv_at hl 0 rfl) ?_
  refine lv_iconst (v := (-1)) hx hb dX7_readInto_10 (by decide) ?_
  refine va_put (D := D) (ci := 7) (v := .int (-1)) (ty := .int) (C := RX7) (T := TX7) (N := 7) hx hb hts iX7_readInto_X7 tyX7 tyX7_ok nmX7 hown hK hP (cw_D hap) hS 33 cw_33 rfl 6 (by decide) (hts (.fieldLink RX7 31 RX7 "fault" "I") (by decide +kernel)) (fun _ h9 => h9) rfl (by decide +kernel) rfl rfl (Nat.le_of_ble_eq_true rfl) dX7_readInto_11 (fun H locs hP _ hS => ?_)
  have hP := cw_s33_6 hP
  obtain ⟨σ5, e6, h⟩ := k_bd h
  rw [k_sm e6] at hP
  refine lv_iconst (v := 0) hx hb dX7_readInto_14 (by decide) ?_
  refine lv_istore_n (lv' := [(2, .int 0), (0, .ref (ad 33)), (1, .ref (ad 10))]) hx hb dX7_readInto_15 rfl hl (by decide) rfl (fun ls hl => ?_)
  refine lv_iconst (v := 0) hx hb dX7_readInto_16 (by decide) ?_
  refine lv_istore_n (lv' := [(3, .int 0), (2, .int 0), (0, .ref (ad 33)), (1, .ref (ad 10))]) hx hb dX7_readInto_17 rfl hl (by decide) rfl (fun ls hl => ?_)
  exact bX7_readInto_L18 C0 hK hN hap  2000 0 0 σ5 _ _ _ ls hP hS (lv_sub hl [2, 3, 1, 0] rfl) h
