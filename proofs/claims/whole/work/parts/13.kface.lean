set_option maxHeartbeats 4000000 in
set_option maxRecDepth 100000 in
theorem kX10_type (l : Launch) {D : va_G} {cI cB cZ : ClassId} {ad : Nat → Nat} {τ : Int64} (hap : cwX ad) (σ : Sg) (x1 : Int32) (o : (Int32 × Sg)) (h : pX10_type σ x1 = some o) : Met l yX10_type wsX10_type rmX10_type (va_Pc [.ref (ad 0), .int x1] (PW D cI cB cZ (CW cI ad τ σ))) (QI D (CW cI ad τ) (cwA ad) o.1 o.2) 0 0 (cwA ad) := by
  refine Met.ofW (cc := cX10_type) (maxL := 2) (ret := (some .int)) (by decide) rfl ?_
  intro p e s m args below meth c s₁ B hml hv
  obtain ⟨rfl, hP, hK, hN⟩ := hv
  have C0 : Cx p s m _ meth c cX10_type 2 (some .int) RX10 wsX10_type := ⟨⟨B.exec, B.bytes, hml, findClass_of_methodNamed B.named, atoms_spec B.pre⟩, B.returns, B.notSynchronized⟩
  obtain ⟨⟨hx, hb, -, hown, hts⟩, hr, hlk⟩ := id C0
  have hS : va_S (cwA ad) s.heap s.heap [] := va_S.rf
  have hl := lv_entry ([.ref (ad 0), .int x1]) (n := 2) (Nat.le_of_ble_eq_true rfl)
  rw [lg_entry_eq]
  generalize (lg_sl ([.ref (ad 0), .int x1]) ++ List.replicate (2 - (lg_sl ([.ref (ad 0), .int x1])).length) Slot.unset).toArray = ls at hl ⊢
  have hl : lv_has ls 2 [(0, .ref (ad 0)), (1, .int x1)] := hl
  rw [pX10_type] at h
  refine lv_iload_n hx hb dX10_type_0 rfl (lv_at hl 1 rfl) ?_
  refine lv_iconst (v := 0) hx hb dX10_type_1 (by decide) ?_
  refine lv_sipush (v := 255) hx hb dX10_type_2 (by decide) ?_
  refine rd_calli (va_runS (As := [.int x1, .int 0, .int 255]) (rest := []) C0.1 (kX10_isOutside l x1 0 255) (wX10_type_X10_isOutside hts ⟨Nat.le_of_ble_eq_true rfl, Nat.le_of_ble_eq_true rfl⟩) ⟨PT.blind, fun _ _ _ => ⟨rfl, trivial⟩⟩ rfl rfl hl.1 rfl (lv_room (Nat.le_of_ble_eq_true rfl)) dX10_type_5 ⟨Nat.zero_le _, Nat.zero_le _⟩) ?_
  refine lv_if_eq (tgt := 13) hx hb dX10_type_8 (by decide) (fun c8 => ?_) (fun c8 => ?_)
  · replace h := k_ip c8 h
    refine lv_aload_n hx hb dX10_type_13 rfl (lv_at hl 0 rfl) ?_
    refine va_get (D := D) (ci := 10) (v := .ref (ad 33)) (C := RX10) (T := TX10) (N := 12) hx hb hts iX10_type_X10 hown hK hP 0 cw_0 rfl 6 (by decide) (hts (.fieldLink RX10 46 RX10 "reader" "LAnchorWills$Reader;") (by decide +kernel)) (fun _ h9 => h9) rfl dX10_type_14 ?_
    refine lv_iload_n hx hb dX10_type_17 rfl (lv_at hl 1 rfl) ?_
    obtain ⟨u1, e2, h⟩ := k_bd h
    refine wr_calli (va_runVN (As := [.int x1]) (rest := []) C0.1 (kX7_takes l (D := D) (cI := cI) (cB := cB) (cZ := cZ) (τ := τ) hap σ x1 _ e2) (wX10_type_X7_takes hts hN ⟨Nat.le_of_ble_eq_true rfl, Nat.le_of_ble_eq_true rfl⟩) ⟨PW.blind, cw_r33 hK hP, PW.mk hP hK hN⟩ rfl rfl hl.1 rfl (lv_room (Nat.le_of_ble_eq_true rfl)) dX10_type_18 ⟨Nat.zero_le _, Nat.zero_le _⟩) hS (fun _ h => h) (fun H locs hP hS => ?_)
    have hP : va_P D vwCl (CW cI ad τ u1.2) H := hP
    refine lv_if_eq (tgt := 34) hx hb dX10_type_21 (by decide) (fun c21 => ?_) (fun c21 => ?_)
    · replace h := k_ip c21 h
      refine lv_bipush (v := (-3)) hx hb dX10_type_34 (by decide) ?_
      obtain rfl := k_sm h
      exact W.iret hx hb hr (fun t ht hW => ⟨⟨_, _, rfl, ⟨rfl, rfl⟩, pw_end ht hP⟩, hS.F ht⟩) hS.2.2 dX10_type_36
    · replace h := k_in c21 h
      refine lv_aload_n hx hb dX10_type_24 rfl (lv_at hl 0 rfl) ?_
      refine va_get (D := D) (ci := 10) (v := .ref (ad 33)) (C := RX10) (T := TX10) (N := 12) hx hb hts iX10_type_X10 hown hK hP 0 cw_0 rfl 6 (by decide) (hts (.fieldLink RX10 46 RX10 "reader" "LAnchorWills$Reader;") (by decide +kernel)) (fun _ h9 => h9) rfl dX10_type_25 ?_
      refine va_getN (D := D) (ci := 7) (v := .int (u1.2 33 1)) (C := RX7) (T := TX7) (N := 7) hx hb hts iX10_type_X7 hown hK hP 33 cw_33 rfl 1 (by decide) (va_Nw.use rfl (nf_X10_95 hN)) (fun _ h9 => h9) rfl dX10_type_28 ?_
      refine lv_goto (tgt := 36) hx hb dX10_type_31 (by decide) ?_
      obtain rfl := k_sm h
      exact W.iret hx hb hr (fun t ht hW => ⟨⟨_, _, rfl, ⟨rfl, rfl⟩, pw_end ht hP⟩, hS.F ht⟩) hS.2.2 dX10_type_36
  · replace h := k_in c8 h
    refine lv_iconst (v := (-1)) hx hb dX10_type_11 (by decide) ?_
    obtain rfl := k_sm h
    exact W.iret hx hb hr (fun t ht hW => ⟨⟨_, _, rfl, ⟨rfl, rfl⟩, pw_end ht hP⟩, hS.F ht⟩) hS.2.2 dX10_type_12
set_option maxHeartbeats 4000000 in
set_option maxRecDepth 100000 in
theorem kX10_clear (l : Launch) {D : va_G} {cI cB cZ : ClassId} {ad : Nat → Nat} {τ : Int64} (hap : cwX ad) (σ : Sg) (o : (Int32 × Sg)) (h : pX10_clear σ = some o) : Met l yX10_clear wsX10_clear rmX10_clear (va_Pc [.ref (ad 0)] (PW D cI cB cZ (CW cI ad τ σ))) (QI D (CW cI ad τ) (cwA ad) o.1 o.2) 0 0 (cwA ad) := by
  refine Met.ofW (cc := cX10_clear) (maxL := 2) (ret := (some .int)) (by decide) rfl ?_
  intro p e s m args below meth c s₁ B hml hv
  obtain ⟨rfl, hP, hK, hN⟩ := hv
  have C0 : Cx p s m _ meth c cX10_clear 2 (some .int) RX10 wsX10_clear := ⟨⟨B.exec, B.bytes, hml, findClass_of_methodNamed B.named, atoms_spec B.pre⟩, B.returns, B.notSynchronized⟩
  obtain ⟨⟨hx, hb, -, hown, hts⟩, hr, hlk⟩ := id C0
  have hS : va_S (cwA ad) s.heap s.heap [] := va_S.rf
  have hl := lv_entry ([.ref (ad 0)]) (n := 2) (Nat.le_of_ble_eq_true rfl)
  rw [lg_entry_eq]
  generalize (lg_sl ([.ref (ad 0)]) ++ List.replicate (2 - (lg_sl ([.ref (ad 0)])).length) Slot.unset).toArray = ls at hl ⊢
  have hl : lv_has ls 2 [(0, .ref (ad 0))] := hl
  rw [pX10_clear] at h
  refine lv_aload_n hx hb dX10_clear_0 rfl (lv_at hl 0 rfl) ?_
  refine va_get (D := D) (ci := 10) (v := .ref (ad 33)) (C := RX10) (T := TX10) (N := 12) hx hb hts iX10_clear_X10 hown hK hP 0 cw_0 rfl 6 (by decide) (hts (.fieldLink RX10 46 RX10 "reader" "LAnchorWills$Reader;") (by decide +kernel)) (fun _ h9 => h9) rfl dX10_clear_1 ?_
  refine va_getN (D := D) (ci := 7) (v := .int (σ 33 1)) (C := RX7) (T := TX7) (N := 7) hx hb hts iX10_clear_X7 hown hK hP 33 cw_33 rfl 1 (by decide) (va_Nw.use rfl (nf_X10_95 hN)) (fun _ h9 => h9) rfl dX10_clear_4 ?_
  obtain ⟨v1, e2, h⟩ := k_bd h
  refine lv_nmi (k_sm e2) ?_
  refine lv_istore_n (lv' := [(1, .int v1), (0, .ref (ad 0))]) hx hb dX10_clear_7 rfl hl (by decide) rfl (fun ls hl => ?_)
  refine lv_aload_n hx hb dX10_clear_8 rfl (lv_at hl 1 rfl) ?_
  refine va_get (D := D) (ci := 10) (v := .ref (ad 33)) (C := RX10) (T := TX10) (N := 12) hx hb hts iX10_clear_X10 hown hK hP 0 cw_0 rfl 6 (by decide) (hts (.fieldLink RX10 46 RX10 "reader" "LAnchorWills$Reader;") (by decide +kernel)) (fun _ h9 => h9) rfl dX10_clear_9 ?_
  refine lv_iconst (v := 0) hx hb dX10_clear_12 (by decide) ?_
  refine va_putN (D := D) (ci := 7) (v := .int 0) (ty := .int) (C := RX7) (T := TX7) (N := 7) hx hb hts iX10_clear_X7 tyX7 tyX7_ok nmX7 hown hK hP (cw_D hap) hS 33 cw_33 rfl 1 (by decide) (va_Nw.use rfl (nf_X10_95 hN)) (fun _ h9 => h9) rfl (by decide +kernel) rfl rfl (Nat.le_of_ble_eq_true rfl) dX10_clear_13 (fun H locs hP _ hS => ?_)
  have hP := cw_s33_1 hP
  obtain ⟨σ3, e4, h⟩ := k_bd h
  rw [k_sm e4] at hP
  refine lv_iload_n hx hb dX10_clear_16 rfl (lv_at hl 0 rfl) ?_
  obtain rfl := k_sm h
  exact W.iret hx hb hr (fun t ht hW => ⟨⟨_, _, rfl, ⟨rfl, rfl⟩, pw_end ht hP⟩, hS.F ht⟩) hS.2.2 dX10_clear_17
set_option maxHeartbeats 4000000 in
set_option maxRecDepth 100000 in
theorem kX10_town (l : Launch) {D : va_G} {cI cB cZ : ClassId} {ad : Nat → Nat} {τ : Int64} (hap : cwX ad) (σ : Sg) (o : (Int32 × Sg)) (h : pX10_town σ = some o) : Met l yX10_town wsX10_town rmX10_town (va_Pc [.ref (ad 0)] (PW D cI cB cZ (CW cI ad τ σ))) (QI D (CW cI ad τ) (cwA ad) o.1 o.2) 0 0 (cwA ad) := by
  refine Met.ofW (cc := cX10_town) (maxL := 2) (ret := (some .int)) (by decide) rfl ?_
  intro p e s m args below meth c s₁ B hml hv
  obtain ⟨rfl, hP, hK, hN⟩ := hv
  have C0 : Cx p s m _ meth c cX10_town 2 (some .int) RX10 wsX10_town := ⟨⟨B.exec, B.bytes, hml, findClass_of_methodNamed B.named, atoms_spec B.pre⟩, B.returns, B.notSynchronized⟩
  obtain ⟨⟨hx, hb, -, hown, hts⟩, hr, hlk⟩ := id C0
  have hS : va_S (cwA ad) s.heap s.heap [] := va_S.rf
  have hl := lv_entry ([.ref (ad 0)]) (n := 2) (Nat.le_of_ble_eq_true rfl)
  rw [lg_entry_eq]
  generalize (lg_sl ([.ref (ad 0)]) ++ List.replicate (2 - (lg_sl ([.ref (ad 0)])).length) Slot.unset).toArray = ls at hl ⊢
  have hl : lv_has ls 2 [(0, .ref (ad 0))] := hl
  rw [pX10_town] at h
  refine lv_aload_n hx hb dX10_town_0 rfl (lv_at hl 0 rfl) ?_
  refine va_get (D := D) (ci := 10) (v := .ref (ad 33)) (C := RX10) (T := TX10) (N := 12) hx hb hts iX10_town_X10 hown hK hP 0 cw_0 rfl 6 (by decide) (hts (.fieldLink RX10 46 RX10 "reader" "LAnchorWills$Reader;") (by decide +kernel)) (fun _ h9 => h9) rfl dX10_town_1 ?_
  refine lv_aload_n hx hb dX10_town_4 rfl (lv_at hl 0 rfl) ?_
  refine va_get (D := D) (ci := 10) (v := .ref (ad 10)) (C := RX10) (T := TX10) (N := 12) hx hb hts iX10_town_X10 hown hK hP 0 cw_0 rfl 1 (by decide) (hts (.fieldLink RX10 16 RX10 "draft" "LAnchorWills$Told;") (by decide +kernel)) (fun _ h9 => h9) rfl dX10_town_5 ?_
  obtain ⟨u1, e2, h⟩ := k_bd h
  refine wr_calli (va_runVN (As := [.ref (ad 10)]) (rest := []) C0.1 (kX7_readInto l (D := D) (cI := cI) (cB := cB) (cZ := cZ) (τ := τ) hap σ  _ e2) (wX10_town_X7_readInto hts hN ⟨Nat.le_of_ble_eq_true rfl, Nat.le_of_ble_eq_true rfl⟩) ⟨PW.blind, cw_r33 hK hP, PW.mk hP hK hN⟩ rfl rfl hl.1 rfl (lv_room (Nat.le_of_ble_eq_true rfl)) dX10_town_8 ⟨Nat.zero_le _, Nat.zero_le _⟩) hS (fun _ h => h) (fun H locs hP hS => ?_)
  have hP : va_P D vwCl (CW cI ad τ u1.2) H := hP
  refine lv_istore_n (lv' := [(1, .int u1.1), (0, .ref (ad 0))]) hx hb dX10_town_11 rfl hl (by decide) rfl (fun ls hl => ?_)
  refine lv_iload_n hx hb dX10_town_12 rfl (lv_at hl 0 rfl) ?_
  refine lv_if_ge (tgt := 18) hx hb dX10_town_13 (by decide) (fun c13 => ?_) (fun c13 => ?_)
  · replace h := k_ip c13 h
    refine lv_aload_n hx hb dX10_town_18 rfl (lv_at hl 1 rfl) ?_
    refine va_get (D := D) (ci := 10) (v := .ref (ad 1)) (C := RX10) (T := TX10) (N := 12) hx hb hts iX10_town_X10 hown hK hP 0 cw_0 rfl 0 (by decide) (hts (.fieldLink RX10 10 RX10 "told" "LAnchorWills$Told;") (by decide +kernel)) (fun _ h9 => h9) rfl dX10_town_19 ?_
    refine lv_aload_n hx hb dX10_town_22 rfl (lv_at hl 1 rfl) ?_
    refine va_get (D := D) (ci := 10) (v := .ref (ad 10)) (C := RX10) (T := TX10) (N := 12) hx hb hts iX10_town_X10 hown hK hP 0 cw_0 rfl 1 (by decide) (hts (.fieldLink RX10 16 RX10 "draft" "LAnchorWills$Told;") (by decide +kernel)) (fun _ h9 => h9) rfl dX10_town_23 ?_
    obtain ⟨u3, e4, h⟩ := k_bd h
    refine wr_callv (va_runVN (As := [.ref (ad 10)]) (rest := []) C0.1 (kX9_becomes l (D := D) (cI := cI) (cB := cB) (cZ := cZ) (τ := τ) hap u1.2  _ e4) (wX10_town_X9_becomes hts hN ⟨Nat.le_of_ble_eq_true rfl, Nat.le_of_ble_eq_true rfl⟩) ⟨PW.blind, cw_r1 hK hP, PW.mk hP hK hN⟩ rfl rfl hl.1 rfl (lv_room (Nat.le_of_ble_eq_true rfl)) dX10_town_26 ⟨Nat.zero_le _, Nat.zero_le _⟩) hS (fun _ h => h) (fun H locs hP hS => ?_)
    have hP : va_P D vwCl (CW cI ad τ u3) H := hP
    refine lv_aload_n hx hb dX10_town_29 rfl (lv_at hl 1 rfl) ?_
    refine va_get (D := D) (ci := 10) (v := .ref (ad 19)) (C := RX10) (T := TX10) (N := 12) hx hb hts iX10_town_X10 hown hK hP 0 cw_0 rfl 2 (by decide) (hts (.fieldLink RX10 22 RX10 "now" "LAnchorWills$Now;") (by decide +kernel)) (fun _ h9 => h9) rfl dX10_town_30 ?_
    refine lv_aload_n hx hb dX10_town_33 rfl (lv_at hl 1 rfl) ?_
    refine va_get (D := D) (ci := 10) (v := .ref (ad 1)) (C := RX10) (T := TX10) (N := 12) hx hb hts iX10_town_X10 hown hK hP 0 cw_0 rfl 0 (by decide) (hts (.fieldLink RX10 10 RX10 "told" "LAnchorWills$Told;") (by decide +kernel)) (fun _ h9 => h9) rfl dX10_town_34 ?_
    refine va_getN (D := D) (ci := 9) (v := .ref (ad 8)) (C := RX9) (T := TX9) (N := 10) hx hb hts iX10_town_X9 hown hK hP 1 cw_1 rfl 6 (by decide) (va_Nw.use rfl (nf_X10_107 hN)) (fun _ h9 => h9) rfl dX10_town_37 ?_
    obtain ⟨u5, e6, h⟩ := k_bd h
    refine wr_callv (va_runVN (As := [.ref (ad 8)]) (rest := []) C0.1 (kX5_becomes_20_9 l (D := D) (cI := cI) (cB := cB) (cZ := cZ) (τ := τ) hap u3  _ e6) (wX10_town_X5_becomes hts hN ⟨Nat.le_of_ble_eq_true rfl, Nat.le_of_ble_eq_true rfl⟩) ⟨PW.blind, cw_r19 hK hP, PW.mk hP hK hN⟩ rfl rfl hl.1 rfl (lv_room (Nat.le_of_ble_eq_true rfl)) dX10_town_40 ⟨Nat.zero_le _, Nat.zero_le _⟩) hS (fun _ h => h) (fun H locs hP hS => ?_)
    have hP : va_P D vwCl (CW cI ad τ u5) H := hP
    refine lv_aload_n hx hb dX10_town_43 rfl (lv_at hl 1 rfl) ?_
    refine va_get (D := D) (ci := 10) (v := .ref (ad 21)) (C := RX10) (T := TX10) (N := 12) hx hb hts iX10_town_X10 hown hK hP 0 cw_0 rfl 3 (by decide) (hts (.fieldLink RX10 29 RX10 "past" "LAnchorWills$Past;") (by decide +kernel)) (fun _ h9 => h9) rfl dX10_town_44 ?_
    refine lv_iconst (v := 0) hx hb dX10_town_47 (by decide) ?_
    refine va_putN (D := D) (ci := 6) (v := .int 0) (ty := .int) (C := RX6) (T := TX6) (N := 2) hx hb hts iX10_town_X6 tyX6 tyX6_ok nmX6 hown hK hP (cw_D hap) hS 21 cw_21 rfl 1 (by decide) (va_Nw.use rfl (nf_X10_113 hN)) (fun _ h9 => h9) rfl (by decide +kernel) rfl rfl (Nat.le_of_ble_eq_true rfl) dX10_town_48 (fun H locs hP _ hS => ?_)
    have hP := cw_s21_1 hP
    obtain ⟨σ7, e8, h⟩ := k_bd h
    rw [k_sm e8] at hP
    refine lv_aload_n hx hb dX10_town_51 rfl (lv_at hl 1 rfl) ?_
    refine va_get (D := D) (ci := 10) (v := .ref (ad 43)) (C := RX10) (T := TX10) (N := 12) hx hb hts iX10_town_X10 hown hK hP 0 cw_0 rfl 10 (by decide) (hts (.fieldLink RX10 76 RX10 "heard" "LAnchorWills$Heard;") (by decide +kernel)) (fun _ h9 => h9) rfl dX10_town_52 ?_
    refine lv_iconst (v := 0) hx hb dX10_town_55 (by decide) ?_
    refine va_putN (D := D) (ci := 1) (v := .int 0) (ty := .int) (C := RX1) (T := TX1) (N := 6) hx hb hts iX10_town_X1 tyX1 tyX1_ok nmX1 hown hK hP (cw_D hap) hS 43 cw_43 rfl 5 (by decide) (va_Nw.use rfl (nf_X10_116 hN)) (fun _ h9 => h9) rfl (by decide +kernel) rfl rfl (Nat.le_of_ble_eq_true rfl) dX10_town_56 (fun H locs hP _ hS => ?_)
    have hP := cw_s43_5 hP
    obtain ⟨σ9, e10, h⟩ := k_bd h
    rw [k_sm e10] at hP
    refine lv_aload_n hx hb dX10_town_59 rfl (lv_at hl 1 rfl) ?_
    refine va_get (D := D) (ci := 10) (v := .ref (ad 23)) (C := RX10) (T := TX10) (N := 12) hx hb hts iX10_town_X10 hown hK hP 0 cw_0 rfl 4 (by decide) (hts (.fieldLink RX10 36 RX10 "firstImage" "LAnchorWills$Image;") (by decide +kernel)) (fun _ h9 => h9) rfl dX10_town_60 ?_
    refine lv_iconst (v := 0) hx hb dX10_town_63 (by decide) ?_
    refine va_putN (D := D) (ci := 3) (v := .int 0) (ty := .boolean) (C := RX3) (T := TX3) (N := 3) hx hb hts iX10_town_X3 tyX3 tyX3_ok nmX3 hown hK hP (cw_D hap) hS 23 cw_23 rfl 2 (by decide) (va_Nw.use rfl (nf_X10_117 hN)) (fun _ h9 => h9) rfl (by decide +kernel) rfl rfl (Nat.le_of_ble_eq_true rfl) dX10_town_64 (fun H locs hP _ hS => ?_)
    have hP := cw_s23_2 hP
    obtain ⟨σ11, e12, h⟩ := k_bd h
    rw [k_sm e12] at hP
    refine lv_aload_n hx hb dX10_town_67 rfl (lv_at hl 1 rfl) ?_
    refine va_get (D := D) (ci := 10) (v := .ref (ad 28)) (C := RX10) (T := TX10) (N := 12) hx hb hts iX10_town_X10 hown hK hP 0 cw_0 rfl 5 (by decide) (hts (.fieldLink RX10 40 RX10 "secondImage" "LAnchorWills$Image;") (by decide +kernel)) (fun _ h9 => h9) rfl dX10_town_68 ?_
    refine lv_iconst (v := 0) hx hb dX10_town_71 (by decide) ?_
    refine va_putN (D := D) (ci := 3) (v := .int 0) (ty := .boolean) (C := RX3) (T := TX3) (N := 3) hx hb hts iX10_town_X3 tyX3 tyX3_ok nmX3 hown hK hP (cw_D hap) hS 28 cw_28 rfl 2 (by decide) (va_Nw.use rfl (nf_X10_117 hN)) (fun _ h9 => h9) rfl (by decide +kernel) rfl rfl (Nat.le_of_ble_eq_true rfl) dX10_town_72 (fun H locs hP _ hS => ?_)
    have hP := cw_s28_2 hP
    obtain ⟨σ13, e14, h⟩ := k_bd h
    rw [k_sm e14] at hP
    refine lv_aload_n hx hb dX10_town_75 rfl (lv_at hl 1 rfl) ?_
    refine va_get (D := D) (ci := 10) (v := .ref (ad 33)) (C := RX10) (T := TX10) (N := 12) hx hb hts iX10_town_X10 hown hK hP 0 cw_0 rfl 6 (by decide) (hts (.fieldLink RX10 46 RX10 "reader" "LAnchorWills$Reader;") (by decide +kernel)) (fun _ h9 => h9) rfl dX10_town_76 ?_
    refine lv_iconst (v := 0) hx hb dX10_town_79 (by decide) ?_
    refine va_putN (D := D) (ci := 7) (v := .int 0) (ty := .int) (C := RX7) (T := TX7) (N := 7) hx hb hts iX10_town_X7 tyX7 tyX7_ok nmX7 hown hK hP (cw_D hap) hS 33 cw_33 rfl 1 (by decide) (va_Nw.use rfl (nf_X10_95 hN)) (fun _ h9 => h9) rfl (by decide +kernel) rfl rfl (Nat.le_of_ble_eq_true rfl) dX10_town_80 (fun H locs hP _ hS => ?_)
    have hP := cw_s33_1 hP
    obtain ⟨σ15, e16, h⟩ := k_bd h
    rw [k_sm e16] at hP
    refine lv_iload_n hx hb dX10_town_83 rfl (lv_at hl 0 rfl) ?_
    obtain rfl := k_sm h
    exact W.iret hx hb hr (fun t ht hW => ⟨⟨_, _, rfl, ⟨rfl, rfl⟩, pw_end ht hP⟩, hS.F ht⟩) hS.2.2 dX10_town_84
  · replace h := k_in c13 h
    refine lv_iload_n hx hb dX10_town_16 rfl (lv_at hl 0 rfl) ?_
    obtain rfl := k_sm h
    exact W.iret hx hb hr (fun t ht hW => ⟨⟨_, _, rfl, ⟨rfl, rfl⟩, pw_end ht hP⟩, hS.F ht⟩) hS.2.2 dX10_town_17
set_option maxHeartbeats 4000000 in
set_option maxRecDepth 100000 in
theorem kX10_cell (l : Launch) {D : va_G} {cI cB cZ : ClassId} {ad : Nat → Nat} {τ : Int64} (σ : Sg) (x1 : Int32) (x2 : Int32) (o : Int32) (h : pX10_cell σ x1 x2 = some o) : Met l yX10_cell wsX10_cell rmX10_cell (va_Pc [.ref (ad 0), .int x1, .int x2] (PW D cI cB cZ (CW cI ad τ σ))) (QcRead o) 0 0 (fun _ => False) := by
  refine Met.ofW (cc := cX10_cell) (maxL := 3) (ret := (some .int)) (by decide) rfl ?_
  intro p e s m args below meth c s₁ B hml hv
  obtain ⟨rfl, hP, hK, hN⟩ := hv
  have C0 : Cx p s m _ meth c cX10_cell 3 (some .int) RX10 wsX10_cell := ⟨⟨B.exec, B.bytes, hml, findClass_of_methodNamed B.named, atoms_spec B.pre⟩, B.returns, B.notSynchronized⟩
  obtain ⟨⟨hx, hb, -, hown, hts⟩, hr, hlk⟩ := id C0
  have hl := lv_entry ([.ref (ad 0), .int x1, .int x2]) (n := 3) (Nat.le_of_ble_eq_true rfl)
  rw [lg_entry_eq]
  generalize (lg_sl ([.ref (ad 0), .int x1, .int x2]) ++ List.replicate (3 - (lg_sl ([.ref (ad 0), .int x1, .int x2])).length) Slot.unset).toArray = ls at hl ⊢
  have hl : lv_has ls 3 [(0, .ref (ad 0)), (1, .int x1), (2, .int x2)] := hl
  rw [pX10_cell] at h
  refine lv_iload_n hx hb dX10_cell_0 rfl (lv_at hl 1 rfl) ?_
  refine lv_iconst (v := 0) hx hb dX10_cell_1 (by decide) ?_
  refine lv_bipush (v := 9) hx hb dX10_cell_2 (by decide) ?_
  refine rd_calli (va_runS (As := [.int x1, .int 0, .int 9]) (rest := []) C0.1 (kX10_isOutside l x1 0 9) (wX10_cell_X10_isOutside hts ⟨Nat.le_of_ble_eq_true rfl, Nat.le_of_ble_eq_true rfl⟩) ⟨PT.blind, fun _ _ _ => ⟨rfl, trivial⟩⟩ rfl rfl hl.1 rfl (lv_room (Nat.le_of_ble_eq_true rfl)) dX10_cell_4 ⟨Nat.zero_le _, Nat.zero_le _⟩) ?_
  refine lv_if_ne (tgt := 19) hx hb dX10_cell_7 (by decide) (fun c7 => ?_) (fun c7 => ?_)
  · replace h := k_in c7 h
    refine lv_iconst (v := (-1)) hx hb dX10_cell_19 (by decide) ?_
    obtain rfl := k_sm h
    exact W.iret hx hb hr (fun t ht hW => ⟨rfl, ht⟩) (fun _ h => by cases h) dX10_cell_20
  · replace h := k_ip c7 h
    refine lv_iload_n hx hb dX10_cell_10 rfl (lv_at hl 2 rfl) ?_
    refine lv_iconst (v := 0) hx hb dX10_cell_11 (by decide) ?_
    refine lv_iconst (v := 2) hx hb dX10_cell_12 (by decide) ?_
    refine rd_calli (va_runS (As := [.int x2, .int 0, .int 2]) (rest := []) C0.1 (kX10_isOutside l x2 0 2) (wX10_cell_X10_isOutside hts ⟨Nat.le_of_ble_eq_true rfl, Nat.le_of_ble_eq_true rfl⟩) ⟨PT.blind, fun _ _ _ => ⟨rfl, trivial⟩⟩ rfl rfl hl.1 rfl (lv_room (Nat.le_of_ble_eq_true rfl)) dX10_cell_13 ⟨Nat.zero_le _, Nat.zero_le _⟩) ?_
    refine lv_if_eq (tgt := 21) hx hb dX10_cell_16 (by decide) (fun c16 => ?_) (fun c16 => ?_)
    · replace h := k_ip c16 h
      refine lv_iload_n hx hb dX10_cell_21 rfl (lv_at hl 2 rfl) ?_
      by_cases c22_0 : x2 = 0
      · replace h := k_ip c22_0 h
        refine lv_lookup (tgt := 48) hx hb dX10_cell_22 (by decide) (by rw [c22_0] <;> rfl) (by decide) ?_
        refine lv_aload_n hx hb dX10_cell_48 rfl (lv_at hl 0 rfl) ?_
        refine va_get (D := D) (ci := 10) (v := .ref (ad 1)) (C := RX10) (T := TX10) (N := 12) hx hb hts iX10_cell_X10 hown hK hP 0 cw_0 rfl 0 (by decide) (hts (.fieldLink RX10 10 RX10 "told" "LAnchorWills$Told;") (by decide +kernel)) (fun _ h9 => h9) rfl dX10_cell_49 ?_
        refine va_getN (D := D) (ci := 9) (v := .ref (ad 2)) (C := RX9) (T := TX9) (N := 10) hx hb hts iX10_cell_X9 hown hK hP 1 cw_1 rfl 0 (by decide) (va_Nw.use rfl (nf_X10_121 hN)) (fun _ h9 => h9) rfl dX10_cell_52 ?_
        refine lv_iload_n hx hb dX10_cell_55 rfl (lv_at hl 1 rfl) ?_
        refine rd_calli (va_runS (As := [.ref (ad 2), .int x1]) (rest := []) C0.1 (kX10_at l (ad 2) 10 (σ 2) x1 (by decide)) (wX10_cell_X10_at hts ⟨Nat.le_of_ble_eq_true rfl, Nat.le_of_ble_eq_true rfl⟩) ⟨PAt.blind, PAt.mk (cw_t2 hK hP)⟩ rfl rfl hl.1 rfl (lv_room (Nat.le_of_ble_eq_true rfl)) dX10_cell_56 ⟨Nat.zero_le _, Nat.zero_le _⟩) ?_
        obtain rfl := k_sm h
        exact W.iret hx hb hr (fun t ht hW => ⟨rfl, ht⟩) (fun _ h => by cases h) dX10_cell_59
      replace h := k_in c22_0 h
      by_cases c22_1 : x2 = 1
      · replace h := k_ip c22_1 h
        refine lv_lookup (tgt := 60) hx hb dX10_cell_22 (by decide) (by rw [c22_1] <;> rfl) (by decide) ?_
        refine lv_aload_n hx hb dX10_cell_60 rfl (lv_at hl 0 rfl) ?_
        refine va_get (D := D) (ci := 10) (v := .ref (ad 1)) (C := RX10) (T := TX10) (N := 12) hx hb hts iX10_cell_X10 hown hK hP 0 cw_0 rfl 0 (by decide) (hts (.fieldLink RX10 10 RX10 "told" "LAnchorWills$Told;") (by decide +kernel)) (fun _ h9 => h9) rfl dX10_cell_61 ?_
        refine va_getN (D := D) (ci := 9) (v := .ref (ad 3)) (C := RX9) (T := TX9) (N := 10) hx hb hts iX10_cell_X9 hown hK hP 1 cw_1 rfl 1 (by decide) (va_Nw.use rfl (nf_X10_129 hN)) (fun _ h9 => h9) rfl dX10_cell_64 ?_
        refine lv_iload_n hx hb dX10_cell_67 rfl (lv_at hl 1 rfl) ?_
        refine rd_calli (va_runS (As := [.ref (ad 3), .int x1]) (rest := []) C0.1 (kX10_at l (ad 3) 10 (σ 3) x1 (by decide)) (wX10_cell_X10_at hts ⟨Nat.le_of_ble_eq_true rfl, Nat.le_of_ble_eq_true rfl⟩) ⟨PAt.blind, PAt.mk (cw_t3 hK hP)⟩ rfl rfl hl.1 rfl (lv_room (Nat.le_of_ble_eq_true rfl)) dX10_cell_68 ⟨Nat.zero_le _, Nat.zero_le _⟩) ?_
        obtain rfl := k_sm h
        exact W.iret hx hb hr (fun t ht hW => ⟨rfl, ht⟩) (fun _ h => by cases h) dX10_cell_71
      replace h := k_in c22_1 h
      refine lv_lookup (tgt := 72) hx hb dX10_cell_22 (by decide) (off := 50) (by rw [lv_osw c22_0 (by decide), lv_osw c22_1 (by decide)] <;> rfl) (by decide) ?_
      refine lv_aload_n hx hb dX10_cell_72 rfl (lv_at hl 0 rfl) ?_
      refine va_get (D := D) (ci := 10) (v := .ref (ad 1)) (C := RX10) (T := TX10) (N := 12) hx hb hts iX10_cell_X10 hown hK hP 0 cw_0 rfl 0 (by decide) (hts (.fieldLink RX10 10 RX10 "told" "LAnchorWills$Told;") (by decide +kernel)) (fun _ h9 => h9) rfl dX10_cell_73 ?_
      refine lv_aload_n hx hb dX10_cell_76 rfl (lv_at hl 0 rfl) ?_
      refine va_get (D := D) (ci := 10) (v := .ref (ad 19)) (C := RX10) (T := TX10) (N := 12) hx hb hts iX10_cell_X10 hown hK hP 0 cw_0 rfl 2 (by decide) (hts (.fieldLink RX10 22 RX10 "now" "LAnchorWills$Now;") (by decide +kernel)) (fun _ h9 => h9) rfl dX10_cell_77 ?_
      refine lv_iload_n hx hb dX10_cell_80 rfl (lv_at hl 1 rfl) ?_
      obtain ⟨v1, e2, h⟩ := k_bd h
      refine rd_calli (va_runS (As := [.ref (ad 1), .ref (ad 19), .int x1]) (rest := []) C0.1 (kX10_lyingIn_20 l (D := D) (cI := cI) (cB := cB) (cZ := cZ) (ad := ad) (τ := τ) σ x1 _ e2) (wX10_cell_X10_lyingIn hts ⟨Nat.le_of_ble_eq_true rfl, Nat.le_of_ble_eq_true rfl⟩) ⟨PW.blind, PW.mk hP hK hN⟩ rfl rfl hl.1 rfl (lv_room (Nat.le_of_ble_eq_true rfl)) dX10_cell_81 ⟨Nat.zero_le _, Nat.zero_le _⟩) ?_
      obtain rfl := k_sm h
      exact W.iret hx hb hr (fun t ht hW => ⟨rfl, ht⟩) (fun _ h => by cases h) dX10_cell_84
    · replace h := k_in c16 h
      refine lv_iconst (v := (-1)) hx hb dX10_cell_19 (by decide) ?_
      obtain rfl := k_sm h
      exact W.iret hx hb hr (fun t ht hW => ⟨rfl, ht⟩) (fun _ h => by cases h) dX10_cell_20
set_option maxHeartbeats 4000000 in
set_option maxRecDepth 100000 in
theorem kX10_raft (l : Launch) {D : va_G} {cI cB cZ : ClassId} {ad : Nat → Nat} {τ : Int64} (σ : Sg) (x1 : Int32) (x2 : Int32) (o : Int32) (h : pX10_raft σ x1 x2 = some o) : Met l yX10_raft wsX10_raft rmX10_raft (va_Pc [.ref (ad 0), .int x1, .int x2] (PW D cI cB cZ (CW cI ad τ σ))) (QcRead o) 0 0 (fun _ => False) := by
  refine Met.ofW (cc := cX10_raft) (maxL := 3) (ret := (some .int)) (by decide) rfl ?_
  intro p e s m args below meth c s₁ B hml hv
  obtain ⟨rfl, hP, hK, hN⟩ := hv
  have C0 : Cx p s m _ meth c cX10_raft 3 (some .int) RX10 wsX10_raft := ⟨⟨B.exec, B.bytes, hml, findClass_of_methodNamed B.named, atoms_spec B.pre⟩, B.returns, B.notSynchronized⟩
  obtain ⟨⟨hx, hb, -, hown, hts⟩, hr, hlk⟩ := id C0
  have hl := lv_entry ([.ref (ad 0), .int x1, .int x2]) (n := 3) (Nat.le_of_ble_eq_true rfl)
  rw [lg_entry_eq]
  generalize (lg_sl ([.ref (ad 0), .int x1, .int x2]) ++ List.replicate (3 - (lg_sl ([.ref (ad 0), .int x1, .int x2])).length) Slot.unset).toArray = ls at hl ⊢
  have hl : lv_has ls 3 [(0, .ref (ad 0)), (1, .int x1), (2, .int x2)] := hl
  rw [pX10_raft] at h
  refine lv_aload_n hx hb dX10_raft_0 rfl (lv_at hl 0 rfl) ?_
  refine lv_iload_n hx hb dX10_raft_1 rfl (lv_at hl 1 rfl) ?_
  refine rd_calli (va_runV (As := [.int x1]) (rest := []) C0.1 (kX10_isNoRaft l (D := D) (cI := cI) (cB := cB) (cZ := cZ) (ad := ad) (τ := τ) σ x1) (wX10_raft_X10_isNoRaft hts ⟨Nat.le_of_ble_eq_true rfl, Nat.le_of_ble_eq_true rfl⟩) ⟨PW.blind, cw_r0 hK hP, PW.mk hP hK hN⟩ rfl rfl hl.1 rfl (lv_room (Nat.le_of_ble_eq_true rfl)) dX10_raft_2 ⟨Nat.zero_le _, Nat.zero_le _⟩) ?_
  refine lv_if_ne (tgt := 17) hx hb dX10_raft_5 (by decide) (fun c5 => ?_) (fun c5 => ?_)
  · replace h := k_in c5 h
    refine lv_iconst (v := (-1)) hx hb dX10_raft_17 (by decide) ?_
    obtain rfl := k_sm h
    exact W.iret hx hb hr (fun t ht hW => ⟨rfl, ht⟩) (fun _ h => by cases h) dX10_raft_18
  · replace h := k_ip c5 h
    refine lv_iload_n hx hb dX10_raft_8 rfl (lv_at hl 2 rfl) ?_
    refine lv_iconst (v := 0) hx hb dX10_raft_9 (by decide) ?_
    refine lv_iconst (v := 5) hx hb dX10_raft_10 (by decide) ?_
    refine rd_calli (va_runS (As := [.int x2, .int 0, .int 5]) (rest := []) C0.1 (kX10_isOutside l x2 0 5) (wX10_raft_X10_isOutside hts ⟨Nat.le_of_ble_eq_true rfl, Nat.le_of_ble_eq_true rfl⟩) ⟨PT.blind, fun _ _ _ => ⟨rfl, trivial⟩⟩ rfl rfl hl.1 rfl (lv_room (Nat.le_of_ble_eq_true rfl)) dX10_raft_11 ⟨Nat.zero_le _, Nat.zero_le _⟩) ?_
    refine lv_if_eq (tgt := 19) hx hb dX10_raft_14 (by decide) (fun c14 => ?_) (fun c14 => ?_)
    · replace h := k_ip c14 h
      refine lv_iload_n hx hb dX10_raft_19 rfl (lv_at hl 2 rfl) ?_
      by_cases c20_0 : x2 = 0
      · replace h := k_ip c20_0 h
        refine lv_tableIn (tgt := 56) hx hb dX10_raft_20 (by rw [c20_0] <;> decide) (by rw [c20_0] <;> decide) (by rw [c20_0] <;> rfl) (by decide) ?_
        refine lv_aload_n hx hb dX10_raft_56 rfl (lv_at hl 0 rfl) ?_
        refine va_get (D := D) (ci := 10) (v := .ref (ad 19)) (C := RX10) (T := TX10) (N := 12) hx hb hts iX10_raft_X10 hown hK hP 0 cw_0 rfl 2 (by decide) (hts (.fieldLink RX10 22 RX10 "now" "LAnchorWills$Now;") (by decide +kernel)) (fun _ h9 => h9) rfl dX10_raft_57 ?_
        refine lv_bipush (v := 32) hx hb dX10_raft_60 (by decide) ?_
        refine lv_iload_n hx hb dX10_raft_62 rfl (lv_at hl 1 rfl) ?_
        refine rd_calli (va_runVN (As := [.int 32, .int x1]) (rest := []) C0.1 (kX5_get_20 l (D := D) (cI := cI) (cB := cB) (cZ := cZ) (ad := ad) (τ := τ) σ 32 x1) (wX10_raft_X5_get hts hN ⟨Nat.le_of_ble_eq_true rfl, Nat.le_of_ble_eq_true rfl⟩) ⟨PW.blind, cw_r19 hK hP, PW.mk hP hK hN⟩ rfl rfl hl.1 rfl (lv_room (Nat.le_of_ble_eq_true rfl)) dX10_raft_63 ⟨Nat.zero_le _, Nat.zero_le _⟩) ?_
        obtain rfl := k_sm h
        exact W.iret hx hb hr (fun t ht hW => ⟨rfl, ht⟩) (fun _ h => by cases h) dX10_raft_66
      replace h := k_in c20_0 h
      by_cases c20_1 : x2 = 1
      · replace h := k_ip c20_1 h
        refine lv_tableIn (tgt := 67) hx hb dX10_raft_20 (by rw [c20_1] <;> decide) (by rw [c20_1] <;> decide) (by rw [c20_1] <;> rfl) (by decide) ?_
        refine lv_aload_n hx hb dX10_raft_67 rfl (lv_at hl 0 rfl) ?_
        refine va_get (D := D) (ci := 10) (v := .ref (ad 19)) (C := RX10) (T := TX10) (N := 12) hx hb hts iX10_raft_X10 hown hK hP 0 cw_0 rfl 2 (by decide) (hts (.fieldLink RX10 22 RX10 "now" "LAnchorWills$Now;") (by decide +kernel)) (fun _ h9 => h9) rfl dX10_raft_68 ?_
        refine lv_iload_n hx hb dX10_raft_71 rfl (lv_at hl 1 rfl) ?_
        refine rd_calli (va_runVN (As := [.int x1]) (rest := []) C0.1 (kX5_isGone_20 l (D := D) (cI := cI) (cB := cB) (cZ := cZ) (ad := ad) (τ := τ) σ x1) (wX10_raft_X5_isGone hts hN ⟨Nat.le_of_ble_eq_true rfl, Nat.le_of_ble_eq_true rfl⟩) ⟨PW.blind, cw_r19 hK hP, PW.mk hP hK hN⟩ rfl rfl hl.1 rfl (lv_room (Nat.le_of_ble_eq_true rfl)) dX10_raft_72 ⟨Nat.zero_le _, Nat.zero_le _⟩) ?_
        refine lv_if_eq (tgt := 82) hx hb dX10_raft_75 (by decide) (fun c75 => ?_) (fun c75 => ?_)
        · replace h := k_ip c75 h
          refine lv_iconst (v := 0) hx hb dX10_raft_82 (by decide) ?_
          obtain rfl := k_sm h
          exact W.iret hx hb hr (fun t ht hW => ⟨rfl, ht⟩) (fun _ h => by cases h) dX10_raft_83
        · replace h := k_in c75 h
          refine lv_iconst (v := 1) hx hb dX10_raft_78 (by decide) ?_
          refine lv_goto (tgt := 83) hx hb dX10_raft_79 (by decide) ?_
          obtain rfl := k_sm h
          exact W.iret hx hb hr (fun t ht hW => ⟨rfl, ht⟩) (fun _ h => by cases h) dX10_raft_83
      replace h := k_in c20_1 h
      by_cases c20_2 : x2 = 2
      · replace h := k_ip c20_2 h
        refine lv_tableIn (tgt := 84) hx hb dX10_raft_20 (by rw [c20_2] <;> decide) (by rw [c20_2] <;> decide) (by rw [c20_2] <;> rfl) (by decide) ?_
        refine lv_aload_n hx hb dX10_raft_84 rfl (lv_at hl 0 rfl) ?_
        refine va_get (D := D) (ci := 10) (v := .ref (ad 19)) (C := RX10) (T := TX10) (N := 12) hx hb hts iX10_raft_X10 hown hK hP 0 cw_0 rfl 2 (by decide) (hts (.fieldLink RX10 22 RX10 "now" "LAnchorWills$Now;") (by decide +kernel)) (fun _ h9 => h9) rfl dX10_raft_85 ?_
        refine lv_bipush (v := 38) hx hb dX10_raft_88 (by decide) ?_
        refine lv_iload_n hx hb dX10_raft_90 rfl (lv_at hl 1 rfl) ?_
        refine rd_calli (va_runVN (As := [.int 38, .int x1]) (rest := []) C0.1 (kX5_get_20 l (D := D) (cI := cI) (cB := cB) (cZ := cZ) (ad := ad) (τ := τ) σ 38 x1) (wX10_raft_X5_get hts hN ⟨Nat.le_of_ble_eq_true rfl, Nat.le_of_ble_eq_true rfl⟩) ⟨PW.blind, cw_r19 hK hP, PW.mk hP hK hN⟩ rfl rfl hl.1 rfl (lv_room (Nat.le_of_ble_eq_true rfl)) dX10_raft_91 ⟨Nat.zero_le _, Nat.zero_le _⟩) ?_
        obtain rfl := k_sm h
        exact W.iret hx hb hr (fun t ht hW => ⟨rfl, ht⟩) (fun _ h => by cases h) dX10_raft_94
      replace h := k_in c20_2 h
      by_cases c20_3 : x2 = 3
      · replace h := k_ip c20_3 h
        refine lv_tableIn (tgt := 95) hx hb dX10_raft_20 (by rw [c20_3] <;> decide) (by rw [c20_3] <;> decide) (by rw [c20_3] <;> rfl) (by decide) ?_
        refine lv_aload_n hx hb dX10_raft_95 rfl (lv_at hl 0 rfl) ?_
        refine va_get (D := D) (ci := 10) (v := .ref (ad 42)) (C := RX10) (T := TX10) (N := 12) hx hb hts iX10_raft_X10 hown hK hP 0 cw_0 rfl 9 (by decide) (hts (.fieldLink RX10 69 RX10 "heirs" "LAnchorWills$Heirs;") (by decide +kernel)) (fun _ h9 => h9) rfl dX10_raft_96 ?_
        refine lv_iload_n hx hb dX10_raft_99 rfl (lv_at hl 1 rfl) ?_
        obtain ⟨v1, e2, h⟩ := k_bd h
        refine rd_calli (va_runVN (As := [.int x1]) (rest := []) C0.1 (kX2_estateOf l (D := D) (cI := cI) (cB := cB) (cZ := cZ) (ad := ad) (τ := τ) σ x1 _ e2) (wX10_raft_X2_estateOf hts hN ⟨Nat.le_of_ble_eq_true rfl, Nat.le_of_ble_eq_true rfl⟩) ⟨PW.blind, cw_r42 hK hP, PW.mk hP hK hN⟩ rfl rfl hl.1 rfl (lv_room (Nat.le_of_ble_eq_true rfl)) dX10_raft_100 ⟨Nat.zero_le _, Nat.zero_le _⟩) ?_
        obtain rfl := k_sm h
        exact W.iret hx hb hr (fun t ht hW => ⟨rfl, ht⟩) (fun _ h => by cases h) dX10_raft_103
      replace h := k_in c20_3 h
      by_cases c20_4 : x2 = 4
      · replace h := k_ip c20_4 h
        refine lv_tableIn (tgt := 104) hx hb dX10_raft_20 (by rw [c20_4] <;> decide) (by rw [c20_4] <;> decide) (by rw [c20_4] <;> rfl) (by decide) ?_
        refine lv_aload_n hx hb dX10_raft_104 rfl (lv_at hl 0 rfl) ?_
        refine va_get (D := D) (ci := 10) (v := .ref (ad 42)) (C := RX10) (T := TX10) (N := 12) hx hb hts iX10_raft_X10 hown hK hP 0 cw_0 rfl 9 (by decide) (hts (.fieldLink RX10 69 RX10 "heirs" "LAnchorWills$Heirs;") (by decide +kernel)) (fun _ h9 => h9) rfl dX10_raft_105 ?_
        refine lv_iload_n hx hb dX10_raft_108 rfl (lv_at hl 1 rfl) ?_
        obtain ⟨v3, e4, h⟩ := k_bd h
        refine rd_calli (va_runVN (As := [.int x1]) (rest := []) C0.1 (kX2_townOf l (D := D) (cI := cI) (cB := cB) (cZ := cZ) (ad := ad) (τ := τ) σ x1 _ e4) (wX10_raft_X2_townOf hts hN ⟨Nat.le_of_ble_eq_true rfl, Nat.le_of_ble_eq_true rfl⟩) ⟨PW.blind, cw_r42 hK hP, PW.mk hP hK hN⟩ rfl rfl hl.1 rfl (lv_room (Nat.le_of_ble_eq_true rfl)) dX10_raft_109 ⟨Nat.zero_le _, Nat.zero_le _⟩) ?_
        obtain rfl := k_sm h
        exact W.iret hx hb hr (fun t ht hW => ⟨rfl, ht⟩) (fun _ h => by cases h) dX10_raft_112
      replace h := k_in c20_4 h
      refine lv_tableOut (tgt := 113) hx hb dX10_raft_20 (by have z0 := lv_neT (a := 0) c20_0 (by decide); have z1 := lv_neT (a := 1) c20_1 (by decide); have z2 := lv_neT (a := 2) c20_2 (by decide); have z3 := lv_neT (a := 3) c20_3 (by decide); have z4 := lv_neT (a := 4) c20_4 (by decide); omega) (by decide) ?_
      refine lv_aload_n hx hb dX10_raft_113 rfl (lv_at hl 0 rfl) ?_
      refine va_get (D := D) (ci := 10) (v := .ref (ad 42)) (C := RX10) (T := TX10) (N := 12) hx hb hts iX10_raft_X10 hown hK hP 0 cw_0 rfl 9 (by decide) (hts (.fieldLink RX10 69 RX10 "heirs" "LAnchorWills$Heirs;") (by decide +kernel)) (fun _ h9 => h9) rfl dX10_raft_114 ?_
      refine lv_aload_n hx hb dX10_raft_117 rfl (lv_at hl 0 rfl) ?_
      refine va_get (D := D) (ci := 10) (v := .ref (ad 42)) (C := RX10) (T := TX10) (N := 12) hx hb hts iX10_raft_X10 hown hK hP 0 cw_0 rfl 9 (by decide) (hts (.fieldLink RX10 69 RX10 "heirs" "LAnchorWills$Heirs;") (by decide +kernel)) (fun _ h9 => h9) rfl dX10_raft_118 ?_
      refine lv_iload_n hx hb dX10_raft_121 rfl (lv_at hl 1 rfl) ?_
      obtain ⟨v5, e6, h⟩ := k_bd h
      refine rd_calli (va_runVN (As := [.int x1]) (rest := [.ref (ad 42)]) C0.1 (kX2_townOf l (D := D) (cI := cI) (cB := cB) (cZ := cZ) (ad := ad) (τ := τ) σ x1 _ e6) (wX10_raft_X2_townOf hts hN ⟨Nat.le_of_ble_eq_true rfl, Nat.le_of_ble_eq_true rfl⟩) ⟨PW.blind, cw_r42 hK hP, PW.mk hP hK hN⟩ rfl rfl hl.1 rfl (lv_room (Nat.le_of_ble_eq_true rfl)) dX10_raft_122 ⟨Nat.zero_le _, Nat.zero_le _⟩) ?_
      obtain ⟨v7, e8, h⟩ := k_bd h
      refine rd_calli (va_runVN (As := [.int v5]) (rest := []) C0.1 (kX2_mightOf l (D := D) (cI := cI) (cB := cB) (cZ := cZ) (ad := ad) (τ := τ) σ v5 _ e8) (wX10_raft_X2_mightOf hts hN ⟨Nat.le_of_ble_eq_true rfl, Nat.le_of_ble_eq_true rfl⟩) ⟨PW.blind, cw_r42 hK hP, PW.mk hP hK hN⟩ rfl rfl hl.1 rfl (lv_room (Nat.le_of_ble_eq_true rfl)) dX10_raft_125 ⟨Nat.zero_le _, Nat.zero_le _⟩) ?_
      obtain rfl := k_sm h
      exact W.iret hx hb hr (fun t ht hW => ⟨rfl, ht⟩) (fun _ h => by cases h) dX10_raft_128
    · replace h := k_in c14 h
      refine lv_iconst (v := (-1)) hx hb dX10_raft_17 (by decide) ?_
      obtain rfl := k_sm h
      exact W.iret hx hb hr (fun t ht hW => ⟨rfl, ht⟩) (fun _ h => by cases h) dX10_raft_18
set_option maxHeartbeats 4000000 in
set_option maxRecDepth 100000 in
theorem kX10_anchor (l : Launch) {D : va_G} {cI cB cZ : ClassId} {ad : Nat → Nat} {τ : Int64} (hap : cwX ad) (σ : Sg) (x1 : Int32) (x2 : Int32) (o : (Int32 × Sg)) (h : pX10_anchor σ x1 x2 = some o) : Met l yX10_anchor wsX10_anchor rmX10_anchor (va_Pc [.ref (ad 0), .int x1, .int x2] (PW D cI cB cZ (CW cI ad τ σ))) (QI D (CW cI ad τ) (cwA ad) o.1 o.2) 0 0 (cwA ad) := by
  refine Met.ofW (cc := cX10_anchor) (maxL := 3) (ret := (some .int)) (by decide) rfl ?_
  intro p e s m args below meth c s₁ B hml hv
  obtain ⟨rfl, hP, hK, hN⟩ := hv
  have C0 : Cx p s m _ meth c cX10_anchor 3 (some .int) RX10 wsX10_anchor := ⟨⟨B.exec, B.bytes, hml, findClass_of_methodNamed B.named, atoms_spec B.pre⟩, B.returns, B.notSynchronized⟩
  obtain ⟨⟨hx, hb, -, hown, hts⟩, hr, hlk⟩ := id C0
  have hS : va_S (cwA ad) s.heap s.heap [] := va_S.rf
  have hl := lv_entry ([.ref (ad 0), .int x1, .int x2]) (n := 3) (Nat.le_of_ble_eq_true rfl)
  rw [lg_entry_eq]
  generalize (lg_sl ([.ref (ad 0), .int x1, .int x2]) ++ List.replicate (3 - (lg_sl ([.ref (ad 0), .int x1, .int x2])).length) Slot.unset).toArray = ls at hl ⊢
  have hl : lv_has ls 3 [(0, .ref (ad 0)), (1, .int x1), (2, .int x2)] := hl
  rw [pX10_anchor] at h
  refine lv_aload_n hx hb dX10_anchor_0 rfl (lv_at hl 0 rfl) ?_
  refine lv_iload_n hx hb dX10_anchor_1 rfl (lv_at hl 1 rfl) ?_
  refine rd_calli (va_runV (As := [.int x1]) (rest := []) C0.1 (kX10_isNoAnchor l (D := D) (cI := cI) (cB := cB) (cZ := cZ) (ad := ad) (τ := τ) σ x1) (wX10_anchor_X10_isNoAnchor hts ⟨Nat.le_of_ble_eq_true rfl, Nat.le_of_ble_eq_true rfl⟩) ⟨PW.blind, cw_r0 hK hP, PW.mk hP hK hN⟩ rfl rfl hl.1 rfl (lv_room (Nat.le_of_ble_eq_true rfl)) dX10_anchor_2 ⟨Nat.zero_le _, Nat.zero_le _⟩) ?_
  refine lv_if_ne (tgt := 18) hx hb dX10_anchor_5 (by decide) (fun c5 => ?_) (fun c5 => ?_)
  · replace h := k_in c5 h
    refine lv_iconst (v := (-1)) hx hb dX10_anchor_18 (by decide) ?_
    obtain rfl := k_sm h
    exact W.iret hx hb hr (fun t ht hW => ⟨⟨_, _, rfl, ⟨rfl, rfl⟩, pw_end ht hP⟩, hS.F ht⟩) hS.2.2 dX10_anchor_19
  · replace h := k_ip c5 h
    refine lv_iload_n hx hb dX10_anchor_8 rfl (lv_at hl 2 rfl) ?_
    refine lv_iconst (v := 0) hx hb dX10_anchor_9 (by decide) ?_
    refine lv_bipush (v := 8) hx hb dX10_anchor_10 (by decide) ?_
    refine rd_calli (va_runS (As := [.int x2, .int 0, .int 8]) (rest := []) C0.1 (kX10_isOutside l x2 0 8) (wX10_anchor_X10_isOutside hts ⟨Nat.le_of_ble_eq_true rfl, Nat.le_of_ble_eq_true rfl⟩) ⟨PT.blind, fun _ _ _ => ⟨rfl, trivial⟩⟩ rfl rfl hl.1 rfl (lv_room (Nat.le_of_ble_eq_true rfl)) dX10_anchor_12 ⟨Nat.zero_le _, Nat.zero_le _⟩) ?_
    refine lv_if_eq (tgt := 20) hx hb dX10_anchor_15 (by decide) (fun c15 => ?_) (fun c15 => ?_)
    · replace h := k_ip c15 h
      refine lv_iload_n hx hb dX10_anchor_20 rfl (lv_at hl 2 rfl) ?_
      by_cases c21_0 : x2 = 0
      · replace h := k_ip c21_0 h
        refine lv_tableIn (tgt := 68) hx hb dX10_anchor_21 (by rw [c21_0] <;> decide) (by rw [c21_0] <;> decide) (by rw [c21_0] <;> rfl) (by decide) ?_
        refine lv_aload_n hx hb dX10_anchor_68 rfl (lv_at hl 0 rfl) ?_
        refine va_get (D := D) (ci := 10) (v := .ref (ad 1)) (C := RX10) (T := TX10) (N := 12) hx hb hts iX10_anchor_X10 hown hK hP 0 cw_0 rfl 0 (by decide) (hts (.fieldLink RX10 10 RX10 "told" "LAnchorWills$Told;") (by decide +kernel)) (fun _ h9 => h9) rfl dX10_anchor_69 ?_
        refine va_getN (D := D) (ci := 9) (v := .ref (ad 4)) (C := RX9) (T := TX9) (N := 10) hx hb hts iX10_anchor_X9 hown hK hP 1 cw_1 rfl 2 (by decide) (va_Nw.use rfl (nf_X10_159 hN)) (fun _ h9 => h9) rfl dX10_anchor_72 ?_
        refine lv_iload_n hx hb dX10_anchor_75 rfl (lv_at hl 1 rfl) ?_
        refine rd_calli (va_runS (As := [.ref (ad 4), .int x1]) (rest := []) C0.1 (kX10_at l (ad 4) 8 (σ 4) x1 (by decide)) (wX10_anchor_X10_at hts ⟨Nat.le_of_ble_eq_true rfl, Nat.le_of_ble_eq_true rfl⟩) ⟨PAt.blind, PAt.mk (cw_t4 hK hP)⟩ rfl rfl hl.1 rfl (lv_room (Nat.le_of_ble_eq_true rfl)) dX10_anchor_76 ⟨Nat.zero_le _, Nat.zero_le _⟩) ?_
        obtain rfl := k_sm h
        exact W.iret hx hb hr (fun t ht hW => ⟨⟨_, _, rfl, ⟨rfl, rfl⟩, pw_end ht hP⟩, hS.F ht⟩) hS.2.2 dX10_anchor_79
      replace h := k_in c21_0 h
      by_cases c21_1 : x2 = 1
      · replace h := k_ip c21_1 h
        refine lv_tableIn (tgt := 80) hx hb dX10_anchor_21 (by rw [c21_1] <;> decide) (by rw [c21_1] <;> decide) (by rw [c21_1] <;> rfl) (by decide) ?_
        refine lv_aload_n hx hb dX10_anchor_80 rfl (lv_at hl 0 rfl) ?_
        refine va_get (D := D) (ci := 10) (v := .ref (ad 19)) (C := RX10) (T := TX10) (N := 12) hx hb hts iX10_anchor_X10 hown hK hP 0 cw_0 rfl 2 (by decide) (hts (.fieldLink RX10 22 RX10 "now" "LAnchorWills$Now;") (by decide +kernel)) (fun _ h9 => h9) rfl dX10_anchor_81 ?_
        refine lv_iconst (v := 0) hx hb dX10_anchor_84 (by decide) ?_
        refine lv_iload_n hx hb dX10_anchor_85 rfl (lv_at hl 1 rfl) ?_
        refine rd_calli (va_runVN (As := [.int 0, .int x1]) (rest := []) C0.1 (kX5_get_20 l (D := D) (cI := cI) (cB := cB) (cZ := cZ) (ad := ad) (τ := τ) σ 0 x1) (wX10_anchor_X5_get hts hN ⟨Nat.le_of_ble_eq_true rfl, Nat.le_of_ble_eq_true rfl⟩) ⟨PW.blind, cw_r19 hK hP, PW.mk hP hK hN⟩ rfl rfl hl.1 rfl (lv_room (Nat.le_of_ble_eq_true rfl)) dX10_anchor_86 ⟨Nat.zero_le _, Nat.zero_le _⟩) ?_
        obtain rfl := k_sm h
        exact W.iret hx hb hr (fun t ht hW => ⟨⟨_, _, rfl, ⟨rfl, rfl⟩, pw_end ht hP⟩, hS.F ht⟩) hS.2.2 dX10_anchor_89
      replace h := k_in c21_1 h
      by_cases c21_2 : x2 = 2
      · replace h := k_ip c21_2 h
        refine lv_tableIn (tgt := 90) hx hb dX10_anchor_21 (by rw [c21_2] <;> decide) (by rw [c21_2] <;> decide) (by rw [c21_2] <;> rfl) (by decide) ?_
        refine lv_aload_n hx hb dX10_anchor_90 rfl (lv_at hl 0 rfl) ?_
        refine va_get (D := D) (ci := 10) (v := .ref (ad 1)) (C := RX10) (T := TX10) (N := 12) hx hb hts iX10_anchor_X10 hown hK hP 0 cw_0 rfl 0 (by decide) (hts (.fieldLink RX10 10 RX10 "told" "LAnchorWills$Told;") (by decide +kernel)) (fun _ h9 => h9) rfl dX10_anchor_91 ?_
        refine va_getN (D := D) (ci := 9) (v := .ref (ad 5)) (C := RX9) (T := TX9) (N := 10) hx hb hts iX10_anchor_X9 hown hK hP 1 cw_1 rfl 3 (by decide) (va_Nw.use rfl (nf_X10_162 hN)) (fun _ h9 => h9) rfl dX10_anchor_94 ?_
        refine lv_iload_n hx hb dX10_anchor_97 rfl (lv_at hl 1 rfl) ?_
        refine rd_calli (va_runS (As := [.ref (ad 5), .int x1]) (rest := []) C0.1 (kX10_at l (ad 5) 8 (σ 5) x1 (by decide)) (wX10_anchor_X10_at hts ⟨Nat.le_of_ble_eq_true rfl, Nat.le_of_ble_eq_true rfl⟩) ⟨PAt.blind, PAt.mk (cw_t5 hK hP)⟩ rfl rfl hl.1 rfl (lv_room (Nat.le_of_ble_eq_true rfl)) dX10_anchor_98 ⟨Nat.zero_le _, Nat.zero_le _⟩) ?_
        obtain rfl := k_sm h
        exact W.iret hx hb hr (fun t ht hW => ⟨⟨_, _, rfl, ⟨rfl, rfl⟩, pw_end ht hP⟩, hS.F ht⟩) hS.2.2 dX10_anchor_101
      replace h := k_in c21_2 h
      by_cases c21_3 : x2 = 3
      · replace h := k_ip c21_3 h
        refine lv_tableIn (tgt := 102) hx hb dX10_anchor_21 (by rw [c21_3] <;> decide) (by rw [c21_3] <;> decide) (by rw [c21_3] <;> rfl) (by decide) ?_
        refine lv_aload_n hx hb dX10_anchor_102 rfl (lv_at hl 0 rfl) ?_
        refine va_get (D := D) (ci := 10) (v := .ref (ad 19)) (C := RX10) (T := TX10) (N := 12) hx hb hts iX10_anchor_X10 hown hK hP 0 cw_0 rfl 2 (by decide) (hts (.fieldLink RX10 22 RX10 "now" "LAnchorWills$Now;") (by decide +kernel)) (fun _ h9 => h9) rfl dX10_anchor_103 ?_
        refine lv_bipush (v := 8) hx hb dX10_anchor_106 (by decide) ?_
        refine lv_iload_n hx hb dX10_anchor_108 rfl (lv_at hl 1 rfl) ?_
        refine rd_calli (va_runVN (As := [.int 8, .int x1]) (rest := []) C0.1 (kX5_get_20 l (D := D) (cI := cI) (cB := cB) (cZ := cZ) (ad := ad) (τ := τ) σ 8 x1) (wX10_anchor_X5_get hts hN ⟨Nat.le_of_ble_eq_true rfl, Nat.le_of_ble_eq_true rfl⟩) ⟨PW.blind, cw_r19 hK hP, PW.mk hP hK hN⟩ rfl rfl hl.1 rfl (lv_room (Nat.le_of_ble_eq_true rfl)) dX10_anchor_109 ⟨Nat.zero_le _, Nat.zero_le _⟩) ?_
        obtain rfl := k_sm h
        exact W.iret hx hb hr (fun t ht hW => ⟨⟨_, _, rfl, ⟨rfl, rfl⟩, pw_end ht hP⟩, hS.F ht⟩) hS.2.2 dX10_anchor_112
      replace h := k_in c21_3 h
      by_cases c21_4 : x2 = 4
      · replace h := k_ip c21_4 h
        refine lv_tableIn (tgt := 113) hx hb dX10_anchor_21 (by rw [c21_4] <;> decide) (by rw [c21_4] <;> decide) (by rw [c21_4] <;> rfl) (by decide) ?_
        refine lv_aload_n hx hb dX10_anchor_113 rfl (lv_at hl 0 rfl) ?_
        refine va_get (D := D) (ci := 10) (v := .ref (ad 1)) (C := RX10) (T := TX10) (N := 12) hx hb hts iX10_anchor_X10 hown hK hP 0 cw_0 rfl 0 (by decide) (hts (.fieldLink RX10 10 RX10 "told" "LAnchorWills$Told;") (by decide +kernel)) (fun _ h9 => h9) rfl dX10_anchor_114 ?_
        refine va_getN (D := D) (ci := 9) (v := .ref (ad 6)) (C := RX9) (T := TX9) (N := 10) hx hb hts iX10_anchor_X9 hown hK hP 1 cw_1 rfl 4 (by decide) (va_Nw.use rfl (nf_X10_165 hN)) (fun _ h9 => h9) rfl dX10_anchor_117 ?_
        refine lv_iload_n hx hb dX10_anchor_120 rfl (lv_at hl 1 rfl) ?_
        refine rd_calli (va_runS (As := [.ref (ad 6), .int x1]) (rest := []) C0.1 (kX10_at l (ad 6) 8 (σ 6) x1 (by decide)) (wX10_anchor_X10_at hts ⟨Nat.le_of_ble_eq_true rfl, Nat.le_of_ble_eq_true rfl⟩) ⟨PAt.blind, PAt.mk (cw_t6 hK hP)⟩ rfl rfl hl.1 rfl (lv_room (Nat.le_of_ble_eq_true rfl)) dX10_anchor_121 ⟨Nat.zero_le _, Nat.zero_le _⟩) ?_
        obtain rfl := k_sm h
        exact W.iret hx hb hr (fun t ht hW => ⟨⟨_, _, rfl, ⟨rfl, rfl⟩, pw_end ht hP⟩, hS.F ht⟩) hS.2.2 dX10_anchor_124
      replace h := k_in c21_4 h
      by_cases c21_5 : x2 = 5
      · replace h := k_ip c21_5 h
        refine lv_tableIn (tgt := 125) hx hb dX10_anchor_21 (by rw [c21_5] <;> decide) (by rw [c21_5] <;> decide) (by rw [c21_5] <;> rfl) (by decide) ?_
        refine lv_aload_n hx hb dX10_anchor_125 rfl (lv_at hl 0 rfl) ?_
        refine va_get (D := D) (ci := 10) (v := .ref (ad 19)) (C := RX10) (T := TX10) (N := 12) hx hb hts iX10_anchor_X10 hown hK hP 0 cw_0 rfl 2 (by decide) (hts (.fieldLink RX10 22 RX10 "now" "LAnchorWills$Now;") (by decide +kernel)) (fun _ h9 => h9) rfl dX10_anchor_126 ?_
        refine lv_bipush (v := 16) hx hb dX10_anchor_129 (by decide) ?_
        refine lv_iload_n hx hb dX10_anchor_131 rfl (lv_at hl 1 rfl) ?_
        refine rd_calli (va_runVN (As := [.int 16, .int x1]) (rest := []) C0.1 (kX5_get_20 l (D := D) (cI := cI) (cB := cB) (cZ := cZ) (ad := ad) (τ := τ) σ 16 x1) (wX10_anchor_X5_get hts hN ⟨Nat.le_of_ble_eq_true rfl, Nat.le_of_ble_eq_true rfl⟩) ⟨PW.blind, cw_r19 hK hP, PW.mk hP hK hN⟩ rfl rfl hl.1 rfl (lv_room (Nat.le_of_ble_eq_true rfl)) dX10_anchor_132 ⟨Nat.zero_le _, Nat.zero_le _⟩) ?_
        obtain rfl := k_sm h
        exact W.iret hx hb hr (fun t ht hW => ⟨⟨_, _, rfl, ⟨rfl, rfl⟩, pw_end ht hP⟩, hS.F ht⟩) hS.2.2 dX10_anchor_135
      replace h := k_in c21_5 h
      by_cases c21_6 : x2 = 6
      · replace h := k_ip c21_6 h
        refine lv_tableIn (tgt := 136) hx hb dX10_anchor_21 (by rw [c21_6] <;> decide) (by rw [c21_6] <;> decide) (by rw [c21_6] <;> rfl) (by decide) ?_
        refine lv_aload_n hx hb dX10_anchor_136 rfl (lv_at hl 0 rfl) ?_
        refine va_get (D := D) (ci := 10) (v := .ref (ad 19)) (C := RX10) (T := TX10) (N := 12) hx hb hts iX10_anchor_X10 hown hK hP 0 cw_0 rfl 2 (by decide) (hts (.fieldLink RX10 22 RX10 "now" "LAnchorWills$Now;") (by decide +kernel)) (fun _ h9 => h9) rfl dX10_anchor_137 ?_
        refine lv_bipush (v := 24) hx hb dX10_anchor_140 (by decide) ?_
        refine lv_iload_n hx hb dX10_anchor_142 rfl (lv_at hl 1 rfl) ?_
        refine rd_calli (va_runVN (As := [.int 24, .int x1]) (rest := []) C0.1 (kX5_get_20 l (D := D) (cI := cI) (cB := cB) (cZ := cZ) (ad := ad) (τ := τ) σ 24 x1) (wX10_anchor_X5_get hts hN ⟨Nat.le_of_ble_eq_true rfl, Nat.le_of_ble_eq_true rfl⟩) ⟨PW.blind, cw_r19 hK hP, PW.mk hP hK hN⟩ rfl rfl hl.1 rfl (lv_room (Nat.le_of_ble_eq_true rfl)) dX10_anchor_143 ⟨Nat.zero_le _, Nat.zero_le _⟩) ?_
        obtain rfl := k_sm h
        exact W.iret hx hb hr (fun t ht hW => ⟨⟨_, _, rfl, ⟨rfl, rfl⟩, pw_end ht hP⟩, hS.F ht⟩) hS.2.2 dX10_anchor_146
      replace h := k_in c21_6 h
      by_cases c21_7 : x2 = 7
      · replace h := k_ip c21_7 h
        refine lv_tableIn (tgt := 147) hx hb dX10_anchor_21 (by rw [c21_7] <;> decide) (by rw [c21_7] <;> decide) (by rw [c21_7] <;> rfl) (by decide) ?_
        refine lv_aload_n hx hb dX10_anchor_147 rfl (lv_at hl 0 rfl) ?_
        refine va_get (D := D) (ci := 10) (v := .ref (ad 19)) (C := RX10) (T := TX10) (N := 12) hx hb hts iX10_anchor_X10 hown hK hP 0 cw_0 rfl 2 (by decide) (hts (.fieldLink RX10 22 RX10 "now" "LAnchorWills$Now;") (by decide +kernel)) (fun _ h9 => h9) rfl dX10_anchor_148 ?_
        refine lv_iload_n hx hb dX10_anchor_151 rfl (lv_at hl 1 rfl) ?_
        refine rd_calli (va_runVN (As := [.int x1]) (rest := []) C0.1 (kX5_lies_20 l (D := D) (cI := cI) (cB := cB) (cZ := cZ) (ad := ad) (τ := τ) σ x1) (wX10_anchor_X5_lies hts hN ⟨Nat.le_of_ble_eq_true rfl, Nat.le_of_ble_eq_true rfl⟩) ⟨PW.blind, cw_r19 hK hP, PW.mk hP hK hN⟩ rfl rfl hl.1 rfl (lv_room (Nat.le_of_ble_eq_true rfl)) dX10_anchor_152 ⟨Nat.zero_le _, Nat.zero_le _⟩) ?_
        refine lv_if_eq (tgt := 169) hx hb dX10_anchor_155 (by decide) (fun c155 => ?_) (fun c155 => ?_)
        · replace h := k_ip c155 h
          refine lv_bipush (v := (-9)) hx hb dX10_anchor_169 (by decide) ?_
          obtain rfl := k_sm h
          exact W.iret hx hb hr (fun t ht hW => ⟨⟨_, _, rfl, ⟨rfl, rfl⟩, pw_end ht hP⟩, hS.F ht⟩) hS.2.2 dX10_anchor_171
        · replace h := k_in c155 h
          refine lv_aload_n hx hb dX10_anchor_158 rfl (lv_at hl 0 rfl) ?_
          refine va_get (D := D) (ci := 10) (v := .ref (ad 35)) (C := RX10) (T := TX10) (N := 12) hx hb hts iX10_anchor_X10 hown hK hP 0 cw_0 rfl 7 (by decide) (hts (.fieldLink RX10 55 RX10 "sea" "LAnchorWills$Sea;") (by decide +kernel)) (fun _ h9 => h9) rfl dX10_anchor_159 ?_
          refine lv_iload_n hx hb dX10_anchor_162 rfl (lv_at hl 1 rfl) ?_
          obtain ⟨u1, e2, h⟩ := k_bd h
          refine wr_calli (va_runVN (As := [.int x1]) (rest := []) C0.1 (kX8_holdOf l (D := D) (cI := cI) (cB := cB) (cZ := cZ) (τ := τ) hap σ x1 _ e2) (wX10_anchor_X8_holdOf hts hN ⟨Nat.le_of_ble_eq_true rfl, Nat.le_of_ble_eq_true rfl⟩) ⟨PW.blind, cw_r35 hK hP, PW.mk hP hK hN⟩ rfl rfl hl.1 rfl (lv_room (Nat.le_of_ble_eq_true rfl)) dX10_anchor_163 ⟨Nat.zero_le _, Nat.zero_le _⟩) hS (fun _ h => h) (fun H locs hP hS => ?_)
          have hP : va_P D vwCl (CW cI ad τ u1.2) H := hP
          refine lv_goto (tgt := 171) hx hb dX10_anchor_166 (by decide) ?_
          obtain rfl := k_sm h
          exact W.iret hx hb hr (fun t ht hW => ⟨⟨_, _, rfl, ⟨rfl, rfl⟩, pw_end ht hP⟩, hS.F ht⟩) hS.2.2 dX10_anchor_171
      replace h := k_in c21_7 h
      refine lv_tableOut (tgt := 172) hx hb dX10_anchor_21 (by have z0 := lv_neT (a := 0) c21_0 (by decide); have z1 := lv_neT (a := 1) c21_1 (by decide); have z2 := lv_neT (a := 2) c21_2 (by decide); have z3 := lv_neT (a := 3) c21_3 (by decide); have z4 := lv_neT (a := 4) c21_4 (by decide); have z5 := lv_neT (a := 5) c21_5 (by decide); have z6 := lv_neT (a := 6) c21_6 (by decide); have z7 := lv_neT (a := 7) c21_7 (by decide); omega) (by decide) ?_
      refine lv_aload_n hx hb dX10_anchor_172 rfl (lv_at hl 0 rfl) ?_
      refine va_get (D := D) (ci := 10) (v := .ref (ad 42)) (C := RX10) (T := TX10) (N := 12) hx hb hts iX10_anchor_X10 hown hK hP 0 cw_0 rfl 9 (by decide) (hts (.fieldLink RX10 69 RX10 "heirs" "LAnchorWills$Heirs;") (by decide +kernel)) (fun _ h9 => h9) rfl dX10_anchor_173 ?_
      refine lv_iload_n hx hb dX10_anchor_176 rfl (lv_at hl 1 rfl) ?_
      obtain ⟨v3, e4, h⟩ := k_bd h
      refine rd_calli (va_runVN (As := [.int x1]) (rest := []) C0.1 (kX2_whoseIs l (D := D) (cI := cI) (cB := cB) (cZ := cZ) (ad := ad) (τ := τ) σ x1 _ e4) (wX10_anchor_X2_whoseIs hts hN ⟨Nat.le_of_ble_eq_true rfl, Nat.le_of_ble_eq_true rfl⟩) ⟨PW.blind, cw_r42 hK hP, PW.mk hP hK hN⟩ rfl rfl hl.1 rfl (lv_room (Nat.le_of_ble_eq_true rfl)) dX10_anchor_177 ⟨Nat.zero_le _, Nat.zero_le _⟩) ?_
      obtain rfl := k_sm h
      exact W.iret hx hb hr (fun t ht hW => ⟨⟨_, _, rfl, ⟨rfl, rfl⟩, pw_end ht hP⟩, hS.F ht⟩) hS.2.2 dX10_anchor_180
    · replace h := k_in c15 h
      refine lv_iconst (v := (-1)) hx hb dX10_anchor_18 (by decide) ?_
      obtain rfl := k_sm h
      exact W.iret hx hb hr (fun t ht hW => ⟨⟨_, _, rfl, ⟨rfl, rfl⟩, pw_end ht hP⟩, hS.F ht⟩) hS.2.2 dX10_anchor_19
set_option maxHeartbeats 4000000 in
set_option maxRecDepth 100000 in
theorem kX10_storms (l : Launch) {D : va_G} {cI cB cZ : ClassId} {ad : Nat → Nat} {τ : Int64} (hap : cwX ad) (σ : Sg) (x1 : Int32) (x2 : Int32) (o : (Int32 × Sg)) (h : pX10_storms σ x1 x2 = some o) : Met l yX10_storms wsX10_storms rmX10_storms (va_Pc [.ref (ad 0), .int x1, .int x2] (PW D cI cB cZ (CW cI ad τ σ))) (QI D (CW cI ad τ) (cwA ad) o.1 o.2) 0 0 (cwA ad) := by
  refine Met.ofW (cc := cX10_storms) (maxL := 3) (ret := (some .int)) (by decide) rfl ?_
  intro p e s m args below meth c s₁ B hml hv
  obtain ⟨rfl, hP, hK, hN⟩ := hv
  have C0 : Cx p s m _ meth c cX10_storms 3 (some .int) RX10 wsX10_storms := ⟨⟨B.exec, B.bytes, hml, findClass_of_methodNamed B.named, atoms_spec B.pre⟩, B.returns, B.notSynchronized⟩
  obtain ⟨⟨hx, hb, -, hown, hts⟩, hr, hlk⟩ := id C0
  have hS : va_S (cwA ad) s.heap s.heap [] := va_S.rf
  have hl := lv_entry ([.ref (ad 0), .int x1, .int x2]) (n := 3) (Nat.le_of_ble_eq_true rfl)
  rw [lg_entry_eq]
  generalize (lg_sl ([.ref (ad 0), .int x1, .int x2]) ++ List.replicate (3 - (lg_sl ([.ref (ad 0), .int x1, .int x2])).length) Slot.unset).toArray = ls at hl ⊢
  have hl : lv_has ls 3 [(0, .ref (ad 0)), (1, .int x1), (2, .int x2)] := hl
  rw [pX10_storms] at h
  refine lv_iload_n hx hb dX10_storms_0 rfl (lv_at hl 1 rfl) ?_
  refine rd_calli (va_runS (As := [.int x1]) (rest := []) C0.1 (kX10_isNoForce l x1) (wX10_storms_X10_isNoForce hts ⟨Nat.le_of_ble_eq_true rfl, Nat.le_of_ble_eq_true rfl⟩) ⟨PT.blind, fun _ _ _ => ⟨rfl, trivial⟩⟩ rfl rfl hl.1 rfl (lv_room (Nat.le_of_ble_eq_true rfl)) dX10_storms_1 ⟨Nat.zero_le _, Nat.zero_le _⟩) ?_
  refine lv_if_ne (tgt := 16) hx hb dX10_storms_4 (by decide) (fun c4 => ?_) (fun c4 => ?_)
  · replace h := k_in c4 h
    refine lv_iconst (v := (-1)) hx hb dX10_storms_16 (by decide) ?_
    obtain rfl := k_sm h
    exact W.iret hx hb hr (fun t ht hW => ⟨⟨_, _, rfl, ⟨rfl, rfl⟩, pw_end ht hP⟩, hS.F ht⟩) hS.2.2 dX10_storms_17
  · replace h := k_ip c4 h
    refine lv_iload_n hx hb dX10_storms_7 rfl (lv_at hl 2 rfl) ?_
    refine lv_iconst (v := 0) hx hb dX10_storms_8 (by decide) ?_
    refine lv_iconst (v := 1) hx hb dX10_storms_9 (by decide) ?_
    refine rd_calli (va_runS (As := [.int x2, .int 0, .int 1]) (rest := []) C0.1 (kX10_isOutside l x2 0 1) (wX10_storms_X10_isOutside hts ⟨Nat.le_of_ble_eq_true rfl, Nat.le_of_ble_eq_true rfl⟩) ⟨PT.blind, fun _ _ _ => ⟨rfl, trivial⟩⟩ rfl rfl hl.1 rfl (lv_room (Nat.le_of_ble_eq_true rfl)) dX10_storms_10 ⟨Nat.zero_le _, Nat.zero_le _⟩) ?_
    refine lv_if_eq (tgt := 18) hx hb dX10_storms_13 (by decide) (fun c13 => ?_) (fun c13 => ?_)
    · replace h := k_ip c13 h
      refine lv_aload_n hx hb dX10_storms_18 rfl (lv_at hl 0 rfl) ?_
      refine va_get (D := D) (ci := 10) (v := .ref (ad 21)) (C := RX10) (T := TX10) (N := 12) hx hb hts iX10_storms_X10 hown hK hP 0 cw_0 rfl 3 (by decide) (hts (.fieldLink RX10 29 RX10 "past" "LAnchorWills$Past;") (by decide +kernel)) (fun _ h9 => h9) rfl dX10_storms_19 ?_
      refine lv_aload_n hx hb dX10_storms_22 rfl (lv_at hl 0 rfl) ?_
      refine va_get (D := D) (ci := 10) (v := .ref (ad 19)) (C := RX10) (T := TX10) (N := 12) hx hb hts iX10_storms_X10 hown hK hP 0 cw_0 rfl 2 (by decide) (hts (.fieldLink RX10 22 RX10 "now" "LAnchorWills$Now;") (by decide +kernel)) (fun _ h9 => h9) rfl dX10_storms_23 ?_
      obtain ⟨u1, e2, h⟩ := k_bd h
      refine wr_callv (va_runVN (As := [.ref (ad 19)]) (rest := []) C0.1 (kX6_remembers_20 l (D := D) (cI := cI) (cB := cB) (cZ := cZ) (τ := τ) hap σ  _ e2) (wX10_storms_X6_remembers hts hN ⟨Nat.le_of_ble_eq_true rfl, Nat.le_of_ble_eq_true rfl⟩) ⟨PW.blind, cw_r21 hK hP, PW.mk hP hK hN⟩ rfl rfl hl.1 rfl (lv_room (Nat.le_of_ble_eq_true rfl)) dX10_storms_26 ⟨Nat.zero_le _, Nat.zero_le _⟩) hS (fun _ h => h) (fun H locs hP hS => ?_)
      have hP : va_P D vwCl (CW cI ad τ u1) H := hP
      refine lv_aload_n hx hb dX10_storms_29 rfl (lv_at hl 0 rfl) ?_
      refine va_get (D := D) (ci := 10) (v := .ref (ad 35)) (C := RX10) (T := TX10) (N := 12) hx hb hts iX10_storms_X10 hown hK hP 0 cw_0 rfl 7 (by decide) (hts (.fieldLink RX10 55 RX10 "sea" "LAnchorWills$Sea;") (by decide +kernel)) (fun _ h9 => h9) rfl dX10_storms_30 ?_
      refine lv_aload_n hx hb dX10_storms_33 rfl (lv_at hl 0 rfl) ?_
      refine va_get (D := D) (ci := 10) (v := .ref (ad 19)) (C := RX10) (T := TX10) (N := 12) hx hb hts iX10_storms_X10 hown hK hP 0 cw_0 rfl 2 (by decide) (hts (.fieldLink RX10 22 RX10 "now" "LAnchorWills$Now;") (by decide +kernel)) (fun _ h9 => h9) rfl dX10_storms_34 ?_
      refine lv_iload_n hx hb dX10_storms_37 rfl (lv_at hl 1 rfl) ?_
      refine lv_iload_n hx hb dX10_storms_38 rfl (lv_at hl 2 rfl) ?_
      obtain ⟨u3, e4, h⟩ := k_bd h
      refine wr_calli (va_runVN (As := [.ref (ad 19), .int x1, .int x2]) (rest := []) C0.1 (kX8_blowsOver_20 l (D := D) (cI := cI) (cB := cB) (cZ := cZ) (τ := τ) hap u1 x1 x2 _ e4) (wX10_storms_X8_blowsOver hts hN ⟨Nat.le_of_ble_eq_true rfl, Nat.le_of_ble_eq_true rfl⟩) ⟨PW.blind, cw_r35 hK hP, PW.mk hP hK hN⟩ rfl rfl hl.1 rfl (lv_room (Nat.le_of_ble_eq_true rfl)) dX10_storms_39 ⟨Nat.zero_le _, Nat.zero_le _⟩) hS (fun _ h => h) (fun H locs hP hS => ?_)
      have hP : va_P D vwCl (CW cI ad τ u3.2) H := hP
      obtain rfl := k_sm h
      exact W.iret hx hb hr (fun t ht hW => ⟨⟨_, _, rfl, ⟨rfl, rfl⟩, pw_end ht hP⟩, hS.F ht⟩) hS.2.2 dX10_storms_42
    · replace h := k_in c13 h
      refine lv_iconst (v := (-1)) hx hb dX10_storms_16 (by decide) ?_
      obtain rfl := k_sm h
      exact W.iret hx hb hr (fun t ht hW => ⟨⟨_, _, rfl, ⟨rfl, rfl⟩, pw_end ht hP⟩, hS.F ht⟩) hS.2.2 dX10_storms_17
set_option maxHeartbeats 4000000 in
set_option maxRecDepth 100000 in
theorem kX10_pays (l : Launch) {D : va_G} {cI cB cZ : ClassId} {ad : Nat → Nat} {τ : Int64} (hap : cwX ad) (σ : Sg) (x1 : Int32) (x2 : Int32) (o : (Int32 × Sg)) (h : pX10_pays σ x1 x2 = some o) : Met l yX10_pays wsX10_pays rmX10_pays (va_Pc [.ref (ad 0), .int x1, .int x2] (PW D cI cB cZ (CW cI ad τ σ))) (QI D (CW cI ad τ) (cwA ad) o.1 o.2) 0 0 (cwA ad) := by
  refine Met.ofW (cc := cX10_pays) (maxL := 4) (ret := (some .int)) (by decide) rfl ?_
  intro p e s m args below meth c s₁ B hml hv
  obtain ⟨rfl, hP, hK, hN⟩ := hv
  have C0 : Cx p s m _ meth c cX10_pays 4 (some .int) RX10 wsX10_pays := ⟨⟨B.exec, B.bytes, hml, findClass_of_methodNamed B.named, atoms_spec B.pre⟩, B.returns, B.notSynchronized⟩
  obtain ⟨⟨hx, hb, -, hown, hts⟩, hr, hlk⟩ := id C0
  have hS : va_S (cwA ad) s.heap s.heap [] := va_S.rf
  have hl := lv_entry ([.ref (ad 0), .int x1, .int x2]) (n := 4) (Nat.le_of_ble_eq_true rfl)
  rw [lg_entry_eq]
  generalize (lg_sl ([.ref (ad 0), .int x1, .int x2]) ++ List.replicate (4 - (lg_sl ([.ref (ad 0), .int x1, .int x2])).length) Slot.unset).toArray = ls at hl ⊢
  have hl : lv_has ls 4 [(0, .ref (ad 0)), (1, .int x1), (2, .int x2)] := hl
  rw [pX10_pays] at h
  refine lv_aload_n hx hb dX10_pays_0 rfl (lv_at hl 0 rfl) ?_
  refine lv_iload_n hx hb dX10_pays_1 rfl (lv_at hl 1 rfl) ?_
  refine rd_calli (va_runV (As := [.int x1]) (rest := []) C0.1 (kX10_isNoAnchor l (D := D) (cI := cI) (cB := cB) (cZ := cZ) (ad := ad) (τ := τ) σ x1) (wX10_pays_X10_isNoAnchor hts ⟨Nat.le_of_ble_eq_true rfl, Nat.le_of_ble_eq_true rfl⟩) ⟨PW.blind, cw_r0 hK hP, PW.mk hP hK hN⟩ rfl rfl hl.1 rfl (lv_room (Nat.le_of_ble_eq_true rfl)) dX10_pays_2 ⟨Nat.zero_le _, Nat.zero_le _⟩) ?_
  refine lv_if_ne (tgt := 23) hx hb dX10_pays_5 (by decide) (fun c5 => ?_) (fun c5 => ?_)
  · replace h := k_in c5 h
    refine lv_iconst (v := (-1)) hx hb dX10_pays_23 (by decide) ?_
    obtain rfl := k_sm h
    exact W.iret hx hb hr (fun t ht hW => ⟨⟨_, _, rfl, ⟨rfl, rfl⟩, pw_end ht hP⟩, hS.F ht⟩) hS.2.2 dX10_pays_24
  · replace h := k_ip c5 h
    refine lv_iload_n hx hb dX10_pays_8 rfl (lv_at hl 2 rfl) ?_
    refine lv_if_eq (tgt := 23) hx hb dX10_pays_9 (by decide) (fun c9 => ?_) (fun c9 => ?_)
    · replace h := k_ip c9 h
      refine lv_iconst (v := (-1)) hx hb dX10_pays_23 (by decide) ?_
      obtain rfl := k_sm h
      exact W.iret hx hb hr (fun t ht hW => ⟨⟨_, _, rfl, ⟨rfl, rfl⟩, pw_end ht hP⟩, hS.F ht⟩) hS.2.2 dX10_pays_24
    · replace h := k_in c9 h
      refine lv_iload_n hx hb dX10_pays_12 rfl (lv_at hl 2 rfl) ?_
      refine lv_bipush (v := (-9)) hx hb dX10_pays_13 (by decide) ?_
      refine lv_bipush (v := 9) hx hb dX10_pays_15 (by decide) ?_
      refine rd_calli (va_runS (As := [.int x2, .int (-9), .int 9]) (rest := []) C0.1 (kX10_isOutside l x2 (-9) 9) (wX10_pays_X10_isOutside hts ⟨Nat.le_of_ble_eq_true rfl, Nat.le_of_ble_eq_true rfl⟩) ⟨PT.blind, fun _ _ _ => ⟨rfl, trivial⟩⟩ rfl rfl hl.1 rfl (lv_room (Nat.le_of_ble_eq_true rfl)) dX10_pays_17 ⟨Nat.zero_le _, Nat.zero_le _⟩) ?_
      refine lv_if_eq (tgt := 25) hx hb dX10_pays_20 (by decide) (fun c20 => ?_) (fun c20 => ?_)
      · replace h := k_ip c20 h
        refine lv_aload_n hx hb dX10_pays_25 rfl (lv_at hl 0 rfl) ?_
        refine va_get (D := D) (ci := 10) (v := .ref (ad 19)) (C := RX10) (T := TX10) (N := 12) hx hb hts iX10_pays_X10 hown hK hP 0 cw_0 rfl 2 (by decide) (hts (.fieldLink RX10 22 RX10 "now" "LAnchorWills$Now;") (by decide +kernel)) (fun _ h9 => h9) rfl dX10_pays_26 ?_
        refine lv_bipush (v := 8) hx hb dX10_pays_29 (by decide) ?_
        refine lv_iload_n hx hb dX10_pays_31 rfl (lv_at hl 1 rfl) ?_
        refine rd_calli (va_runVN (As := [.int 8, .int x1]) (rest := []) C0.1 (kX5_get_20 l (D := D) (cI := cI) (cB := cB) (cZ := cZ) (ad := ad) (τ := τ) σ 8 x1) (wX10_pays_X5_get hts hN ⟨Nat.le_of_ble_eq_true rfl, Nat.le_of_ble_eq_true rfl⟩) ⟨PW.blind, cw_r19 hK hP, PW.mk hP hK hN⟩ rfl rfl hl.1 rfl (lv_room (Nat.le_of_ble_eq_true rfl)) dX10_pays_32 ⟨Nat.zero_le _, Nat.zero_le _⟩) ?_
        refine lv_iload_n hx hb dX10_pays_35 rfl (lv_at hl 2 rfl) ?_
        refine lv_iadd hx hb dX10_pays_36 ?_
        obtain ⟨v1, e2, h⟩ := k_bd h
        refine lv_nmi (k_sm e2) ?_
        refine lv_istore_n (lv' := [(3, .int v1), (0, .ref (ad 0)), (1, .int x1), (2, .int x2)]) hx hb dX10_pays_37 rfl hl (by decide) rfl (fun ls hl => ?_)
        refine lv_aload_n hx hb dX10_pays_38 rfl (lv_at hl 1 rfl) ?_
        refine va_get (D := D) (ci := 10) (v := .ref (ad 19)) (C := RX10) (T := TX10) (N := 12) hx hb hts iX10_pays_X10 hown hK hP 0 cw_0 rfl 2 (by decide) (hts (.fieldLink RX10 22 RX10 "now" "LAnchorWills$Now;") (by decide +kernel)) (fun _ h9 => h9) rfl dX10_pays_39 ?_
        refine lv_iload_n hx hb dX10_pays_42 rfl (lv_at hl 2 rfl) ?_
        refine rd_calli (va_runVN (As := [.int x1]) (rest := []) C0.1 (kX5_lies_20 l (D := D) (cI := cI) (cB := cB) (cZ := cZ) (ad := ad) (τ := τ) σ x1) (wX10_pays_X5_lies hts hN ⟨Nat.le_of_ble_eq_true rfl, Nat.le_of_ble_eq_true rfl⟩) ⟨PW.blind, cw_r19 hK hP, PW.mk hP hK hN⟩ rfl rfl hl.1 rfl (lv_room (Nat.le_of_ble_eq_true rfl)) dX10_pays_43 ⟨Nat.zero_le _, Nat.zero_le _⟩) ?_
        refine lv_if_eq (tgt := 59) hx hb dX10_pays_46 (by decide) (fun c46 => ?_) (fun c46 => ?_)
        · replace h := k_ip c46 h
          refine lv_bipush (v := (-2)) hx hb dX10_pays_59 (by decide) ?_
          obtain rfl := k_sm h
          exact W.iret hx hb hr (fun t ht hW => ⟨⟨_, _, rfl, ⟨rfl, rfl⟩, pw_end ht hP⟩, hS.F ht⟩) hS.2.2 dX10_pays_61
        · replace h := k_in c46 h
          refine lv_iload_n hx hb dX10_pays_49 rfl (lv_at hl 0 rfl) ?_
          refine lv_iconst (v := 1) hx hb dX10_pays_50 (by decide) ?_
          refine lv_bipush (v := 60) hx hb dX10_pays_51 (by decide) ?_
          refine rd_calli (va_runS (As := [.int v1, .int 1, .int 60]) (rest := []) C0.1 (kX10_isOutside l v1 1 60) (wX10_pays_X10_isOutside hts ⟨Nat.le_of_ble_eq_true rfl, Nat.le_of_ble_eq_true rfl⟩) ⟨PT.blind, fun _ _ _ => ⟨rfl, trivial⟩⟩ rfl rfl hl.1 rfl (lv_room (Nat.le_of_ble_eq_true rfl)) dX10_pays_53 ⟨Nat.zero_le _, Nat.zero_le _⟩) ?_
          refine lv_if_eq (tgt := 62) hx hb dX10_pays_56 (by decide) (fun c56 => ?_) (fun c56 => ?_)
          · replace h := k_ip c56 h
            refine lv_aload_n hx hb dX10_pays_62 rfl (lv_at hl 1 rfl) ?_
            refine va_get (D := D) (ci := 10) (v := .ref (ad 21)) (C := RX10) (T := TX10) (N := 12) hx hb hts iX10_pays_X10 hown hK hP 0 cw_0 rfl 3 (by decide) (hts (.fieldLink RX10 29 RX10 "past" "LAnchorWills$Past;") (by decide +kernel)) (fun _ h9 => h9) rfl dX10_pays_63 ?_
            refine lv_aload_n hx hb dX10_pays_66 rfl (lv_at hl 1 rfl) ?_
            refine va_get (D := D) (ci := 10) (v := .ref (ad 19)) (C := RX10) (T := TX10) (N := 12) hx hb hts iX10_pays_X10 hown hK hP 0 cw_0 rfl 2 (by decide) (hts (.fieldLink RX10 22 RX10 "now" "LAnchorWills$Now;") (by decide +kernel)) (fun _ h9 => h9) rfl dX10_pays_67 ?_
            obtain ⟨u3, e4, h⟩ := k_bd h
            refine wr_callv (va_runVN (As := [.ref (ad 19)]) (rest := []) C0.1 (kX6_remembers_20 l (D := D) (cI := cI) (cB := cB) (cZ := cZ) (τ := τ) hap σ  _ e4) (wX10_pays_X6_remembers hts hN ⟨Nat.le_of_ble_eq_true rfl, Nat.le_of_ble_eq_true rfl⟩) ⟨PW.blind, cw_r21 hK hP, PW.mk hP hK hN⟩ rfl rfl hl.1 rfl (lv_room (Nat.le_of_ble_eq_true rfl)) dX10_pays_70 ⟨Nat.zero_le _, Nat.zero_le _⟩) hS (fun _ h => h) (fun H locs hP hS => ?_)
            have hP : va_P D vwCl (CW cI ad τ u3) H := hP
            refine lv_aload_n hx hb dX10_pays_73 rfl (lv_at hl 1 rfl) ?_
            refine va_get (D := D) (ci := 10) (v := .ref (ad 19)) (C := RX10) (T := TX10) (N := 12) hx hb hts iX10_pays_X10 hown hK hP 0 cw_0 rfl 2 (by decide) (hts (.fieldLink RX10 22 RX10 "now" "LAnchorWills$Now;") (by decide +kernel)) (fun _ h9 => h9) rfl dX10_pays_74 ?_
            refine lv_bipush (v := 8) hx hb dX10_pays_77 (by decide) ?_
            refine lv_iload_n hx hb dX10_pays_79 rfl (lv_at hl 2 rfl) ?_
            refine lv_iload_n hx hb dX10_pays_80 rfl (lv_at hl 0 rfl) ?_
            obtain ⟨u5, e6, h⟩ := k_bd h
            refine wr_callv (va_runVN (As := [.int 8, .int x1, .int v1]) (rest := []) C0.1 (kX5_set_20 l (D := D) (cI := cI) (cB := cB) (cZ := cZ) (τ := τ) hap u3 8 x1 v1 _ e6) (wX10_pays_X5_set hts hN ⟨Nat.le_of_ble_eq_true rfl, Nat.le_of_ble_eq_true rfl⟩) ⟨PW.blind, cw_r19 hK hP, PW.mk hP hK hN⟩ rfl rfl hl.1 rfl (lv_room (Nat.le_of_ble_eq_true rfl)) dX10_pays_81 ⟨Nat.zero_le _, Nat.zero_le _⟩) hS (fun _ h => h) (fun H locs hP hS => ?_)
            have hP : va_P D vwCl (CW cI ad τ u5) H := hP
            refine lv_iload_n hx hb dX10_pays_84 rfl (lv_at hl 0 rfl) ?_
            obtain rfl := k_sm h
            exact W.iret hx hb hr (fun t ht hW => ⟨⟨_, _, rfl, ⟨rfl, rfl⟩, pw_end ht hP⟩, hS.F ht⟩) hS.2.2 dX10_pays_85
          · replace h := k_in c56 h
            refine lv_bipush (v := (-2)) hx hb dX10_pays_59 (by decide) ?_
            obtain rfl := k_sm h
            exact W.iret hx hb hr (fun t ht hW => ⟨⟨_, _, rfl, ⟨rfl, rfl⟩, pw_end ht hP⟩, hS.F ht⟩) hS.2.2 dX10_pays_61
      · replace h := k_in c20 h
        refine lv_iconst (v := (-1)) hx hb dX10_pays_23 (by decide) ?_
        obtain rfl := k_sm h
        exact W.iret hx hb hr (fun t ht hW => ⟨⟨_, _, rfl, ⟨rfl, rfl⟩, pw_end ht hP⟩, hS.F ht⟩) hS.2.2 dX10_pays_24
set_option maxHeartbeats 4000000 in
set_option maxRecDepth 100000 in
theorem kX10_dies (l : Launch) {D : va_G} {cI cB cZ : ClassId} {ad : Nat → Nat} {τ : Int64} (hap : cwX ad) (σ : Sg) (x1 : Int32) (o : (Int32 × Sg)) (h : pX10_dies σ x1 = some o) : Met l yX10_dies wsX10_dies rmX10_dies (va_Pc [.ref (ad 0), .int x1] (PW D cI cB cZ (CW cI ad τ σ))) (QI D (CW cI ad τ) (cwA ad) o.1 o.2) 0 0 (cwA ad) := by
  refine Met.ofW (cc := cX10_dies) (maxL := 2) (ret := (some .int)) (by decide) rfl ?_
  intro p e s m args below meth c s₁ B hml hv
  obtain ⟨rfl, hP, hK, hN⟩ := hv
  have C0 : Cx p s m _ meth c cX10_dies 2 (some .int) RX10 wsX10_dies := ⟨⟨B.exec, B.bytes, hml, findClass_of_methodNamed B.named, atoms_spec B.pre⟩, B.returns, B.notSynchronized⟩
  obtain ⟨⟨hx, hb, -, hown, hts⟩, hr, hlk⟩ := id C0
  have hS : va_S (cwA ad) s.heap s.heap [] := va_S.rf
  have hl := lv_entry ([.ref (ad 0), .int x1]) (n := 2) (Nat.le_of_ble_eq_true rfl)
  rw [lg_entry_eq]
  generalize (lg_sl ([.ref (ad 0), .int x1]) ++ List.replicate (2 - (lg_sl ([.ref (ad 0), .int x1])).length) Slot.unset).toArray = ls at hl ⊢
  have hl : lv_has ls 2 [(0, .ref (ad 0)), (1, .int x1)] := hl
  rw [pX10_dies] at h
  refine lv_aload_n hx hb dX10_dies_0 rfl (lv_at hl 0 rfl) ?_
  refine lv_iload_n hx hb dX10_dies_1 rfl (lv_at hl 1 rfl) ?_
  refine rd_calli (va_runV (As := [.int x1]) (rest := []) C0.1 (kX10_isNoRaft l (D := D) (cI := cI) (cB := cB) (cZ := cZ) (ad := ad) (τ := τ) σ x1) (wX10_dies_X10_isNoRaft hts ⟨Nat.le_of_ble_eq_true rfl, Nat.le_of_ble_eq_true rfl⟩) ⟨PW.blind, cw_r0 hK hP, PW.mk hP hK hN⟩ rfl rfl hl.1 rfl (lv_room (Nat.le_of_ble_eq_true rfl)) dX10_dies_2 ⟨Nat.zero_le _, Nat.zero_le _⟩) ?_
  refine lv_if_eq (tgt := 10) hx hb dX10_dies_5 (by decide) (fun c5 => ?_) (fun c5 => ?_)
  · replace h := k_ip c5 h
    refine lv_aload_n hx hb dX10_dies_10 rfl (lv_at hl 0 rfl) ?_
    refine va_get (D := D) (ci := 10) (v := .ref (ad 19)) (C := RX10) (T := TX10) (N := 12) hx hb hts iX10_dies_X10 hown hK hP 0 cw_0 rfl 2 (by decide) (hts (.fieldLink RX10 22 RX10 "now" "LAnchorWills$Now;") (by decide +kernel)) (fun _ h9 => h9) rfl dX10_dies_11 ?_
    refine lv_iload_n hx hb dX10_dies_14 rfl (lv_at hl 1 rfl) ?_
    refine rd_calli (va_runVN (As := [.int x1]) (rest := []) C0.1 (kX5_isGone_20 l (D := D) (cI := cI) (cB := cB) (cZ := cZ) (ad := ad) (τ := τ) σ x1) (wX10_dies_X5_isGone hts hN ⟨Nat.le_of_ble_eq_true rfl, Nat.le_of_ble_eq_true rfl⟩) ⟨PW.blind, cw_r19 hK hP, PW.mk hP hK hN⟩ rfl rfl hl.1 rfl (lv_room (Nat.le_of_ble_eq_true rfl)) dX10_dies_15 ⟨Nat.zero_le _, Nat.zero_le _⟩) ?_
    refine lv_if_eq (tgt := 24) hx hb dX10_dies_18 (by decide) (fun c18 => ?_) (fun c18 => ?_)
    · replace h := k_ip c18 h
      refine lv_aload_n hx hb dX10_dies_24 rfl (lv_at hl 0 rfl) ?_
      refine va_get (D := D) (ci := 10) (v := .ref (ad 21)) (C := RX10) (T := TX10) (N := 12) hx hb hts iX10_dies_X10 hown hK hP 0 cw_0 rfl 3 (by decide) (hts (.fieldLink RX10 29 RX10 "past" "LAnchorWills$Past;") (by decide +kernel)) (fun _ h9 => h9) rfl dX10_dies_25 ?_
      refine lv_aload_n hx hb dX10_dies_28 rfl (lv_at hl 0 rfl) ?_
      refine va_get (D := D) (ci := 10) (v := .ref (ad 19)) (C := RX10) (T := TX10) (N := 12) hx hb hts iX10_dies_X10 hown hK hP 0 cw_0 rfl 2 (by decide) (hts (.fieldLink RX10 22 RX10 "now" "LAnchorWills$Now;") (by decide +kernel)) (fun _ h9 => h9) rfl dX10_dies_29 ?_
      obtain ⟨u1, e2, h⟩ := k_bd h
      refine wr_callv (va_runVN (As := [.ref (ad 19)]) (rest := []) C0.1 (kX6_remembers_20 l (D := D) (cI := cI) (cB := cB) (cZ := cZ) (τ := τ) hap σ  _ e2) (wX10_dies_X6_remembers hts hN ⟨Nat.le_of_ble_eq_true rfl, Nat.le_of_ble_eq_true rfl⟩) ⟨PW.blind, cw_r21 hK hP, PW.mk hP hK hN⟩ rfl rfl hl.1 rfl (lv_room (Nat.le_of_ble_eq_true rfl)) dX10_dies_32 ⟨Nat.zero_le _, Nat.zero_le _⟩) hS (fun _ h => h) (fun H locs hP hS => ?_)
      have hP : va_P D vwCl (CW cI ad τ u1) H := hP
      refine lv_aload_n hx hb dX10_dies_35 rfl (lv_at hl 0 rfl) ?_
      refine va_get (D := D) (ci := 10) (v := .ref (ad 19)) (C := RX10) (T := TX10) (N := 12) hx hb hts iX10_dies_X10 hown hK hP 0 cw_0 rfl 2 (by decide) (hts (.fieldLink RX10 22 RX10 "now" "LAnchorWills$Now;") (by decide +kernel)) (fun _ h9 => h9) rfl dX10_dies_36 ?_
      refine lv_bipush (v := 44) hx hb dX10_dies_39 (by decide) ?_
      refine lv_iconst (v := 0) hx hb dX10_dies_41 (by decide) ?_
      refine lv_aload_n hx hb dX10_dies_42 rfl (lv_at hl 0 rfl) ?_
      refine va_get (D := D) (ci := 10) (v := .ref (ad 19)) (C := RX10) (T := TX10) (N := 12) hx hb hts iX10_dies_X10 hown hK hP 0 cw_0 rfl 2 (by decide) (hts (.fieldLink RX10 22 RX10 "now" "LAnchorWills$Now;") (by decide +kernel)) (fun _ h9 => h9) rfl dX10_dies_43 ?_
      refine rd_calli (va_runVN (As := []) (rest := [.int 0, .int 44, .ref (ad 19)]) C0.1 (kX5_goneRafts_20 l (D := D) (cI := cI) (cB := cB) (cZ := cZ) (ad := ad) (τ := τ) u1 ) (wX10_dies_X5_goneRafts hts hN ⟨Nat.le_of_ble_eq_true rfl, Nat.le_of_ble_eq_true rfl⟩) ⟨PW.blind, cw_r19 hK hP, PW.mk hP hK hN⟩ rfl rfl hl.1 rfl (lv_room (Nat.le_of_ble_eq_true rfl)) dX10_dies_46 ⟨Nat.zero_le _, Nat.zero_le _⟩) ?_
      refine lv_iload_n hx hb dX10_dies_49 rfl (lv_at hl 1 rfl) ?_
      refine rd_calli (va_runS (As := [.int x1]) (rest := [.int (pX5_goneRafts 20 u1), .int 0, .int 44, .ref (ad 19)]) C0.1 (kX10_bit l x1) (wX10_dies_X10_bit hts ⟨Nat.le_of_ble_eq_true rfl, Nat.le_of_ble_eq_true rfl⟩) ⟨PT.blind, fun _ _ _ => ⟨rfl, trivial⟩⟩ rfl rfl hl.1 rfl (lv_room (Nat.le_of_ble_eq_true rfl)) dX10_dies_50 ⟨Nat.zero_le _, Nat.zero_le _⟩) ?_
      refine lv_ior hx hb dX10_dies_53 ?_
      obtain ⟨u3, e4, h⟩ := k_bd h
      refine wr_callv (va_runVN (As := [.int 44, .int 0, .int ((pX5_goneRafts 20 u1) ||| (pX10_bit x1))]) (rest := []) C0.1 (kX5_set_20 l (D := D) (cI := cI) (cB := cB) (cZ := cZ) (τ := τ) hap u1 44 0 ((pX5_goneRafts 20 u1) ||| (pX10_bit x1)) _ e4) (wX10_dies_X5_set hts hN ⟨Nat.le_of_ble_eq_true rfl, Nat.le_of_ble_eq_true rfl⟩) ⟨PW.blind, cw_r19 hK hP, PW.mk hP hK hN⟩ rfl rfl hl.1 rfl (lv_room (Nat.le_of_ble_eq_true rfl)) dX10_dies_54 ⟨Nat.zero_le _, Nat.zero_le _⟩) hS (fun _ h => h) (fun H locs hP hS => ?_)
      have hP : va_P D vwCl (CW cI ad τ u3) H := hP
      refine lv_aload_n hx hb dX10_dies_57 rfl (lv_at hl 0 rfl) ?_
      refine va_get (D := D) (ci := 10) (v := .ref (ad 19)) (C := RX10) (T := TX10) (N := 12) hx hb hts iX10_dies_X10 hown hK hP 0 cw_0 rfl 2 (by decide) (hts (.fieldLink RX10 22 RX10 "now" "LAnchorWills$Now;") (by decide +kernel)) (fun _ h9 => h9) rfl dX10_dies_58 ?_
      refine rd_calli (va_runVN (As := []) (rest := []) C0.1 (kX5_goneRafts_20 l (D := D) (cI := cI) (cB := cB) (cZ := cZ) (ad := ad) (τ := τ) u3 ) (wX10_dies_X5_goneRafts hts hN ⟨Nat.le_of_ble_eq_true rfl, Nat.le_of_ble_eq_true rfl⟩) ⟨PW.blind, cw_r19 hK hP, PW.mk hP hK hN⟩ rfl rfl hl.1 rfl (lv_room (Nat.le_of_ble_eq_true rfl)) dX10_dies_61 ⟨Nat.zero_le _, Nat.zero_le _⟩) ?_
      refine rd_calli (va_runS (As := [.int (pX5_goneRafts 20 u3)]) (rest := []) C0.1 (kJ6_bitCount l (pX5_goneRafts 20 u3)) (wX10_dies_J6_bitCount_0f7a4 hts ⟨Nat.le_of_ble_eq_true rfl, Nat.le_of_ble_eq_true rfl⟩) ⟨PT.blind, fun _ _ _ => ⟨rfl, trivial⟩⟩ rfl rfl hl.1 rfl (lv_room (Nat.le_of_ble_eq_true rfl)) dX10_dies_64 ⟨Nat.zero_le _, Nat.zero_le _⟩) ?_
      obtain rfl := k_sm h
      exact W.iret hx hb hr (fun t ht hW => ⟨⟨_, _, rfl, ⟨rfl, rfl⟩, pw_end ht hP⟩, hS.F ht⟩) hS.2.2 dX10_dies_67
    · replace h := k_in c18 h
      refine lv_bipush (v := (-2)) hx hb dX10_dies_21 (by decide) ?_
      obtain rfl := k_sm h
      exact W.iret hx hb hr (fun t ht hW => ⟨⟨_, _, rfl, ⟨rfl, rfl⟩, pw_end ht hP⟩, hS.F ht⟩) hS.2.2 dX10_dies_23
  · replace h := k_in c5 h
    refine lv_iconst (v := (-1)) hx hb dX10_dies_8 (by decide) ?_
    obtain rfl := k_sm h
    exact W.iret hx hb hr (fun t ht hW => ⟨⟨_, _, rfl, ⟨rfl, rfl⟩, pw_end ht hP⟩, hS.F ht⟩) hS.2.2 dX10_dies_9
set_option maxHeartbeats 4000000 in
set_option maxRecDepth 100000 in
theorem kX10_wills (l : Launch) {D : va_G} {cI cB cZ : ClassId} {ad : Nat → Nat} {τ : Int64} (hap : cwX ad) (σ : Sg) (x1 : Int32) (x2 : Int32) (o : (Int32 × Sg)) (h : pX10_wills σ x1 x2 = some o) : Met l yX10_wills wsX10_wills rmX10_wills (va_Pc [.ref (ad 0), .int x1, .int x2] (PW D cI cB cZ (CW cI ad τ σ))) (QI D (CW cI ad τ) (cwA ad) o.1 o.2) 0 0 (cwA ad) := by
  refine Met.ofW (cc := cX10_wills) (maxL := 4) (ret := (some .int)) (by decide) rfl ?_
  intro p e s m args below meth c s₁ B hml hv
  obtain ⟨rfl, hP, hK, hN⟩ := hv
  have C0 : Cx p s m _ meth c cX10_wills 4 (some .int) RX10 wsX10_wills := ⟨⟨B.exec, B.bytes, hml, findClass_of_methodNamed B.named, atoms_spec B.pre⟩, B.returns, B.notSynchronized⟩
  obtain ⟨⟨hx, hb, -, hown, hts⟩, hr, hlk⟩ := id C0
  have hS : va_S (cwA ad) s.heap s.heap [] := va_S.rf
  have hl := lv_entry ([.ref (ad 0), .int x1, .int x2]) (n := 4) (Nat.le_of_ble_eq_true rfl)
  rw [lg_entry_eq]
  generalize (lg_sl ([.ref (ad 0), .int x1, .int x2]) ++ List.replicate (4 - (lg_sl ([.ref (ad 0), .int x1, .int x2])).length) Slot.unset).toArray = ls at hl ⊢
  have hl : lv_has ls 4 [(0, .ref (ad 0)), (1, .int x1), (2, .int x2)] := hl
  rw [pX10_wills] at h
  refine lv_aload_n hx hb dX10_wills_0 rfl (lv_at hl 0 rfl) ?_
  refine lv_iload_n hx hb dX10_wills_1 rfl (lv_at hl 1 rfl) ?_
  refine rd_calli (va_runV (As := [.int x1]) (rest := []) C0.1 (kX10_isNoRaft l (D := D) (cI := cI) (cB := cB) (cZ := cZ) (ad := ad) (τ := τ) σ x1) (wX10_wills_X10_isNoRaft hts ⟨Nat.le_of_ble_eq_true rfl, Nat.le_of_ble_eq_true rfl⟩) ⟨PW.blind, cw_r0 hK hP, PW.mk hP hK hN⟩ rfl rfl hl.1 rfl (lv_room (Nat.le_of_ble_eq_true rfl)) dX10_wills_2 ⟨Nat.zero_le _, Nat.zero_le _⟩) ?_
  refine lv_if_ne (tgt := 16) hx hb dX10_wills_5 (by decide) (fun c5 => ?_) (fun c5 => ?_)
  · replace h := k_in c5 h
    refine lv_iconst (v := (-1)) hx hb dX10_wills_16 (by decide) ?_
    obtain rfl := k_sm h
    exact W.iret hx hb hr (fun t ht hW => ⟨⟨_, _, rfl, ⟨rfl, rfl⟩, pw_end ht hP⟩, hS.F ht⟩) hS.2.2 dX10_wills_17
  · replace h := k_ip c5 h
    refine lv_aload_n hx hb dX10_wills_8 rfl (lv_at hl 0 rfl) ?_
    refine lv_iload_n hx hb dX10_wills_9 rfl (lv_at hl 2 rfl) ?_
    refine rd_calli (va_runV (As := [.int x2]) (rest := []) C0.1 (kX10_isNoRaft l (D := D) (cI := cI) (cB := cB) (cZ := cZ) (ad := ad) (τ := τ) σ x2) (wX10_wills_X10_isNoRaft hts ⟨Nat.le_of_ble_eq_true rfl, Nat.le_of_ble_eq_true rfl⟩) ⟨PW.blind, cw_r0 hK hP, PW.mk hP hK hN⟩ rfl rfl hl.1 rfl (lv_room (Nat.le_of_ble_eq_true rfl)) dX10_wills_10 ⟨Nat.zero_le _, Nat.zero_le _⟩) ?_
    refine lv_if_eq (tgt := 18) hx hb dX10_wills_13 (by decide) (fun c13 => ?_) (fun c13 => ?_)
    · replace h := k_ip c13 h
      refine lv_aload_n hx hb dX10_wills_18 rfl (lv_at hl 0 rfl) ?_
      refine va_get (D := D) (ci := 10) (v := .ref (ad 19)) (C := RX10) (T := TX10) (N := 12) hx hb hts iX10_wills_X10 hown hK hP 0 cw_0 rfl 2 (by decide) (hts (.fieldLink RX10 22 RX10 "now" "LAnchorWills$Now;") (by decide +kernel)) (fun _ h9 => h9) rfl dX10_wills_19 ?_
      refine lv_bipush (v := 32) hx hb dX10_wills_22 (by decide) ?_
      refine lv_iload_n hx hb dX10_wills_24 rfl (lv_at hl 1 rfl) ?_
      refine rd_calli (va_runVN (As := [.int 32, .int x1]) (rest := []) C0.1 (kX5_get_20 l (D := D) (cI := cI) (cB := cB) (cZ := cZ) (ad := ad) (τ := τ) σ 32 x1) (wX10_wills_X5_get hts hN ⟨Nat.le_of_ble_eq_true rfl, Nat.le_of_ble_eq_true rfl⟩) ⟨PW.blind, cw_r19 hK hP, PW.mk hP hK hN⟩ rfl rfl hl.1 rfl (lv_room (Nat.le_of_ble_eq_true rfl)) dX10_wills_25 ⟨Nat.zero_le _, Nat.zero_le _⟩) ?_
      obtain ⟨v1, e2, h⟩ := k_bd h
      refine lv_nmi (k_sm e2) ?_
      refine lv_istore_n (lv' := [(3, .int v1), (0, .ref (ad 0)), (1, .int x1), (2, .int x2)]) hx hb dX10_wills_28 rfl hl (by decide) rfl (fun ls hl => ?_)
      refine lv_aload_n hx hb dX10_wills_29 rfl (lv_at hl 1 rfl) ?_
      refine va_get (D := D) (ci := 10) (v := .ref (ad 19)) (C := RX10) (T := TX10) (N := 12) hx hb hts iX10_wills_X10 hown hK hP 0 cw_0 rfl 2 (by decide) (hts (.fieldLink RX10 22 RX10 "now" "LAnchorWills$Now;") (by decide +kernel)) (fun _ h9 => h9) rfl dX10_wills_30 ?_
      refine lv_iload_n hx hb dX10_wills_33 rfl (lv_at hl 2 rfl) ?_
      refine rd_calli (va_runVN (As := [.int x1]) (rest := []) C0.1 (kX5_isGone_20 l (D := D) (cI := cI) (cB := cB) (cZ := cZ) (ad := ad) (τ := τ) σ x1) (wX10_wills_X5_isGone hts hN ⟨Nat.le_of_ble_eq_true rfl, Nat.le_of_ble_eq_true rfl⟩) ⟨PW.blind, cw_r19 hK hP, PW.mk hP hK hN⟩ rfl rfl hl.1 rfl (lv_room (Nat.le_of_ble_eq_true rfl)) dX10_wills_34 ⟨Nat.zero_le _, Nat.zero_le _⟩) ?_
      refine lv_if_ne (tgt := 45) hx hb dX10_wills_37 (by decide) (fun c37 => ?_) (fun c37 => ?_)
      · replace h := k_in c37 h
        refine lv_bipush (v := (-2)) hx hb dX10_wills_45 (by decide) ?_
        obtain rfl := k_sm h
        exact W.iret hx hb hr (fun t ht hW => ⟨⟨_, _, rfl, ⟨rfl, rfl⟩, pw_end ht hP⟩, hS.F ht⟩) hS.2.2 dX10_wills_47
      · replace h := k_ip c37 h
        refine lv_iload_n hx hb dX10_wills_40 rfl (lv_at hl 0 rfl) ?_
        refine lv_iload_n hx hb dX10_wills_41 rfl (lv_at hl 3 rfl) ?_
        refine lv_icmp_ne (tgt := 48) hx hb dX10_wills_42 (by decide) (fun c42 => ?_) (fun c42 => ?_)
        · replace h := k_in c42 h
          refine lv_aload_n hx hb dX10_wills_48 rfl (lv_at hl 1 rfl) ?_
          refine va_get (D := D) (ci := 10) (v := .ref (ad 21)) (C := RX10) (T := TX10) (N := 12) hx hb hts iX10_wills_X10 hown hK hP 0 cw_0 rfl 3 (by decide) (hts (.fieldLink RX10 29 RX10 "past" "LAnchorWills$Past;") (by decide +kernel)) (fun _ h9 => h9) rfl dX10_wills_49 ?_
          refine lv_aload_n hx hb dX10_wills_52 rfl (lv_at hl 1 rfl) ?_
          refine va_get (D := D) (ci := 10) (v := .ref (ad 19)) (C := RX10) (T := TX10) (N := 12) hx hb hts iX10_wills_X10 hown hK hP 0 cw_0 rfl 2 (by decide) (hts (.fieldLink RX10 22 RX10 "now" "LAnchorWills$Now;") (by decide +kernel)) (fun _ h9 => h9) rfl dX10_wills_53 ?_
          obtain ⟨u3, e4, h⟩ := k_bd h
          refine wr_callv (va_runVN (As := [.ref (ad 19)]) (rest := []) C0.1 (kX6_remembers_20 l (D := D) (cI := cI) (cB := cB) (cZ := cZ) (τ := τ) hap σ  _ e4) (wX10_wills_X6_remembers hts hN ⟨Nat.le_of_ble_eq_true rfl, Nat.le_of_ble_eq_true rfl⟩) ⟨PW.blind, cw_r21 hK hP, PW.mk hP hK hN⟩ rfl rfl hl.1 rfl (lv_room (Nat.le_of_ble_eq_true rfl)) dX10_wills_56 ⟨Nat.zero_le _, Nat.zero_le _⟩) hS (fun _ h => h) (fun H locs hP hS => ?_)
          have hP : va_P D vwCl (CW cI ad τ u3) H := hP
          refine lv_aload_n hx hb dX10_wills_59 rfl (lv_at hl 1 rfl) ?_
          refine va_get (D := D) (ci := 10) (v := .ref (ad 19)) (C := RX10) (T := TX10) (N := 12) hx hb hts iX10_wills_X10 hown hK hP 0 cw_0 rfl 2 (by decide) (hts (.fieldLink RX10 22 RX10 "now" "LAnchorWills$Now;") (by decide +kernel)) (fun _ h9 => h9) rfl dX10_wills_60 ?_
          refine lv_bipush (v := 32) hx hb dX10_wills_63 (by decide) ?_
          refine lv_iload_n hx hb dX10_wills_65 rfl (lv_at hl 2 rfl) ?_
          refine lv_iload_n hx hb dX10_wills_66 rfl (lv_at hl 3 rfl) ?_
          obtain ⟨u5, e6, h⟩ := k_bd h
          refine wr_callv (va_runVN (As := [.int 32, .int x1, .int x2]) (rest := []) C0.1 (kX5_set_20 l (D := D) (cI := cI) (cB := cB) (cZ := cZ) (τ := τ) hap u3 32 x1 x2 _ e6) (wX10_wills_X5_set hts hN ⟨Nat.le_of_ble_eq_true rfl, Nat.le_of_ble_eq_true rfl⟩) ⟨PW.blind, cw_r19 hK hP, PW.mk hP hK hN⟩ rfl rfl hl.1 rfl (lv_room (Nat.le_of_ble_eq_true rfl)) dX10_wills_67 ⟨Nat.zero_le _, Nat.zero_le _⟩) hS (fun _ h => h) (fun H locs hP hS => ?_)
          have hP : va_P D vwCl (CW cI ad τ u5) H := hP
          refine lv_iload_n hx hb dX10_wills_70 rfl (lv_at hl 0 rfl) ?_
          obtain rfl := k_sm h
          exact W.iret hx hb hr (fun t ht hW => ⟨⟨_, _, rfl, ⟨rfl, rfl⟩, pw_end ht hP⟩, hS.F ht⟩) hS.2.2 dX10_wills_71
        · replace h := k_ip c42 h
          refine lv_bipush (v := (-2)) hx hb dX10_wills_45 (by decide) ?_
          obtain rfl := k_sm h
          exact W.iret hx hb hr (fun t ht hW => ⟨⟨_, _, rfl, ⟨rfl, rfl⟩, pw_end ht hP⟩, hS.F ht⟩) hS.2.2 dX10_wills_47
    · replace h := k_in c13 h
      refine lv_iconst (v := (-1)) hx hb dX10_wills_16 (by decide) ?_
      obtain rfl := k_sm h
      exact W.iret hx hb hr (fun t ht hW => ⟨⟨_, _, rfl, ⟨rfl, rfl⟩, pw_end ht hP⟩, hS.F ht⟩) hS.2.2 dX10_wills_17
set_option maxHeartbeats 4000000 in
set_option maxRecDepth 100000 in
theorem bX10_year_L15 {p : Program} {l : Launch} {e : Env} {s : State} {m : MethodId} {args : Array Value} {below : List Frame} {meth : Method} {c : Code} {Q : State → Prop} {D : va_G} {cI cB cZ : ClassId} {ad : Nat → Nat} (C0 : Cx p s m args meth c cX10_year 4 (some .int) RX10 wsX10_year) (hK : va_K D vwCl (tysA cI cB cZ) s) (hN : NW s) (hap : cwX ad) {τ : Int64}  : ∀ (n : Nat) (x1 : Int32) (x2 : Int32) (σ : Sg) (v : (Int32 × Sg)) (H : Heap) (locs : List Loc) (ls : Array Slot), va_P D vwCl (CW cI ad τ σ) H → va_S (cwA ad) s.heap H locs → lv_has ls 4 [(0, .ref (ad 0)), (1, .int x1), (2, .int x2)] → pX10_year_L15  n x1 x2 σ = some v → (∀ (H1 : Heap) (locs1 : List Loc) (ls1 : Array Slot), va_P D vwCl (CW cI ad τ v.2) H1 → va_S (cwA ad) s.heap H1 locs1 → lv_has ls1 4 [(1, .int v.1)] → W p l e rmX10_year s m args below meth c H1 locs1 0 0 Q (F0 m 76 ls1 [])) → W p l e rmX10_year s m args below meth c H locs 0 0 Q (F0 m 15 ls []) := by
  obtain ⟨⟨hx, hb, hml, hown, hts⟩, hr, hlk⟩ := id C0
  intro n
  induction n with
  | zero =>
    intro x1 x2 σ v H locs ls hP hS hl h kk
    exact absurd h (by simp [pX10_year_L15])
  | succ n ih =>
    intro x1 x2 σ v H locs ls hP hS hl h kk
    rw [pX10_year_L15] at h
    refine lv_iload_n hx hb dX10_year_15 rfl (lv_at hl 2 rfl) ?_
    refine lv_aload_n hx hb dX10_year_16 rfl (lv_at hl 0 rfl) ?_
    refine va_get (D := D) (ci := 10) (v := .ref (ad 1)) (C := RX10) (T := TX10) (N := 12) hx hb hts iX10_year_X10 hown hK hP 0 cw_0 rfl 0 (by decide) (hts (.fieldLink RX10 10 RX10 "told" "LAnchorWills$Told;") (by decide +kernel)) (fun _ h9 => h9) rfl dX10_year_17 ?_
    refine va_getN (D := D) (ci := 9) (v := .int (σ 1 8)) (C := RX9) (T := TX9) (N := 10) hx hb hts iX10_year_X9 hown hK hP 1 cw_1 rfl 8 (by decide) (va_Nw.use rfl (nf_X10_203 hN)) (fun _ h9 => h9) rfl dX10_year_20 ?_
    refine lv_icmp_ge (tgt := 76) hx hb dX10_year_23 (by decide) (fun c23 => ?_) (fun c23 => ?_)
    · replace h := k_ip c23 h
      obtain rfl := k_sm h
      exact kk _ _ _ hP hS (lv_sub hl [1] rfl)
    · replace h := k_in c23 h
      refine lv_aload_n hx hb dX10_year_26 rfl (lv_at hl 0 rfl) ?_
      refine va_get (D := D) (ci := 10) (v := .ref (ad 19)) (C := RX10) (T := TX10) (N := 12) hx hb hts iX10_year_X10 hown hK hP 0 cw_0 rfl 2 (by decide) (hts (.fieldLink RX10 22 RX10 "now" "LAnchorWills$Now;") (by decide +kernel)) (fun _ h9 => h9) rfl dX10_year_27 ?_
      refine lv_iload_n hx hb dX10_year_30 rfl (lv_at hl 2 rfl) ?_
      refine rd_calli (va_runVN (As := [.int x2]) (rest := []) C0.1 (kX5_lies_20 l (D := D) (cI := cI) (cB := cB) (cZ := cZ) (ad := ad) (τ := τ) σ x2) (wX10_year_X5_lies hts hN ⟨Nat.le_of_ble_eq_true rfl, Nat.le_of_ble_eq_true rfl⟩) ⟨PW.blind, cw_r19 hK hP, PW.mk hP hK hN⟩ rfl rfl hl.1 rfl (lv_room (Nat.le_of_ble_eq_true rfl)) dX10_year_31 ⟨Nat.zero_le _, Nat.zero_le _⟩) ?_
      refine lv_if_eq (tgt := 70) hx hb dX10_year_34 (by decide) (fun c34 => ?_) (fun c34 => ?_)
      · replace h := k_ip c34 h
        refine lv_iinc (v := (x2 + 1)) (lv' := [(2, .int (x2 + 1)), (0, .ref (ad 0)), (1, .int x1)]) hx hb dX10_year_70 hl (k := 2) rfl rfl (by decide) rfl (fun ls hl => ?_)
        refine lv_goto (tgt := 15) hx hb dX10_year_73 (by decide) ?_
        exact ih x1 (x2 + 1) σ _ _ _ ls hP hS (lv_sub hl [1, 2, 0] rfl) h kk
      · replace h := k_in c34 h
        refine lv_aload_n hx hb dX10_year_37 rfl (lv_at hl 0 rfl) ?_
        refine va_get (D := D) (ci := 10) (v := .ref (ad 19)) (C := RX10) (T := TX10) (N := 12) hx hb hts iX10_year_X10 hown hK hP 0 cw_0 rfl 2 (by decide) (hts (.fieldLink RX10 22 RX10 "now" "LAnchorWills$Now;") (by decide +kernel)) (fun _ h9 => h9) rfl dX10_year_38 ?_
        refine lv_bipush (v := 16) hx hb dX10_year_41 (by decide) ?_
        refine lv_iload_n hx hb dX10_year_43 rfl (lv_at hl 2 rfl) ?_
        refine rd_calli (va_runVN (As := [.int 16, .int x2]) (rest := []) C0.1 (kX5_get_20 l (D := D) (cI := cI) (cB := cB) (cZ := cZ) (ad := ad) (τ := τ) σ 16 x2) (wX10_year_X5_get hts hN ⟨Nat.le_of_ble_eq_true rfl, Nat.le_of_ble_eq_true rfl⟩) ⟨PW.blind, cw_r19 hK hP, PW.mk hP hK hN⟩ rfl rfl hl.1 rfl (lv_room (Nat.le_of_ble_eq_true rfl)) dX10_year_44 ⟨Nat.zero_le _, Nat.zero_le _⟩) ?_
        refine lv_iconst (v := 1) hx hb dX10_year_47 (by decide) ?_
        refine lv_iadd hx hb dX10_year_48 ?_
        refine lv_bipush (v := 99) hx hb dX10_year_49 (by decide) ?_
        refine va_mmin hx hb (hml.trans hl.1.symm) hown (hts (.methodLink RX10 206 Lib.Math.min.name) (by decide +kernel)) (hts (.static Lib.Math.min.name) (by decide +kernel)) (hts (.initialized "java/lang/Math") (by decide +kernel)) (hts (.code Lib.Math.min.name Lib.Math.min.code 2 (some .int)) (by decide +kernel)) (Nat.le_of_ble_eq_true rfl) (Nat.le_of_ble_eq_true rfl) (Nat.zero_le _) (Nat.zero_le _) dX10_year_51 ?_
        obtain ⟨v3, e4, h⟩ := k_bd h
        refine lv_nmi (k_sm e4) ?_
        refine lv_istore_n (lv' := [(3, .int v3), (0, .ref (ad 0)), (1, .int x1), (2, .int x2)]) hx hb dX10_year_54 rfl hl (by decide) rfl (fun ls hl => ?_)
        refine lv_aload_n hx hb dX10_year_55 rfl (lv_at hl 1 rfl) ?_
        refine va_get (D := D) (ci := 10) (v := .ref (ad 19)) (C := RX10) (T := TX10) (N := 12) hx hb hts iX10_year_X10 hown hK hP 0 cw_0 rfl 2 (by decide) (hts (.fieldLink RX10 22 RX10 "now" "LAnchorWills$Now;") (by decide +kernel)) (fun _ h9 => h9) rfl dX10_year_56 ?_
        refine lv_bipush (v := 16) hx hb dX10_year_59 (by decide) ?_
        refine lv_iload_n hx hb dX10_year_61 rfl (lv_at hl 3 rfl) ?_
        refine lv_iload_n hx hb dX10_year_62 rfl (lv_at hl 0 rfl) ?_
        obtain ⟨u5, e6, h⟩ := k_bd h
        refine wr_callv (va_runVN (As := [.int 16, .int x2, .int v3]) (rest := []) C0.1 (kX5_set_20 l (D := D) (cI := cI) (cB := cB) (cZ := cZ) (τ := τ) hap σ 16 x2 v3 _ e6) (wX10_year_X5_set hts hN ⟨Nat.le_of_ble_eq_true rfl, Nat.le_of_ble_eq_true rfl⟩) ⟨PW.blind, cw_r19 hK hP, PW.mk hP hK hN⟩ rfl rfl hl.1 rfl (lv_room (Nat.le_of_ble_eq_true rfl)) dX10_year_63 ⟨Nat.zero_le _, Nat.zero_le _⟩) hS (fun _ h => h) (fun H locs hP hS => ?_)
        have hP : va_P D vwCl (CW cI ad τ u5) H := hP
        refine lv_iload_n hx hb dX10_year_66 rfl (lv_at hl 2 rfl) ?_
        refine lv_iload_n hx hb dX10_year_67 rfl (lv_at hl 0 rfl) ?_
        refine lv_iadd hx hb dX10_year_68 ?_
        obtain ⟨v7, e8, h⟩ := k_bd h
        refine lv_nmi (k_sm e8) ?_
        refine lv_istore_n (lv' := [(1, .int v7), (3, .int v3), (0, .ref (ad 0)), (2, .int x2)]) hx hb dX10_year_69 rfl hl (by decide) rfl (fun ls hl => ?_)
        refine lv_iinc (v := (x2 + 1)) (lv' := [(2, .int (x2 + 1)), (1, .int v7), (3, .int v3), (0, .ref (ad 0))]) hx hb dX10_year_70 hl (k := 3) rfl rfl (by decide) rfl (fun ls hl => ?_)
        refine lv_goto (tgt := 15) hx hb dX10_year_73 (by decide) ?_
        exact ih v7 (x2 + 1) u5 _ _ _ ls hP hS (lv_sub hl [3, 1, 0] rfl) h kk
set_option maxHeartbeats 4000000 in
set_option maxRecDepth 100000 in
theorem kX10_year (l : Launch) {D : va_G} {cI cB cZ : ClassId} {ad : Nat → Nat} {τ : Int64} (hap : cwX ad) (σ : Sg) (o : (Int32 × Sg)) (h : pX10_year σ = some o) : Met l yX10_year wsX10_year rmX10_year (va_Pc [.ref (ad 0)] (PW D cI cB cZ (CW cI ad τ σ))) (QI D (CW cI ad τ) (cwA ad) o.1 o.2) 0 0 (cwA ad) := by
  refine Met.ofW (cc := cX10_year) (maxL := 4) (ret := (some .int)) (by decide) rfl ?_
  intro p e s m args below meth c s₁ B hml hv
  obtain ⟨rfl, hP, hK, hN⟩ := hv
  have C0 : Cx p s m _ meth c cX10_year 4 (some .int) RX10 wsX10_year := ⟨⟨B.exec, B.bytes, hml, findClass_of_methodNamed B.named, atoms_spec B.pre⟩, B.returns, B.notSynchronized⟩
  obtain ⟨⟨hx, hb, -, hown, hts⟩, hr, hlk⟩ := id C0
  have hS : va_S (cwA ad) s.heap s.heap [] := va_S.rf
  have hl := lv_entry ([.ref (ad 0)]) (n := 4) (Nat.le_of_ble_eq_true rfl)
  rw [lg_entry_eq]
  generalize (lg_sl ([.ref (ad 0)]) ++ List.replicate (4 - (lg_sl ([.ref (ad 0)])).length) Slot.unset).toArray = ls at hl ⊢
  have hl : lv_has ls 4 [(0, .ref (ad 0))] := hl
  rw [pX10_year] at h
  refine lv_aload_n hx hb dX10_year_0 rfl (lv_at hl 0 rfl) ?_
  refine va_get (D := D) (ci := 10) (v := .ref (ad 21)) (C := RX10) (T := TX10) (N := 12) hx hb hts iX10_year_X10 hown hK hP 0 cw_0 rfl 3 (by decide) (hts (.fieldLink RX10 29 RX10 "past" "LAnchorWills$Past;") (by decide +kernel)) (fun _ h9 => h9) rfl dX10_year_1 ?_
  refine lv_aload_n hx hb dX10_year_4 rfl (lv_at hl 0 rfl) ?_
  refine va_get (D := D) (ci := 10) (v := .ref (ad 19)) (C := RX10) (T := TX10) (N := 12) hx hb hts iX10_year_X10 hown hK hP 0 cw_0 rfl 2 (by decide) (hts (.fieldLink RX10 22 RX10 "now" "LAnchorWills$Now;") (by decide +kernel)) (fun _ h9 => h9) rfl dX10_year_5 ?_
  obtain ⟨u1, e2, h⟩ := k_bd h
  refine wr_callv (va_runVN (As := [.ref (ad 19)]) (rest := []) C0.1 (kX6_remembers_20 l (D := D) (cI := cI) (cB := cB) (cZ := cZ) (τ := τ) hap σ  _ e2) (wX10_year_X6_remembers hts hN ⟨Nat.le_of_ble_eq_true rfl, Nat.le_of_ble_eq_true rfl⟩) ⟨PW.blind, cw_r21 hK hP, PW.mk hP hK hN⟩ rfl rfl hl.1 rfl (lv_room (Nat.le_of_ble_eq_true rfl)) dX10_year_8 ⟨Nat.zero_le _, Nat.zero_le _⟩) hS (fun _ h => h) (fun H locs hP hS => ?_)
  have hP : va_P D vwCl (CW cI ad τ u1) H := hP
  refine lv_iconst (v := 0) hx hb dX10_year_11 (by decide) ?_
  refine lv_istore_n (lv' := [(1, .int 0), (0, .ref (ad 0))]) hx hb dX10_year_12 rfl hl (by decide) rfl (fun ls hl => ?_)
  refine lv_iconst (v := 0) hx hb dX10_year_13 (by decide) ?_
  refine lv_istore_n (lv' := [(2, .int 0), (1, .int 0), (0, .ref (ad 0))]) hx hb dX10_year_14 rfl hl (by decide) rfl (fun ls hl => ?_)
  obtain ⟨w9, e10, h⟩ := k_bd h
  refine bX10_year_L15 C0 hK hN hap  2000 0 0 u1 _ _ _ ls hP hS (lv_sub hl [2, 1, 0] rfl) e10 (fun H locs ls hP hS hl => ?_)
  refine lv_iload_n hx hb dX10_year_76 rfl (lv_at hl 0 rfl) ?_
  obtain rfl := k_sm h
  exact W.iret hx hb hr (fun t ht hW => ⟨⟨_, _, rfl, ⟨rfl, rfl⟩, pw_end ht hP⟩, hS.F ht⟩) hS.2.2 dX10_year_77
set_option maxHeartbeats 4000000 in
set_option maxRecDepth 100000 in
theorem kX10_hauls (l : Launch) {D : va_G} {cI cB cZ : ClassId} {ad : Nat → Nat} {τ : Int64} (hap : cwX ad) (σ : Sg) (x1 : Int32) (x2 : Int32) (o : (Int32 × Sg)) (h : pX10_hauls σ x1 x2 = some o) : Met l yX10_hauls wsX10_hauls rmX10_hauls (va_Pc [.ref (ad 0), .int x1, .int x2] (PW D cI cB cZ (CW cI ad τ σ))) (QI D (CW cI ad τ) (cwA ad) o.1 o.2) 0 0 (cwA ad) := by
  refine Met.ofW (cc := cX10_hauls) (maxL := 4) (ret := (some .int)) (by decide) rfl ?_
  intro p e s m args below meth c s₁ B hml hv
  obtain ⟨rfl, hP, hK, hN⟩ := hv
  have C0 : Cx p s m _ meth c cX10_hauls 4 (some .int) RX10 wsX10_hauls := ⟨⟨B.exec, B.bytes, hml, findClass_of_methodNamed B.named, atoms_spec B.pre⟩, B.returns, B.notSynchronized⟩
  obtain ⟨⟨hx, hb, -, hown, hts⟩, hr, hlk⟩ := id C0
  have hS : va_S (cwA ad) s.heap s.heap [] := va_S.rf
  have hl := lv_entry ([.ref (ad 0), .int x1, .int x2]) (n := 4) (Nat.le_of_ble_eq_true rfl)
  rw [lg_entry_eq]
  generalize (lg_sl ([.ref (ad 0), .int x1, .int x2]) ++ List.replicate (4 - (lg_sl ([.ref (ad 0), .int x1, .int x2])).length) Slot.unset).toArray = ls at hl ⊢
  have hl : lv_has ls 4 [(0, .ref (ad 0)), (1, .int x1), (2, .int x2)] := hl
  rw [pX10_hauls] at h
  refine lv_aload_n hx hb dX10_hauls_0 rfl (lv_at hl 0 rfl) ?_
  refine lv_iload_n hx hb dX10_hauls_1 rfl (lv_at hl 1 rfl) ?_
  refine rd_calli (va_runV (As := [.int x1]) (rest := []) C0.1 (kX10_isNoRaft l (D := D) (cI := cI) (cB := cB) (cZ := cZ) (ad := ad) (τ := τ) σ x1) (wX10_hauls_X10_isNoRaft hts ⟨Nat.le_of_ble_eq_true rfl, Nat.le_of_ble_eq_true rfl⟩) ⟨PW.blind, cw_r0 hK hP, PW.mk hP hK hN⟩ rfl rfl hl.1 rfl (lv_room (Nat.le_of_ble_eq_true rfl)) dX10_hauls_2 ⟨Nat.zero_le _, Nat.zero_le _⟩) ?_
  refine lv_if_ne (tgt := 16) hx hb dX10_hauls_5 (by decide) (fun c5 => ?_) (fun c5 => ?_)
  · replace h := k_in c5 h
    refine lv_iconst (v := (-1)) hx hb dX10_hauls_16 (by decide) ?_
    obtain rfl := k_sm h
    exact W.iret hx hb hr (fun t ht hW => ⟨⟨_, _, rfl, ⟨rfl, rfl⟩, pw_end ht hP⟩, hS.F ht⟩) hS.2.2 dX10_hauls_17
  · replace h := k_ip c5 h
    refine lv_aload_n hx hb dX10_hauls_8 rfl (lv_at hl 0 rfl) ?_
    refine lv_iload_n hx hb dX10_hauls_9 rfl (lv_at hl 2 rfl) ?_
    refine rd_calli (va_runV (As := [.int x2]) (rest := []) C0.1 (kX10_isNoAnchor l (D := D) (cI := cI) (cB := cB) (cZ := cZ) (ad := ad) (τ := τ) σ x2) (wX10_hauls_X10_isNoAnchor hts ⟨Nat.le_of_ble_eq_true rfl, Nat.le_of_ble_eq_true rfl⟩) ⟨PW.blind, cw_r0 hK hP, PW.mk hP hK hN⟩ rfl rfl hl.1 rfl (lv_room (Nat.le_of_ble_eq_true rfl)) dX10_hauls_10 ⟨Nat.zero_le _, Nat.zero_le _⟩) ?_
    refine lv_if_eq (tgt := 18) hx hb dX10_hauls_13 (by decide) (fun c13 => ?_) (fun c13 => ?_)
    · replace h := k_ip c13 h
      refine lv_aload_n hx hb dX10_hauls_18 rfl (lv_at hl 0 rfl) ?_
      refine va_get (D := D) (ci := 10) (v := .ref (ad 42)) (C := RX10) (T := TX10) (N := 12) hx hb hts iX10_hauls_X10 hown hK hP 0 cw_0 rfl 9 (by decide) (hts (.fieldLink RX10 69 RX10 "heirs" "LAnchorWills$Heirs;") (by decide +kernel)) (fun _ h9 => h9) rfl dX10_hauls_19 ?_
      refine lv_iload_n hx hb dX10_hauls_22 rfl (lv_at hl 1 rfl) ?_
      refine lv_iload_n hx hb dX10_hauls_23 rfl (lv_at hl 2 rfl) ?_
      obtain ⟨v1, e2, h⟩ := k_bd h
      refine rd_calli (va_runVN (As := [.int x1, .int x2]) (rest := []) C0.1 (kX2_mayHaul l (D := D) (cI := cI) (cB := cB) (cZ := cZ) (ad := ad) (τ := τ) σ x1 x2 _ e2) (wX10_hauls_X2_mayHaul hts hN ⟨Nat.le_of_ble_eq_true rfl, Nat.le_of_ble_eq_true rfl⟩) ⟨PW.blind, cw_r42 hK hP, PW.mk hP hK hN⟩ rfl rfl hl.1 rfl (lv_room (Nat.le_of_ble_eq_true rfl)) dX10_hauls_24 ⟨Nat.zero_le _, Nat.zero_le _⟩) ?_
      refine lv_if_ne (tgt := 33) hx hb dX10_hauls_27 (by decide) (fun c27 => ?_) (fun c27 => ?_)
      · replace h := k_in c27 h
        refine lv_aload_n hx hb dX10_hauls_33 rfl (lv_at hl 0 rfl) ?_
        refine va_get (D := D) (ci := 10) (v := .ref (ad 21)) (C := RX10) (T := TX10) (N := 12) hx hb hts iX10_hauls_X10 hown hK hP 0 cw_0 rfl 3 (by decide) (hts (.fieldLink RX10 29 RX10 "past" "LAnchorWills$Past;") (by decide +kernel)) (fun _ h9 => h9) rfl dX10_hauls_34 ?_
        refine lv_aload_n hx hb dX10_hauls_37 rfl (lv_at hl 0 rfl) ?_
        refine va_get (D := D) (ci := 10) (v := .ref (ad 19)) (C := RX10) (T := TX10) (N := 12) hx hb hts iX10_hauls_X10 hown hK hP 0 cw_0 rfl 2 (by decide) (hts (.fieldLink RX10 22 RX10 "now" "LAnchorWills$Now;") (by decide +kernel)) (fun _ h9 => h9) rfl dX10_hauls_38 ?_
        obtain ⟨u3, e4, h⟩ := k_bd h
        refine wr_callv (va_runVN (As := [.ref (ad 19)]) (rest := []) C0.1 (kX6_remembers_20 l (D := D) (cI := cI) (cB := cB) (cZ := cZ) (τ := τ) hap σ  _ e4) (wX10_hauls_X6_remembers hts hN ⟨Nat.le_of_ble_eq_true rfl, Nat.le_of_ble_eq_true rfl⟩) ⟨PW.blind, cw_r21 hK hP, PW.mk hP hK hN⟩ rfl rfl hl.1 rfl (lv_room (Nat.le_of_ble_eq_true rfl)) dX10_hauls_41 ⟨Nat.zero_le _, Nat.zero_le _⟩) hS (fun _ h => h) (fun H locs hP hS => ?_)
        have hP : va_P D vwCl (CW cI ad τ u3) H := hP
        refine lv_aload_n hx hb dX10_hauls_44 rfl (lv_at hl 0 rfl) ?_
        refine va_get (D := D) (ci := 10) (v := .ref (ad 19)) (C := RX10) (T := TX10) (N := 12) hx hb hts iX10_hauls_X10 hown hK hP 0 cw_0 rfl 2 (by decide) (hts (.fieldLink RX10 22 RX10 "now" "LAnchorWills$Now;") (by decide +kernel)) (fun _ h9 => h9) rfl dX10_hauls_45 ?_
        refine lv_bipush (v := 38) hx hb dX10_hauls_48 (by decide) ?_
        refine lv_iload_n hx hb dX10_hauls_50 rfl (lv_at hl 1 rfl) ?_
        refine rd_calli (va_runVN (As := [.int 38, .int x1]) (rest := []) C0.1 (kX5_get_20 l (D := D) (cI := cI) (cB := cB) (cZ := cZ) (ad := ad) (τ := τ) u3 38 x1) (wX10_hauls_X5_get hts hN ⟨Nat.le_of_ble_eq_true rfl, Nat.le_of_ble_eq_true rfl⟩) ⟨PW.blind, cw_r19 hK hP, PW.mk hP hK hN⟩ rfl rfl hl.1 rfl (lv_room (Nat.le_of_ble_eq_true rfl)) dX10_hauls_51 ⟨Nat.zero_le _, Nat.zero_le _⟩) ?_
        refine lv_aload_n hx hb dX10_hauls_54 rfl (lv_at hl 0 rfl) ?_
        refine va_get (D := D) (ci := 10) (v := .ref (ad 42)) (C := RX10) (T := TX10) (N := 12) hx hb hts iX10_hauls_X10 hown hK hP 0 cw_0 rfl 9 (by decide) (hts (.fieldLink RX10 69 RX10 "heirs" "LAnchorWills$Heirs;") (by decide +kernel)) (fun _ h9 => h9) rfl dX10_hauls_55 ?_
        refine lv_iload_n hx hb dX10_hauls_58 rfl (lv_at hl 2 rfl) ?_
        refine rd_calli (va_runVN (As := [.int x2]) (rest := [.int (pX5_get 20 u3 38 x1)]) C0.1 (kX2_valueOf l (D := D) (cI := cI) (cB := cB) (cZ := cZ) (ad := ad) (τ := τ) u3 x2) (wX10_hauls_X2_valueOf hts hN ⟨Nat.le_of_ble_eq_true rfl, Nat.le_of_ble_eq_true rfl⟩) ⟨PW.blind, cw_r42 hK hP, PW.mk hP hK hN⟩ rfl rfl hl.1 rfl (lv_room (Nat.le_of_ble_eq_true rfl)) dX10_hauls_59 ⟨Nat.zero_le _, Nat.zero_le _⟩) ?_
        refine lv_iadd hx hb dX10_hauls_62 ?_
        refine lv_sipush (v := 9999) hx hb dX10_hauls_63 (by decide) ?_
        refine va_mmin hx hb (hml.trans hl.1.symm) hown (hts (.methodLink RX10 206 Lib.Math.min.name) (by decide +kernel)) (hts (.static Lib.Math.min.name) (by decide +kernel)) (hts (.initialized "java/lang/Math") (by decide +kernel)) (hts (.code Lib.Math.min.name Lib.Math.min.code 2 (some .int)) (by decide +kernel)) (Nat.le_of_ble_eq_true rfl) (Nat.le_of_ble_eq_true rfl) (Nat.zero_le _) (Nat.zero_le _) dX10_hauls_66 ?_
        obtain ⟨v5, e6, h⟩ := k_bd h
        refine lv_nmi (k_sm e6) ?_
        refine lv_istore_n (lv' := [(3, .int v5), (0, .ref (ad 0)), (1, .int x1), (2, .int x2)]) hx hb dX10_hauls_69 rfl hl (by decide) rfl (fun ls hl => ?_)
        refine lv_aload_n hx hb dX10_hauls_70 rfl (lv_at hl 1 rfl) ?_
        refine va_get (D := D) (ci := 10) (v := .ref (ad 19)) (C := RX10) (T := TX10) (N := 12) hx hb hts iX10_hauls_X10 hown hK hP 0 cw_0 rfl 2 (by decide) (hts (.fieldLink RX10 22 RX10 "now" "LAnchorWills$Now;") (by decide +kernel)) (fun _ h9 => h9) rfl dX10_hauls_71 ?_
        refine lv_bipush (v := 24) hx hb dX10_hauls_74 (by decide) ?_
        refine lv_iload_n hx hb dX10_hauls_76 rfl (lv_at hl 3 rfl) ?_
        refine lv_iconst (v := 1) hx hb dX10_hauls_77 (by decide) ?_
        obtain ⟨u7, e8, h⟩ := k_bd h
        refine wr_callv (va_runVN (As := [.int 24, .int x2, .int 1]) (rest := []) C0.1 (kX5_set_20 l (D := D) (cI := cI) (cB := cB) (cZ := cZ) (τ := τ) hap u3 24 x2 1 _ e8) (wX10_hauls_X5_set hts hN ⟨Nat.le_of_ble_eq_true rfl, Nat.le_of_ble_eq_true rfl⟩) ⟨PW.blind, cw_r19 hK hP, PW.mk hP hK hN⟩ rfl rfl hl.1 rfl (lv_room (Nat.le_of_ble_eq_true rfl)) dX10_hauls_78 ⟨Nat.zero_le _, Nat.zero_le _⟩) hS (fun _ h => h) (fun H locs hP hS => ?_)
        have hP : va_P D vwCl (CW cI ad τ u7) H := hP
        refine lv_aload_n hx hb dX10_hauls_81 rfl (lv_at hl 1 rfl) ?_
        refine va_get (D := D) (ci := 10) (v := .ref (ad 19)) (C := RX10) (T := TX10) (N := 12) hx hb hts iX10_hauls_X10 hown hK hP 0 cw_0 rfl 2 (by decide) (hts (.fieldLink RX10 22 RX10 "now" "LAnchorWills$Now;") (by decide +kernel)) (fun _ h9 => h9) rfl dX10_hauls_82 ?_
        refine lv_bipush (v := 38) hx hb dX10_hauls_85 (by decide) ?_
        refine lv_iload_n hx hb dX10_hauls_87 rfl (lv_at hl 2 rfl) ?_
        refine lv_iload_n hx hb dX10_hauls_88 rfl (lv_at hl 0 rfl) ?_
        obtain ⟨u9, e10, h⟩ := k_bd h
        refine wr_callv (va_runVN (As := [.int 38, .int x1, .int v5]) (rest := []) C0.1 (kX5_set_20 l (D := D) (cI := cI) (cB := cB) (cZ := cZ) (τ := τ) hap u7 38 x1 v5 _ e10) (wX10_hauls_X5_set hts hN ⟨Nat.le_of_ble_eq_true rfl, Nat.le_of_ble_eq_true rfl⟩) ⟨PW.blind, cw_r19 hK hP, PW.mk hP hK hN⟩ rfl rfl hl.1 rfl (lv_room (Nat.le_of_ble_eq_true rfl)) dX10_hauls_89 ⟨Nat.zero_le _, Nat.zero_le _⟩) hS (fun _ h => h) (fun H locs hP hS => ?_)
        have hP : va_P D vwCl (CW cI ad τ u9) H := hP
        refine lv_iload_n hx hb dX10_hauls_92 rfl (lv_at hl 0 rfl) ?_
        obtain rfl := k_sm h
        exact W.iret hx hb hr (fun t ht hW => ⟨⟨_, _, rfl, ⟨rfl, rfl⟩, pw_end ht hP⟩, hS.F ht⟩) hS.2.2 dX10_hauls_93
      · replace h := k_ip c27 h
        refine lv_bipush (v := (-2)) hx hb dX10_hauls_30 (by decide) ?_
        obtain rfl := k_sm h
        exact W.iret hx hb hr (fun t ht hW => ⟨⟨_, _, rfl, ⟨rfl, rfl⟩, pw_end ht hP⟩, hS.F ht⟩) hS.2.2 dX10_hauls_32
    · replace h := k_in c13 h
      refine lv_iconst (v := (-1)) hx hb dX10_hauls_16 (by decide) ?_
      obtain rfl := k_sm h
      exact W.iret hx hb hr (fun t ht hW => ⟨⟨_, _, rfl, ⟨rfl, rfl⟩, pw_end ht hP⟩, hS.F ht⟩) hS.2.2 dX10_hauls_17
set_option maxHeartbeats 4000000 in
set_option maxRecDepth 100000 in
theorem kX10_undo (l : Launch) {D : va_G} {cI cB cZ : ClassId} {ad : Nat → Nat} {τ : Int64} (hap : cwX ad) (σ : Sg) (o : (Int32 × Sg)) (h : pX10_undo σ = some o) : Met l yX10_undo wsX10_undo rmX10_undo (va_Pc [.ref (ad 0)] (PW D cI cB cZ (CW cI ad τ σ))) (QI D (CW cI ad τ) (cwA ad) o.1 o.2) 0 0 (cwA ad) := by
  refine Met.ofW (cc := cX10_undo) (maxL := 1) (ret := (some .int)) (by decide) rfl ?_
  intro p e s m args below meth c s₁ B hml hv
  obtain ⟨rfl, hP, hK, hN⟩ := hv
  have C0 : Cx p s m _ meth c cX10_undo 1 (some .int) RX10 wsX10_undo := ⟨⟨B.exec, B.bytes, hml, findClass_of_methodNamed B.named, atoms_spec B.pre⟩, B.returns, B.notSynchronized⟩
  obtain ⟨⟨hx, hb, -, hown, hts⟩, hr, hlk⟩ := id C0
  have hS : va_S (cwA ad) s.heap s.heap [] := va_S.rf
  have hl := lv_entry ([.ref (ad 0)]) (n := 1) (Nat.le_of_ble_eq_true rfl)
  rw [lg_entry_eq]
  generalize (lg_sl ([.ref (ad 0)]) ++ List.replicate (1 - (lg_sl ([.ref (ad 0)])).length) Slot.unset).toArray = ls at hl ⊢
  have hl : lv_has ls 1 [(0, .ref (ad 0))] := hl
  rw [pX10_undo] at h
  refine lv_aload_n hx hb dX10_undo_0 rfl (lv_at hl 0 rfl) ?_
  refine va_get (D := D) (ci := 10) (v := .ref (ad 21)) (C := RX10) (T := TX10) (N := 12) hx hb hts iX10_undo_X10 hown hK hP 0 cw_0 rfl 3 (by decide) (hts (.fieldLink RX10 29 RX10 "past" "LAnchorWills$Past;") (by decide +kernel)) (fun _ h9 => h9) rfl dX10_undo_1 ?_
  refine lv_aload_n hx hb dX10_undo_4 rfl (lv_at hl 0 rfl) ?_
  refine va_get (D := D) (ci := 10) (v := .ref (ad 19)) (C := RX10) (T := TX10) (N := 12) hx hb hts iX10_undo_X10 hown hK hP 0 cw_0 rfl 2 (by decide) (hts (.fieldLink RX10 22 RX10 "now" "LAnchorWills$Now;") (by decide +kernel)) (fun _ h9 => h9) rfl dX10_undo_5 ?_
  obtain ⟨u1, e2, h⟩ := k_bd h
  refine wr_calli (va_runVN (As := [.ref (ad 19)]) (rest := []) C0.1 (kX6_bringsBack_20 l (D := D) (cI := cI) (cB := cB) (cZ := cZ) (τ := τ) hap σ  _ e2) (wX10_undo_X6_bringsBack hts hN ⟨Nat.le_of_ble_eq_true rfl, Nat.le_of_ble_eq_true rfl⟩) ⟨PW.blind, cw_r21 hK hP, PW.mk hP hK hN⟩ rfl rfl hl.1 rfl (lv_room (Nat.le_of_ble_eq_true rfl)) dX10_undo_8 ⟨Nat.zero_le _, Nat.zero_le _⟩) hS (fun _ h => h) (fun H locs hP hS => ?_)
  have hP : va_P D vwCl (CW cI ad τ u1.2) H := hP
  refine lv_if_eq (tgt := 24) hx hb dX10_undo_11 (by decide) (fun c11 => ?_) (fun c11 => ?_)
  · replace h := k_ip c11 h
    refine lv_bipush (v := (-2)) hx hb dX10_undo_24 (by decide) ?_
    obtain rfl := k_sm h
    exact W.iret hx hb hr (fun t ht hW => ⟨⟨_, _, rfl, ⟨rfl, rfl⟩, pw_end ht hP⟩, hS.F ht⟩) hS.2.2 dX10_undo_26
  · replace h := k_in c11 h
    refine lv_aload_n hx hb dX10_undo_14 rfl (lv_at hl 0 rfl) ?_
    refine va_get (D := D) (ci := 10) (v := .ref (ad 21)) (C := RX10) (T := TX10) (N := 12) hx hb hts iX10_undo_X10 hown hK hP 0 cw_0 rfl 3 (by decide) (hts (.fieldLink RX10 29 RX10 "past" "LAnchorWills$Past;") (by decide +kernel)) (fun _ h9 => h9) rfl dX10_undo_15 ?_
    refine va_getN (D := D) (ci := 6) (v := .int (u1.2 21 1)) (C := RX6) (T := TX6) (N := 2) hx hb hts iX10_undo_X6 hown hK hP 21 cw_21 rfl 1 (by decide) (va_Nw.use rfl (nf_X10_113 hN)) (fun _ h9 => h9) rfl dX10_undo_18 ?_
    refine lv_goto (tgt := 26) hx hb dX10_undo_21 (by decide) ?_
    obtain rfl := k_sm h
    exact W.iret hx hb hr (fun t ht hW => ⟨⟨_, _, rfl, ⟨rfl, rfl⟩, pw_end ht hP⟩, hS.F ht⟩) hS.2.2 dX10_undo_26
set_option maxHeartbeats 4000000 in
set_option maxRecDepth 100000 in
theorem kX10_now (l : Launch) {D : va_G} {cI cB cZ : ClassId} {ad : Nat → Nat} {τ : Int64} (σ : Sg) (x1 : Int32) (o : Int32) (h : pX10_now σ x1 = some o) : Met l yX10_now wsX10_now rmX10_now (va_Pc [.ref (ad 0), .int x1] (PW D cI cB cZ (CW cI ad τ σ))) (QcRead o) 0 0 (fun _ => False) := by
  refine Met.ofW (cc := cX10_now) (maxL := 2) (ret := (some .int)) (by decide) rfl ?_
  intro p e s m args below meth c s₁ B hml hv
  obtain ⟨rfl, hP, hK, hN⟩ := hv
  have C0 : Cx p s m _ meth c cX10_now 2 (some .int) RX10 wsX10_now := ⟨⟨B.exec, B.bytes, hml, findClass_of_methodNamed B.named, atoms_spec B.pre⟩, B.returns, B.notSynchronized⟩
  obtain ⟨⟨hx, hb, -, hown, hts⟩, hr, hlk⟩ := id C0
  have hl := lv_entry ([.ref (ad 0), .int x1]) (n := 2) (Nat.le_of_ble_eq_true rfl)
  rw [lg_entry_eq]
  generalize (lg_sl ([.ref (ad 0), .int x1]) ++ List.replicate (2 - (lg_sl ([.ref (ad 0), .int x1])).length) Slot.unset).toArray = ls at hl ⊢
  have hl : lv_has ls 2 [(0, .ref (ad 0)), (1, .int x1)] := hl
  rw [pX10_now] at h
  refine lv_iload_n hx hb dX10_now_0 rfl (lv_at hl 1 rfl) ?_
  refine lv_iconst (v := 0) hx hb dX10_now_1 (by decide) ?_
  refine lv_iconst (v := 4) hx hb dX10_now_2 (by decide) ?_
  refine rd_calli (va_runS (As := [.int x1, .int 0, .int 4]) (rest := []) C0.1 (kX10_isOutside l x1 0 4) (wX10_now_X10_isOutside hts ⟨Nat.le_of_ble_eq_true rfl, Nat.le_of_ble_eq_true rfl⟩) ⟨PT.blind, fun _ _ _ => ⟨rfl, trivial⟩⟩ rfl rfl hl.1 rfl (lv_room (Nat.le_of_ble_eq_true rfl)) dX10_now_3 ⟨Nat.zero_le _, Nat.zero_le _⟩) ?_
  refine lv_if_eq (tgt := 11) hx hb dX10_now_6 (by decide) (fun c6 => ?_) (fun c6 => ?_)
  · replace h := k_ip c6 h
    refine lv_iload_n hx hb dX10_now_11 rfl (lv_at hl 1 rfl) ?_
    by_cases c12_3 : x1 = 3
    · replace h := k_ip c12_3 h
      refine lv_lookup (tgt := 40) hx hb dX10_now_12 (by decide) (by rw [c12_3] <;> rfl) (by decide) ?_
      refine lv_aload_n hx hb dX10_now_40 rfl (lv_at hl 0 rfl) ?_
      refine va_get (D := D) (ci := 10) (v := .ref (ad 19)) (C := RX10) (T := TX10) (N := 12) hx hb hts iX10_now_X10 hown hK hP 0 cw_0 rfl 2 (by decide) (hts (.fieldLink RX10 22 RX10 "now" "LAnchorWills$Now;") (by decide +kernel)) (fun _ h9 => h9) rfl dX10_now_41 ?_
      refine rd_calli (va_runVN (As := []) (rest := []) C0.1 (kX5_goneRafts_20 l (D := D) (cI := cI) (cB := cB) (cZ := cZ) (ad := ad) (τ := τ) σ ) (wX10_now_X5_goneRafts hts hN ⟨Nat.le_of_ble_eq_true rfl, Nat.le_of_ble_eq_true rfl⟩) ⟨PW.blind, cw_r19 hK hP, PW.mk hP hK hN⟩ rfl rfl hl.1 rfl (lv_room (Nat.le_of_ble_eq_true rfl)) dX10_now_44 ⟨Nat.zero_le _, Nat.zero_le _⟩) ?_
      obtain rfl := k_sm h
      exact W.iret hx hb hr (fun t ht hW => ⟨rfl, ht⟩) (fun _ h => by cases h) dX10_now_47
    replace h := k_in c12_3 h
    by_cases c12_4 : x1 = 4
    · replace h := k_ip c12_4 h
      refine lv_lookup (tgt := 48) hx hb dX10_now_12 (by decide) (by rw [c12_4] <;> rfl) (by decide) ?_
      refine lv_aload_n hx hb dX10_now_48 rfl (lv_at hl 0 rfl) ?_
      refine va_get (D := D) (ci := 10) (v := .ref (ad 42)) (C := RX10) (T := TX10) (N := 12) hx hb hts iX10_now_X10 hown hK hP 0 cw_0 rfl 9 (by decide) (hts (.fieldLink RX10 69 RX10 "heirs" "LAnchorWills$Heirs;") (by decide +kernel)) (fun _ h9 => h9) rfl dX10_now_49 ?_
      obtain ⟨v1, e2, h⟩ := k_bd h
      refine rd_calli (va_runVN (As := []) (rest := []) C0.1 (kX2_wealthOfAll l (D := D) (cI := cI) (cB := cB) (cZ := cZ) (ad := ad) (τ := τ) σ  _ e2) (wX10_now_X2_wealthOfAll hts hN ⟨Nat.le_of_ble_eq_true rfl, Nat.le_of_ble_eq_true rfl⟩) ⟨PW.blind, cw_r42 hK hP, PW.mk hP hK hN⟩ rfl rfl hl.1 rfl (lv_room (Nat.le_of_ble_eq_true rfl)) dX10_now_52 ⟨Nat.zero_le _, Nat.zero_le _⟩) ?_
      obtain rfl := k_sm h
      exact W.iret hx hb hr (fun t ht hW => ⟨rfl, ht⟩) (fun _ h => by cases h) dX10_now_55
    replace h := k_in c12_4 h
    refine lv_lookup (tgt := 56) hx hb dX10_now_12 (by decide) (off := 44) (by rw [lv_osw c12_3 (by decide), lv_osw c12_4 (by decide)] <;> rfl) (by decide) ?_
    refine lv_aload_n hx hb dX10_now_56 rfl (lv_at hl 0 rfl) ?_
    refine va_get (D := D) (ci := 10) (v := .ref (ad 1)) (C := RX10) (T := TX10) (N := 12) hx hb hts iX10_now_X10 hown hK hP 0 cw_0 rfl 0 (by decide) (hts (.fieldLink RX10 10 RX10 "told" "LAnchorWills$Told;") (by decide +kernel)) (fun _ h9 => h9) rfl dX10_now_57 ?_
    refine lv_aload_n hx hb dX10_now_60 rfl (lv_at hl 0 rfl) ?_
    refine va_get (D := D) (ci := 10) (v := .ref (ad 19)) (C := RX10) (T := TX10) (N := 12) hx hb hts iX10_now_X10 hown hK hP 0 cw_0 rfl 2 (by decide) (hts (.fieldLink RX10 22 RX10 "now" "LAnchorWills$Now;") (by decide +kernel)) (fun _ h9 => h9) rfl dX10_now_61 ?_
    refine lv_iload_n hx hb dX10_now_64 rfl (lv_at hl 1 rfl) ?_
    obtain ⟨v3, e4, h⟩ := k_bd h
    refine rd_calli (va_runS (As := [.ref (ad 1), .ref (ad 19), .int x1]) (rest := []) C0.1 (kX10_thoseThatAre_20 l (D := D) (cI := cI) (cB := cB) (cZ := cZ) (ad := ad) (τ := τ) σ x1 _ e4) (wX10_now_X10_thoseThatAre hts ⟨Nat.le_of_ble_eq_true rfl, Nat.le_of_ble_eq_true rfl⟩) ⟨PW.blind, PW.mk hP hK hN⟩ rfl rfl hl.1 rfl (lv_room (Nat.le_of_ble_eq_true rfl)) dX10_now_65 ⟨Nat.zero_le _, Nat.zero_le _⟩) ?_
    obtain rfl := k_sm h
    exact W.iret hx hb hr (fun t ht hW => ⟨rfl, ht⟩) (fun _ h => by cases h) dX10_now_68
  · replace h := k_in c6 h
    refine lv_iconst (v := (-1)) hx hb dX10_now_9 (by decide) ?_
    obtain rfl := k_sm h
    exact W.iret hx hb hr (fun t ht hW => ⟨rfl, ht⟩) (fun _ h => by cases h) dX10_now_10
set_option maxHeartbeats 4000000 in
set_option maxRecDepth 100000 in
theorem kX10_needs (l : Launch) {D : va_G} {cI cB cZ : ClassId} {ad : Nat → Nat} {τ : Int64} (σ : Sg) (x1 : Int32) (x2 : Int32) (o : Int32) (h : pX10_needs σ x1 x2 = some o) : Met l yX10_needs wsX10_needs rmX10_needs (va_Pc [.ref (ad 0), .int x1, .int x2] (PW D cI cB cZ (CW cI ad τ σ))) (QcRead o) 0 0 (fun _ => False) := by
  refine Met.ofW (cc := cX10_needs) (maxL := 3) (ret := (some .int)) (by decide) rfl ?_
  intro p e s m args below meth c s₁ B hml hv
  obtain ⟨rfl, hP, hK, hN⟩ := hv
  have C0 : Cx p s m _ meth c cX10_needs 3 (some .int) RX10 wsX10_needs := ⟨⟨B.exec, B.bytes, hml, findClass_of_methodNamed B.named, atoms_spec B.pre⟩, B.returns, B.notSynchronized⟩
  obtain ⟨⟨hx, hb, -, hown, hts⟩, hr, hlk⟩ := id C0
  have hl := lv_entry ([.ref (ad 0), .int x1, .int x2]) (n := 3) (Nat.le_of_ble_eq_true rfl)
  rw [lg_entry_eq]
  generalize (lg_sl ([.ref (ad 0), .int x1, .int x2]) ++ List.replicate (3 - (lg_sl ([.ref (ad 0), .int x1, .int x2])).length) Slot.unset).toArray = ls at hl ⊢
  have hl : lv_has ls 3 [(0, .ref (ad 0)), (1, .int x1), (2, .int x2)] := hl
  rw [pX10_needs] at h
  refine lv_aload_n hx hb dX10_needs_0 rfl (lv_at hl 0 rfl) ?_
  refine lv_iload_n hx hb dX10_needs_1 rfl (lv_at hl 1 rfl) ?_
  refine rd_calli (va_runV (As := [.int x1]) (rest := []) C0.1 (kX10_isNoAnchor l (D := D) (cI := cI) (cB := cB) (cZ := cZ) (ad := ad) (τ := τ) σ x1) (wX10_needs_X10_isNoAnchor hts ⟨Nat.le_of_ble_eq_true rfl, Nat.le_of_ble_eq_true rfl⟩) ⟨PW.blind, cw_r0 hK hP, PW.mk hP hK hN⟩ rfl rfl hl.1 rfl (lv_room (Nat.le_of_ble_eq_true rfl)) dX10_needs_2 ⟨Nat.zero_le _, Nat.zero_le _⟩) ?_
  refine lv_if_ne (tgt := 15) hx hb dX10_needs_5 (by decide) (fun c5 => ?_) (fun c5 => ?_)
  · replace h := k_in c5 h
    refine lv_iconst (v := (-1)) hx hb dX10_needs_15 (by decide) ?_
    obtain rfl := k_sm h
    exact W.iret hx hb hr (fun t ht hW => ⟨rfl, ht⟩) (fun _ h => by cases h) dX10_needs_16
  · replace h := k_ip c5 h
    refine lv_iload_n hx hb dX10_needs_8 rfl (lv_at hl 2 rfl) ?_
    refine rd_calli (va_runS (As := [.int x2]) (rest := []) C0.1 (kX10_isNoForce l x2) (wX10_needs_X10_isNoForce hts ⟨Nat.le_of_ble_eq_true rfl, Nat.le_of_ble_eq_true rfl⟩) ⟨PT.blind, fun _ _ _ => ⟨rfl, trivial⟩⟩ rfl rfl hl.1 rfl (lv_room (Nat.le_of_ble_eq_true rfl)) dX10_needs_9 ⟨Nat.zero_le _, Nat.zero_le _⟩) ?_
    refine lv_if_eq (tgt := 17) hx hb dX10_needs_12 (by decide) (fun c12 => ?_) (fun c12 => ?_)
    · replace h := k_ip c12 h
      refine lv_aload_n hx hb dX10_needs_17 rfl (lv_at hl 0 rfl) ?_
      refine va_get (D := D) (ci := 10) (v := .ref (ad 19)) (C := RX10) (T := TX10) (N := 12) hx hb hts iX10_needs_X10 hown hK hP 0 cw_0 rfl 2 (by decide) (hts (.fieldLink RX10 22 RX10 "now" "LAnchorWills$Now;") (by decide +kernel)) (fun _ h9 => h9) rfl dX10_needs_18 ?_
      refine lv_iload_n hx hb dX10_needs_21 rfl (lv_at hl 1 rfl) ?_
      refine rd_calli (va_runVN (As := [.int x1]) (rest := []) C0.1 (kX5_lies_20 l (D := D) (cI := cI) (cB := cB) (cZ := cZ) (ad := ad) (τ := τ) σ x1) (wX10_needs_X5_lies hts hN ⟨Nat.le_of_ble_eq_true rfl, Nat.le_of_ble_eq_true rfl⟩) ⟨PW.blind, cw_r19 hK hP, PW.mk hP hK hN⟩ rfl rfl hl.1 rfl (lv_room (Nat.le_of_ble_eq_true rfl)) dX10_needs_22 ⟨Nat.zero_le _, Nat.zero_le _⟩) ?_
      refine lv_if_eq (tgt := 40) hx hb dX10_needs_25 (by decide) (fun c25 => ?_) (fun c25 => ?_)
      · replace h := k_ip c25 h
        refine lv_bipush (v := (-2)) hx hb dX10_needs_40 (by decide) ?_
        obtain rfl := k_sm h
        exact W.iret hx hb hr (fun t ht hW => ⟨rfl, ht⟩) (fun _ h => by cases h) dX10_needs_42
      · replace h := k_in c25 h
        refine lv_aload_n hx hb dX10_needs_28 rfl (lv_at hl 0 rfl) ?_
        refine va_get (D := D) (ci := 10) (v := .ref (ad 35)) (C := RX10) (T := TX10) (N := 12) hx hb hts iX10_needs_X10 hown hK hP 0 cw_0 rfl 7 (by decide) (hts (.fieldLink RX10 55 RX10 "sea" "LAnchorWills$Sea;") (by decide +kernel)) (fun _ h9 => h9) rfl dX10_needs_29 ?_
        refine lv_iload_n hx hb dX10_needs_32 rfl (lv_at hl 1 rfl) ?_
        refine lv_iload_n hx hb dX10_needs_33 rfl (lv_at hl 2 rfl) ?_
        obtain ⟨v1, e2, h⟩ := k_bd h
        refine rd_calli (va_runVN (As := [.int x1, .int x2]) (rest := []) C0.1 (kX8_fewestLinks l (D := D) (cI := cI) (cB := cB) (cZ := cZ) (ad := ad) (τ := τ) σ x1 x2 _ e2) (wX10_needs_X8_fewestLinks hts hN ⟨Nat.le_of_ble_eq_true rfl, Nat.le_of_ble_eq_true rfl⟩) ⟨PW.blind, cw_r35 hK hP, PW.mk hP hK hN⟩ rfl rfl hl.1 rfl (lv_room (Nat.le_of_ble_eq_true rfl)) dX10_needs_34 ⟨Nat.zero_le _, Nat.zero_le _⟩) ?_
        refine lv_goto (tgt := 42) hx hb dX10_needs_37 (by decide) ?_
        obtain rfl := k_sm h
        exact W.iret hx hb hr (fun t ht hW => ⟨rfl, ht⟩) (fun _ h => by cases h) dX10_needs_42
    · replace h := k_in c12 h
      refine lv_iconst (v := (-1)) hx hb dX10_needs_15 (by decide) ?_
      obtain rfl := k_sm h
      exact W.iret hx hb hr (fun t ht hW => ⟨rfl, ht⟩) (fun _ h => by cases h) dX10_needs_16
set_option maxHeartbeats 4000000 in
set_option maxRecDepth 100000 in
theorem kX10_after (l : Launch) {D : va_G} {cI cB cZ : ClassId} {ad : Nat → Nat} {τ : Int64} (hap : cwX ad) (σ : Sg) (x1 : Int32) (x2 : Int32) (x3 : Int32) (o : (Int32 × Sg)) (h : pX10_after σ x1 x2 x3 = some o) : Met l yX10_after wsX10_after rmX10_after (va_Pc [.ref (ad 0), .int x1, .int x2, .int x3] (PW D cI cB cZ (CW cI ad τ σ))) (QI D (CW cI ad τ) (cwA ad) o.1 o.2) 0 0 (cwA ad) := by
  refine Met.ofW (cc := cX10_after) (maxL := 4) (ret := (some .int)) (by decide) rfl ?_
  intro p e s m args below meth c s₁ B hml hv
  obtain ⟨rfl, hP, hK, hN⟩ := hv
  have C0 : Cx p s m _ meth c cX10_after 4 (some .int) RX10 wsX10_after := ⟨⟨B.exec, B.bytes, hml, findClass_of_methodNamed B.named, atoms_spec B.pre⟩, B.returns, B.notSynchronized⟩
  obtain ⟨⟨hx, hb, -, hown, hts⟩, hr, hlk⟩ := id C0
  have hS : va_S (cwA ad) s.heap s.heap [] := va_S.rf
  have hl := lv_entry ([.ref (ad 0), .int x1, .int x2, .int x3]) (n := 4) (Nat.le_of_ble_eq_true rfl)
  rw [lg_entry_eq]
  generalize (lg_sl ([.ref (ad 0), .int x1, .int x2, .int x3]) ++ List.replicate (4 - (lg_sl ([.ref (ad 0), .int x1, .int x2, .int x3])).length) Slot.unset).toArray = ls at hl ⊢
  have hl : lv_has ls 4 [(0, .ref (ad 0)), (1, .int x1), (2, .int x2), (3, .int x3)] := hl
  rw [pX10_after] at h
  refine lv_aload_n hx hb dX10_after_0 rfl (lv_at hl 0 rfl) ?_
  refine lv_iload_n hx hb dX10_after_1 rfl (lv_at hl 1 rfl) ?_
  refine rd_calli (va_runV (As := [.int x1]) (rest := []) C0.1 (kX10_isNoAnchor l (D := D) (cI := cI) (cB := cB) (cZ := cZ) (ad := ad) (τ := τ) σ x1) (wX10_after_X10_isNoAnchor hts ⟨Nat.le_of_ble_eq_true rfl, Nat.le_of_ble_eq_true rfl⟩) ⟨PW.blind, cw_r0 hK hP, PW.mk hP hK hN⟩ rfl rfl hl.1 rfl (lv_room (Nat.le_of_ble_eq_true rfl)) dX10_after_2 ⟨Nat.zero_le _, Nat.zero_le _⟩) ?_
  refine lv_if_ne (tgt := 24) hx hb dX10_after_5 (by decide) (fun c5 => ?_) (fun c5 => ?_)
  · replace h := k_in c5 h
    refine lv_iconst (v := (-1)) hx hb dX10_after_24 (by decide) ?_
    obtain rfl := k_sm h
    exact W.iret hx hb hr (fun t ht hW => ⟨⟨_, _, rfl, ⟨rfl, rfl⟩, pw_end ht hP⟩, hS.F ht⟩) hS.2.2 dX10_after_25
  · replace h := k_ip c5 h
    refine lv_iload_n hx hb dX10_after_8 rfl (lv_at hl 2 rfl) ?_
    refine rd_calli (va_runS (As := [.int x2]) (rest := []) C0.1 (kX10_isNoForce l x2) (wX10_after_X10_isNoForce hts ⟨Nat.le_of_ble_eq_true rfl, Nat.le_of_ble_eq_true rfl⟩) ⟨PT.blind, fun _ _ _ => ⟨rfl, trivial⟩⟩ rfl rfl hl.1 rfl (lv_room (Nat.le_of_ble_eq_true rfl)) dX10_after_9 ⟨Nat.zero_le _, Nat.zero_le _⟩) ?_
    refine lv_if_ne (tgt := 24) hx hb dX10_after_12 (by decide) (fun c12 => ?_) (fun c12 => ?_)
    · replace h := k_in c12 h
      refine lv_iconst (v := (-1)) hx hb dX10_after_24 (by decide) ?_
      obtain rfl := k_sm h
      exact W.iret hx hb hr (fun t ht hW => ⟨⟨_, _, rfl, ⟨rfl, rfl⟩, pw_end ht hP⟩, hS.F ht⟩) hS.2.2 dX10_after_25
    · replace h := k_ip c12 h
      refine lv_iload_n hx hb dX10_after_15 rfl (lv_at hl 3 rfl) ?_
      refine lv_iconst (v := 0) hx hb dX10_after_16 (by decide) ?_
      refine lv_iconst (v := 1) hx hb dX10_after_17 (by decide) ?_
      refine rd_calli (va_runS (As := [.int x3, .int 0, .int 1]) (rest := []) C0.1 (kX10_isOutside l x3 0 1) (wX10_after_X10_isOutside hts ⟨Nat.le_of_ble_eq_true rfl, Nat.le_of_ble_eq_true rfl⟩) ⟨PT.blind, fun _ _ _ => ⟨rfl, trivial⟩⟩ rfl rfl hl.1 rfl (lv_room (Nat.le_of_ble_eq_true rfl)) dX10_after_18 ⟨Nat.zero_le _, Nat.zero_le _⟩) ?_
      refine lv_if_eq (tgt := 26) hx hb dX10_after_21 (by decide) (fun c21 => ?_) (fun c21 => ?_)
      · replace h := k_ip c21 h
        refine lv_aload_n hx hb dX10_after_26 rfl (lv_at hl 0 rfl) ?_
        refine va_get (D := D) (ci := 10) (v := .ref (ad 35)) (C := RX10) (T := TX10) (N := 12) hx hb hts iX10_after_X10 hown hK hP 0 cw_0 rfl 7 (by decide) (hts (.fieldLink RX10 55 RX10 "sea" "LAnchorWills$Sea;") (by decide +kernel)) (fun _ h9 => h9) rfl dX10_after_27 ?_
        refine lv_iload_n hx hb dX10_after_30 rfl (lv_at hl 1 rfl) ?_
        refine lv_iload_n hx hb dX10_after_31 rfl (lv_at hl 2 rfl) ?_
        refine lv_iload_n hx hb dX10_after_32 rfl (lv_at hl 3 rfl) ?_
        obtain ⟨u1, e2, h⟩ := k_bd h
        refine wr_calli (va_runVN (As := [.int x1, .int x2, .int x3]) (rest := []) C0.1 (kX8_cellBehind l (D := D) (cI := cI) (cB := cB) (cZ := cZ) (τ := τ) hap σ x1 x2 x3 _ e2) (wX10_after_X8_cellBehind hts hN ⟨Nat.le_of_ble_eq_true rfl, Nat.le_of_ble_eq_true rfl⟩) ⟨PW.blind, cw_r35 hK hP, PW.mk hP hK hN⟩ rfl rfl hl.1 rfl (lv_room (Nat.le_of_ble_eq_true rfl)) dX10_after_33 ⟨Nat.zero_le _, Nat.zero_le _⟩) hS (fun _ h => h) (fun H locs hP hS => ?_)
        have hP : va_P D vwCl (CW cI ad τ u1.2) H := hP
        obtain rfl := k_sm h
        exact W.iret hx hb hr (fun t ht hW => ⟨⟨_, _, rfl, ⟨rfl, rfl⟩, pw_end ht hP⟩, hS.F ht⟩) hS.2.2 dX10_after_36
      · replace h := k_in c21 h
        refine lv_iconst (v := (-1)) hx hb dX10_after_24 (by decide) ?_
        obtain rfl := k_sm h
        exact W.iret hx hb hr (fun t ht hW => ⟨⟨_, _, rfl, ⟨rfl, rfl⟩, pw_end ht hP⟩, hS.F ht⟩) hS.2.2 dX10_after_25
set_option maxHeartbeats 4000000 in
set_option maxRecDepth 100000 in
theorem kX10_wreck (l : Launch) {D : va_G} {cI cB cZ : ClassId} {ad : Nat → Nat} {τ : Int64} (hap : cwX ad) (σ : Sg) (x1 : Int32) (x2 : Int32) (x3 : Int32) (o : (Int32 × Sg)) (h : pX10_wreck σ x1 x2 x3 = some o) : Met l yX10_wreck wsX10_wreck rmX10_wreck (va_Pc [.ref (ad 0), .int x1, .int x2, .int x3] (PW D cI cB cZ (CW cI ad τ σ))) (QI D (CW cI ad τ) (cwA ad) o.1 o.2) 0 0 (cwA ad) := by
  refine Met.ofW (cc := cX10_wreck) (maxL := 5) (ret := (some .int)) (by decide) rfl ?_
  intro p e s m args below meth c s₁ B hml hv
  obtain ⟨rfl, hP, hK, hN⟩ := hv
  have C0 : Cx p s m _ meth c cX10_wreck 5 (some .int) RX10 wsX10_wreck := ⟨⟨B.exec, B.bytes, hml, findClass_of_methodNamed B.named, atoms_spec B.pre⟩, B.returns, B.notSynchronized⟩
  obtain ⟨⟨hx, hb, -, hown, hts⟩, hr, hlk⟩ := id C0
  have hS : va_S (cwA ad) s.heap s.heap [] := va_S.rf
  have hl := lv_entry ([.ref (ad 0), .int x1, .int x2, .int x3]) (n := 5) (Nat.le_of_ble_eq_true rfl)
  rw [lg_entry_eq]
  generalize (lg_sl ([.ref (ad 0), .int x1, .int x2, .int x3]) ++ List.replicate (5 - (lg_sl ([.ref (ad 0), .int x1, .int x2, .int x3])).length) Slot.unset).toArray = ls at hl ⊢
  have hl : lv_has ls 5 [(0, .ref (ad 0)), (1, .int x1), (2, .int x2), (3, .int x3)] := hl
  rw [pX10_wreck] at h
  refine lv_iload_n hx hb dX10_wreck_0 rfl (lv_at hl 1 rfl) ?_
  refine rd_calli (va_runS (As := [.int x1]) (rest := []) C0.1 (kX10_isNoForce l x1) (wX10_wreck_X10_isNoForce hts ⟨Nat.le_of_ble_eq_true rfl, Nat.le_of_ble_eq_true rfl⟩) ⟨PT.blind, fun _ _ _ => ⟨rfl, trivial⟩⟩ rfl rfl hl.1 rfl (lv_room (Nat.le_of_ble_eq_true rfl)) dX10_wreck_1 ⟨Nat.zero_le _, Nat.zero_le _⟩) ?_
  refine lv_if_ne (tgt := 25) hx hb dX10_wreck_4 (by decide) (fun c4 => ?_) (fun c4 => ?_)
  · replace h := k_in c4 h
    refine lv_iconst (v := (-1)) hx hb dX10_wreck_25 (by decide) ?_
    obtain rfl := k_sm h
    exact W.iret hx hb hr (fun t ht hW => ⟨⟨_, _, rfl, ⟨rfl, rfl⟩, pw_end ht hP⟩, hS.F ht⟩) hS.2.2 dX10_wreck_26
  · replace h := k_ip c4 h
    refine lv_iload_n hx hb dX10_wreck_7 rfl (lv_at hl 2 rfl) ?_
    refine lv_iconst (v := 0) hx hb dX10_wreck_8 (by decide) ?_
    refine lv_iconst (v := 4) hx hb dX10_wreck_9 (by decide) ?_
    refine rd_calli (va_runS (As := [.int x2, .int 0, .int 4]) (rest := []) C0.1 (kX10_isOutside l x2 0 4) (wX10_wreck_X10_isOutside hts ⟨Nat.le_of_ble_eq_true rfl, Nat.le_of_ble_eq_true rfl⟩) ⟨PT.blind, fun _ _ _ => ⟨rfl, trivial⟩⟩ rfl rfl hl.1 rfl (lv_room (Nat.le_of_ble_eq_true rfl)) dX10_wreck_10 ⟨Nat.zero_le _, Nat.zero_le _⟩) ?_
    refine lv_if_ne (tgt := 25) hx hb dX10_wreck_13 (by decide) (fun c13 => ?_) (fun c13 => ?_)
    · replace h := k_in c13 h
      refine lv_iconst (v := (-1)) hx hb dX10_wreck_25 (by decide) ?_
      obtain rfl := k_sm h
      exact W.iret hx hb hr (fun t ht hW => ⟨⟨_, _, rfl, ⟨rfl, rfl⟩, pw_end ht hP⟩, hS.F ht⟩) hS.2.2 dX10_wreck_26
    · replace h := k_ip c13 h
      refine lv_iload_n hx hb dX10_wreck_16 rfl (lv_at hl 3 rfl) ?_
      refine lv_iconst (v := 0) hx hb dX10_wreck_17 (by decide) ?_
      refine lv_iconst (v := 1) hx hb dX10_wreck_18 (by decide) ?_
      refine rd_calli (va_runS (As := [.int x3, .int 0, .int 1]) (rest := []) C0.1 (kX10_isOutside l x3 0 1) (wX10_wreck_X10_isOutside hts ⟨Nat.le_of_ble_eq_true rfl, Nat.le_of_ble_eq_true rfl⟩) ⟨PT.blind, fun _ _ _ => ⟨rfl, trivial⟩⟩ rfl rfl hl.1 rfl (lv_room (Nat.le_of_ble_eq_true rfl)) dX10_wreck_19 ⟨Nat.zero_le _, Nat.zero_le _⟩) ?_
      refine lv_if_eq (tgt := 27) hx hb dX10_wreck_22 (by decide) (fun c22 => ?_) (fun c22 => ?_)
      · replace h := k_ip c22 h
        refine lv_aload_n hx hb dX10_wreck_27 rfl (lv_at hl 0 rfl) ?_
        refine va_get (D := D) (ci := 10) (v := .ref (ad 35)) (C := RX10) (T := TX10) (N := 12) hx hb hts iX10_wreck_X10 hown hK hP 0 cw_0 rfl 7 (by decide) (hts (.fieldLink RX10 55 RX10 "sea" "LAnchorWills$Sea;") (by decide +kernel)) (fun _ h9 => h9) rfl dX10_wreck_28 ?_
        refine lv_iload_n hx hb dX10_wreck_31 rfl (lv_at hl 1 rfl) ?_
        refine lv_iload_n hx hb dX10_wreck_32 rfl (lv_at hl 2 rfl) ?_
        obtain ⟨u1, e2, h⟩ := k_bd h
        refine wr_calli (va_runVN (As := [.int x1, .int x2]) (rest := []) C0.1 (kX8_worstRow l (D := D) (cI := cI) (cB := cB) (cZ := cZ) (τ := τ) hap σ x1 x2 _ e2) (wX10_wreck_X8_worstRow hts hN ⟨Nat.le_of_ble_eq_true rfl, Nat.le_of_ble_eq_true rfl⟩) ⟨PW.blind, cw_r35 hK hP, PW.mk hP hK hN⟩ rfl rfl hl.1 rfl (lv_room (Nat.le_of_ble_eq_true rfl)) dX10_wreck_33 ⟨Nat.zero_le _, Nat.zero_le _⟩) hS (fun _ h => h) (fun H locs hP hS => ?_)
        have hP : va_P D vwCl (CW cI ad τ u1.2) H := hP
        refine lv_istore (lv' := [(4, .int u1.1), (0, .ref (ad 0)), (1, .int x1), (2, .int x2), (3, .int x3)]) hx hb dX10_wreck_36 hl (by decide) rfl (fun ls hl => ?_)
        refine lv_iload_n hx hb dX10_wreck_38 rfl (lv_at hl 4 rfl) ?_
        refine lv_if_ne (tgt := 49) hx hb dX10_wreck_39 (by decide) (fun c39 => ?_) (fun c39 => ?_)
        · replace h := k_in c39 h
          refine lv_iload hx hb dX10_wreck_49 (lv_at hl 0 rfl) ?_
          refine lv_iconst (v := 4) hx hb dX10_wreck_51 (by decide) ?_
          refine rd_calli (va_runS (As := [.int 4]) (rest := [.int u1.1]) C0.1 (kX10_bit l 4) (wX10_wreck_X10_bit hts ⟨Nat.le_of_ble_eq_true rfl, Nat.le_of_ble_eq_true rfl⟩) ⟨PT.blind, fun _ _ _ => ⟨rfl, trivial⟩⟩ rfl rfl hl.1 rfl (lv_room (Nat.le_of_ble_eq_true rfl)) dX10_wreck_52 ⟨Nat.zero_le _, Nat.zero_le _⟩) ?_
          refine lv_iconst (v := 1) hx hb dX10_wreck_55 (by decide) ?_
          refine lv_isub hx hb dX10_wreck_56 ?_
          refine lv_iand hx hb dX10_wreck_57 ?_
          obtain rfl := k_sm h
          exact W.iret hx hb hr (fun t ht hW => ⟨⟨_, _, rfl, ⟨rfl, rfl⟩, pw_end ht hP⟩, hS.F ht⟩) hS.2.2 dX10_wreck_58
        · replace h := k_ip c39 h
          refine lv_iload hx hb dX10_wreck_42 (lv_at hl 0 rfl) ?_
          refine lv_iconst (v := 4) hx hb dX10_wreck_44 (by decide) ?_
          refine lv_ishr hx hb dX10_wreck_45 ?_
          refine lv_goto (tgt := 58) hx hb dX10_wreck_46 (by decide) ?_
          obtain rfl := k_sm h
          exact W.iret hx hb hr (fun t ht hW => ⟨⟨_, _, rfl, ⟨rfl, rfl⟩, pw_end ht hP⟩, hS.F ht⟩) hS.2.2 dX10_wreck_58
      · replace h := k_in c22 h
        refine lv_iconst (v := (-1)) hx hb dX10_wreck_25 (by decide) ?_
        obtain rfl := k_sm h
        exact W.iret hx hb hr (fun t ht hW => ⟨⟨_, _, rfl, ⟨rfl, rfl⟩, pw_end ht hP⟩, hS.F ht⟩) hS.2.2 dX10_wreck_26
set_option maxHeartbeats 4000000 in
set_option maxRecDepth 100000 in
theorem kX10_place (l : Launch) {D : va_G} {cI cB cZ : ClassId} {ad : Nat → Nat} {τ : Int64} (hap : cwX ad) (σ : Sg) (x1 : Int32) (x2 : Int32) (x3 : Int32) (o : (Int32 × Sg)) (h : pX10_place σ x1 x2 x3 = some o) : Met l yX10_place wsX10_place rmX10_place (va_Pc [.ref (ad 0), .int x1, .int x2, .int x3] (PW D cI cB cZ (CW cI ad τ σ))) (QI D (CW cI ad τ) (cwA ad) o.1 o.2) 0 0 (cwA ad) := by
  refine Met.ofW (cc := cX10_place) (maxL := 4) (ret := (some .int)) (by decide) rfl ?_
  intro p e s m args below meth c s₁ B hml hv
  obtain ⟨rfl, hP, hK, hN⟩ := hv
  have C0 : Cx p s m _ meth c cX10_place 4 (some .int) RX10 wsX10_place := ⟨⟨B.exec, B.bytes, hml, findClass_of_methodNamed B.named, atoms_spec B.pre⟩, B.returns, B.notSynchronized⟩
  obtain ⟨⟨hx, hb, -, hown, hts⟩, hr, hlk⟩ := id C0
  have hS : va_S (cwA ad) s.heap s.heap [] := va_S.rf
  have hl := lv_entry ([.ref (ad 0), .int x1, .int x2, .int x3]) (n := 4) (Nat.le_of_ble_eq_true rfl)
  rw [lg_entry_eq]
  generalize (lg_sl ([.ref (ad 0), .int x1, .int x2, .int x3]) ++ List.replicate (4 - (lg_sl ([.ref (ad 0), .int x1, .int x2, .int x3])).length) Slot.unset).toArray = ls at hl ⊢
  have hl : lv_has ls 4 [(0, .ref (ad 0)), (1, .int x1), (2, .int x2), (3, .int x3)] := hl
  rw [pX10_place] at h
  refine lv_iload_n hx hb dX10_place_0 rfl (lv_at hl 1 rfl) ?_
  refine lv_iconst (v := 0) hx hb dX10_place_1 (by decide) ?_
  refine lv_aload_n hx hb dX10_place_2 rfl (lv_at hl 0 rfl) ?_
  refine va_get (D := D) (ci := 10) (v := .ref (ad 1)) (C := RX10) (T := TX10) (N := 12) hx hb hts iX10_place_X10 hown hK hP 0 cw_0 rfl 0 (by decide) (hts (.fieldLink RX10 10 RX10 "told" "LAnchorWills$Told;") (by decide +kernel)) (fun _ h9 => h9) rfl dX10_place_3 ?_
  refine va_getN (D := D) (ci := 9) (v := .int (σ 1 8)) (C := RX9) (T := TX9) (N := 10) hx hb hts iX10_place_X9 hown hK hP 1 cw_1 rfl 8 (by decide) (va_Nw.use rfl (nf_X10_203 hN)) (fun _ h9 => h9) rfl dX10_place_6 ?_
  refine rd_calli (va_runS (As := [.int (σ 1 8)]) (rest := [.int 0, .int x1]) C0.1 (kX10_bit l (σ 1 8)) (wX10_place_X10_bit hts ⟨Nat.le_of_ble_eq_true rfl, Nat.le_of_ble_eq_true rfl⟩) ⟨PT.blind, fun _ _ _ => ⟨rfl, trivial⟩⟩ rfl rfl hl.1 rfl (lv_room (Nat.le_of_ble_eq_true rfl)) dX10_place_9 ⟨Nat.zero_le _, Nat.zero_le _⟩) ?_
  refine lv_iconst (v := 1) hx hb dX10_place_12 (by decide) ?_
  refine lv_isub hx hb dX10_place_13 ?_
  refine rd_calli (va_runS (As := [.int x1, .int 0, .int ((pX10_bit (σ 1 8)) - 1)]) (rest := []) C0.1 (kX10_isOutside l x1 0 ((pX10_bit (σ 1 8)) - 1)) (wX10_place_X10_isOutside hts ⟨Nat.le_of_ble_eq_true rfl, Nat.le_of_ble_eq_true rfl⟩) ⟨PT.blind, fun _ _ _ => ⟨rfl, trivial⟩⟩ rfl rfl hl.1 rfl (lv_room (Nat.le_of_ble_eq_true rfl)) dX10_place_14 ⟨Nat.zero_le _, Nat.zero_le _⟩) ?_
  refine lv_if_ne (tgt := 43) hx hb dX10_place_17 (by decide) (fun c17 => ?_) (fun c17 => ?_)
  · replace h := k_in c17 h
    refine lv_iconst (v := (-1)) hx hb dX10_place_43 (by decide) ?_
    obtain rfl := k_sm h
    exact W.iret hx hb hr (fun t ht hW => ⟨⟨_, _, rfl, ⟨rfl, rfl⟩, pw_end ht hP⟩, hS.F ht⟩) hS.2.2 dX10_place_44
  · replace h := k_ip c17 h
    refine lv_iload_n hx hb dX10_place_20 rfl (lv_at hl 2 rfl) ?_
    refine rd_calli (va_runS (As := [.int x2]) (rest := []) C0.1 (kX10_isNoForce l x2) (wX10_place_X10_isNoForce hts ⟨Nat.le_of_ble_eq_true rfl, Nat.le_of_ble_eq_true rfl⟩) ⟨PT.blind, fun _ _ _ => ⟨rfl, trivial⟩⟩ rfl rfl hl.1 rfl (lv_room (Nat.le_of_ble_eq_true rfl)) dX10_place_21 ⟨Nat.zero_le _, Nat.zero_le _⟩) ?_
    refine lv_if_ne (tgt := 43) hx hb dX10_place_24 (by decide) (fun c24 => ?_) (fun c24 => ?_)
    · replace h := k_in c24 h
      refine lv_iconst (v := (-1)) hx hb dX10_place_43 (by decide) ?_
      obtain rfl := k_sm h
      exact W.iret hx hb hr (fun t ht hW => ⟨⟨_, _, rfl, ⟨rfl, rfl⟩, pw_end ht hP⟩, hS.F ht⟩) hS.2.2 dX10_place_44
    · replace h := k_ip c24 h
      refine lv_aload_n hx hb dX10_place_27 rfl (lv_at hl 0 rfl) ?_
      refine lv_iload_n hx hb dX10_place_28 rfl (lv_at hl 3 rfl) ?_
      refine rd_calli (va_runV (As := [.int x3]) (rest := []) C0.1 (kX10_isNoAnchor l (D := D) (cI := cI) (cB := cB) (cZ := cZ) (ad := ad) (τ := τ) σ x3) (wX10_place_X10_isNoAnchor hts ⟨Nat.le_of_ble_eq_true rfl, Nat.le_of_ble_eq_true rfl⟩) ⟨PW.blind, cw_r0 hK hP, PW.mk hP hK hN⟩ rfl rfl hl.1 rfl (lv_room (Nat.le_of_ble_eq_true rfl)) dX10_place_29 ⟨Nat.zero_le _, Nat.zero_le _⟩) ?_
      refine lv_if_ne (tgt := 43) hx hb dX10_place_32 (by decide) (fun c32 => ?_) (fun c32 => ?_)
      · replace h := k_in c32 h
        refine lv_iconst (v := (-1)) hx hb dX10_place_43 (by decide) ?_
        obtain rfl := k_sm h
        exact W.iret hx hb hr (fun t ht hW => ⟨⟨_, _, rfl, ⟨rfl, rfl⟩, pw_end ht hP⟩, hS.F ht⟩) hS.2.2 dX10_place_44
      · replace h := k_ip c32 h
        refine lv_iload_n hx hb dX10_place_35 rfl (lv_at hl 1 rfl) ?_
        refine lv_iload_n hx hb dX10_place_36 rfl (lv_at hl 3 rfl) ?_
        refine rd_calli (va_runS (As := [.int x1, .int x3]) (rest := []) C0.1 (kX10_has l x1 x3) (wX10_place_X10_has hts ⟨Nat.le_of_ble_eq_true rfl, Nat.le_of_ble_eq_true rfl⟩) ⟨PT.blind, fun _ _ _ => ⟨rfl, trivial⟩⟩ rfl rfl hl.1 rfl (lv_room (Nat.le_of_ble_eq_true rfl)) dX10_place_37 ⟨Nat.zero_le _, Nat.zero_le _⟩) ?_
        refine lv_if_ne (tgt := 45) hx hb dX10_place_40 (by decide) (fun c40 => ?_) (fun c40 => ?_)
        · replace h := k_in c40 h
          refine lv_iload_n hx hb dX10_place_45 rfl (lv_at hl 1 rfl) ?_
          refine lv_aload_n hx hb dX10_place_46 rfl (lv_at hl 0 rfl) ?_
          refine va_get (D := D) (ci := 10) (v := .ref (ad 1)) (C := RX10) (T := TX10) (N := 12) hx hb hts iX10_place_X10 hown hK hP 0 cw_0 rfl 0 (by decide) (hts (.fieldLink RX10 10 RX10 "told" "LAnchorWills$Told;") (by decide +kernel)) (fun _ h9 => h9) rfl dX10_place_47 ?_
          refine lv_aload_n hx hb dX10_place_50 rfl (lv_at hl 0 rfl) ?_
          refine va_get (D := D) (ci := 10) (v := .ref (ad 19)) (C := RX10) (T := TX10) (N := 12) hx hb hts iX10_place_X10 hown hK hP 0 cw_0 rfl 2 (by decide) (hts (.fieldLink RX10 22 RX10 "now" "LAnchorWills$Now;") (by decide +kernel)) (fun _ h9 => h9) rfl dX10_place_51 ?_
          refine lv_iconst (v := 0) hx hb dX10_place_54 (by decide) ?_
          obtain ⟨v1, e2, h⟩ := k_bd h
          refine rd_calli (va_runS (As := [.ref (ad 1), .ref (ad 19), .int 0]) (rest := [.int x1]) C0.1 (kX10_thoseThatAre_20 l (D := D) (cI := cI) (cB := cB) (cZ := cZ) (ad := ad) (τ := τ) σ 0 _ e2) (wX10_place_X10_thoseThatAre hts ⟨Nat.le_of_ble_eq_true rfl, Nat.le_of_ble_eq_true rfl⟩) ⟨PW.blind, PW.mk hP hK hN⟩ rfl rfl hl.1 rfl (lv_room (Nat.le_of_ble_eq_true rfl)) dX10_place_55 ⟨Nat.zero_le _, Nat.zero_le _⟩) ?_
          refine lv_iand hx hb dX10_place_58 ?_
          refine lv_iload_n hx hb dX10_place_59 rfl (lv_at hl 1 rfl) ?_
          refine lv_icmp_eq (tgt := 66) hx hb dX10_place_60 (by decide) (fun c60 => ?_) (fun c60 => ?_)
          · replace h := k_ip c60 h
            refine lv_aload_n hx hb dX10_place_66 rfl (lv_at hl 0 rfl) ?_
            refine va_get (D := D) (ci := 10) (v := .ref (ad 39)) (C := RX10) (T := TX10) (N := 12) hx hb hts iX10_place_X10 hown hK hP 0 cw_0 rfl 8 (by decide) (hts (.fieldLink RX10 62 RX10 "berths" "LAnchorWills$Berths;") (by decide +kernel)) (fun _ h9 => h9) rfl dX10_place_67 ?_
            refine lv_iload_n hx hb dX10_place_70 rfl (lv_at hl 1 rfl) ?_
            refine lv_iload_n hx hb dX10_place_71 rfl (lv_at hl 2 rfl) ?_
            refine lv_iload_n hx hb dX10_place_72 rfl (lv_at hl 3 rfl) ?_
            obtain ⟨u3, e4, h⟩ := k_bd h
            refine wr_calli (va_runVN (As := [.int x1, .int x2, .int x3]) (rest := []) C0.1 (kX0_berthOf l (D := D) (cI := cI) (cB := cB) (cZ := cZ) (τ := τ) hap σ x1 x2 x3 _ e4) (wX10_place_X0_berthOf hts hN ⟨Nat.le_of_ble_eq_true rfl, Nat.le_of_ble_eq_true rfl⟩) ⟨PW.blind, cw_r39 hK hP, PW.mk hP hK hN⟩ rfl rfl hl.1 rfl (lv_room (Nat.le_of_ble_eq_true rfl)) dX10_place_73 ⟨Nat.zero_le _, Nat.zero_le _⟩) hS (fun _ h => h) (fun H locs hP hS => ?_)
            have hP : va_P D vwCl (CW cI ad τ u3.2) H := hP
            obtain rfl := k_sm h
            exact W.iret hx hb hr (fun t ht hW => ⟨⟨_, _, rfl, ⟨rfl, rfl⟩, pw_end ht hP⟩, hS.F ht⟩) hS.2.2 dX10_place_76
          · replace h := k_in c60 h
            refine lv_bipush (v := (-2)) hx hb dX10_place_63 (by decide) ?_
            obtain rfl := k_sm h
            exact W.iret hx hb hr (fun t ht hW => ⟨⟨_, _, rfl, ⟨rfl, rfl⟩, pw_end ht hP⟩, hS.F ht⟩) hS.2.2 dX10_place_65
        · replace h := k_ip c40 h
          refine lv_iconst (v := (-1)) hx hb dX10_place_43 (by decide) ?_
          obtain rfl := k_sm h
          exact W.iret hx hb hr (fun t ht hW => ⟨⟨_, _, rfl, ⟨rfl, rfl⟩, pw_end ht hP⟩, hS.F ht⟩) hS.2.2 dX10_place_44
set_option maxHeartbeats 4000000 in
set_option maxRecDepth 100000 in
theorem kX10_vital (l : Launch) {D : va_G} {cI cB cZ : ClassId} {ad : Nat → Nat} {τ : Int64} (σ : Sg) (x1 : Int32) (x2 : Int32) (o : Int32) (h : pX10_vital σ x1 x2 = some o) : Met l yX10_vital wsX10_vital rmX10_vital (va_Pc [.ref (ad 0), .int x1, .int x2] (PW D cI cB cZ (CW cI ad τ σ))) (QcRead o) 0 0 (fun _ => False) := by
  refine Met.ofW (cc := cX10_vital) (maxL := 3) (ret := (some .int)) (by decide) rfl ?_
  intro p e s m args below meth c s₁ B hml hv
  obtain ⟨rfl, hP, hK, hN⟩ := hv
  have C0 : Cx p s m _ meth c cX10_vital 3 (some .int) RX10 wsX10_vital := ⟨⟨B.exec, B.bytes, hml, findClass_of_methodNamed B.named, atoms_spec B.pre⟩, B.returns, B.notSynchronized⟩
  obtain ⟨⟨hx, hb, -, hown, hts⟩, hr, hlk⟩ := id C0
  have hl := lv_entry ([.ref (ad 0), .int x1, .int x2]) (n := 3) (Nat.le_of_ble_eq_true rfl)
  rw [lg_entry_eq]
  generalize (lg_sl ([.ref (ad 0), .int x1, .int x2]) ++ List.replicate (3 - (lg_sl ([.ref (ad 0), .int x1, .int x2])).length) Slot.unset).toArray = ls at hl ⊢
  have hl : lv_has ls 3 [(0, .ref (ad 0)), (1, .int x1), (2, .int x2)] := hl
  rw [pX10_vital] at h
  refine lv_aload_n hx hb dX10_vital_0 rfl (lv_at hl 0 rfl) ?_
  refine lv_iload_n hx hb dX10_vital_1 rfl (lv_at hl 1 rfl) ?_
  refine rd_calli (va_runV (As := [.int x1]) (rest := []) C0.1 (kX10_isNoRaft l (D := D) (cI := cI) (cB := cB) (cZ := cZ) (ad := ad) (τ := τ) σ x1) (wX10_vital_X10_isNoRaft hts ⟨Nat.le_of_ble_eq_true rfl, Nat.le_of_ble_eq_true rfl⟩) ⟨PW.blind, cw_r0 hK hP, PW.mk hP hK hN⟩ rfl rfl hl.1 rfl (lv_room (Nat.le_of_ble_eq_true rfl)) dX10_vital_2 ⟨Nat.zero_le _, Nat.zero_le _⟩) ?_
  refine lv_if_ne (tgt := 15) hx hb dX10_vital_5 (by decide) (fun c5 => ?_) (fun c5 => ?_)
  · replace h := k_in c5 h
    refine lv_iconst (v := (-1)) hx hb dX10_vital_15 (by decide) ?_
    obtain rfl := k_sm h
    exact W.iret hx hb hr (fun t ht hW => ⟨rfl, ht⟩) (fun _ h => by cases h) dX10_vital_16
  · replace h := k_ip c5 h
    refine lv_iload_n hx hb dX10_vital_8 rfl (lv_at hl 2 rfl) ?_
    refine rd_calli (va_runS (As := [.int x2]) (rest := []) C0.1 (kX10_isNoForce l x2) (wX10_vital_X10_isNoForce hts ⟨Nat.le_of_ble_eq_true rfl, Nat.le_of_ble_eq_true rfl⟩) ⟨PT.blind, fun _ _ _ => ⟨rfl, trivial⟩⟩ rfl rfl hl.1 rfl (lv_room (Nat.le_of_ble_eq_true rfl)) dX10_vital_9 ⟨Nat.zero_le _, Nat.zero_le _⟩) ?_
    refine lv_if_eq (tgt := 17) hx hb dX10_vital_12 (by decide) (fun c12 => ?_) (fun c12 => ?_)
    · replace h := k_ip c12 h
      refine lv_aload_n hx hb dX10_vital_17 rfl (lv_at hl 0 rfl) ?_
      refine va_get (D := D) (ci := 10) (v := .ref (ad 42)) (C := RX10) (T := TX10) (N := 12) hx hb hts iX10_vital_X10 hown hK hP 0 cw_0 rfl 9 (by decide) (hts (.fieldLink RX10 69 RX10 "heirs" "LAnchorWills$Heirs;") (by decide +kernel)) (fun _ h9 => h9) rfl dX10_vital_18 ?_
      refine lv_iload_n hx hb dX10_vital_21 rfl (lv_at hl 1 rfl) ?_
      refine lv_iload_n hx hb dX10_vital_22 rfl (lv_at hl 2 rfl) ?_
      obtain ⟨v1, e2, h⟩ := k_bd h
      refine rd_calli (va_runVN (As := [.int x1, .int x2]) (rest := []) C0.1 (kX2_vitalFor l (D := D) (cI := cI) (cB := cB) (cZ := cZ) (ad := ad) (τ := τ) σ x1 x2 _ e2) (wX10_vital_X2_vitalFor hts hN ⟨Nat.le_of_ble_eq_true rfl, Nat.le_of_ble_eq_true rfl⟩) ⟨PW.blind, cw_r42 hK hP, PW.mk hP hK hN⟩ rfl rfl hl.1 rfl (lv_room (Nat.le_of_ble_eq_true rfl)) dX10_vital_23 ⟨Nat.zero_le _, Nat.zero_le _⟩) ?_
      obtain rfl := k_sm h
      exact W.iret hx hb hr (fun t ht hW => ⟨rfl, ht⟩) (fun _ h => by cases h) dX10_vital_26
    · replace h := k_in c12 h
      refine lv_iconst (v := (-1)) hx hb dX10_vital_15 (by decide) ?_
      obtain rfl := k_sm h
      exact W.iret hx hb hr (fun t ht hW => ⟨rfl, ht⟩) (fun _ h => by cases h) dX10_vital_16
set_option maxHeartbeats 4000000 in
set_option maxRecDepth 100000 in
theorem kX10_odds (l : Launch) {D : va_G} {cI cB cZ : ClassId} {ad : Nat → Nat} {τ : Int64} (hap : cwX ad) (σ : Sg) (x1 : Int32) (x2 : Int32) (x3 : Int32) (x4 : Int32) (o : (Int32 × Sg)) (h : pX10_odds σ x1 x2 x3 x4 = some o) : Met l yX10_odds wsX10_odds rmX10_odds (va_Pc [.ref (ad 0), .int x1, .int x2, .int x3, .int x4] (PW D cI cB cZ (CW cI ad τ σ))) (QI D (CW cI ad τ) (cwA ad) o.1 o.2) 0 0 (cwA ad) := by
  refine Met.ofW (cc := cX10_odds) (maxL := 7) (ret := (some .int)) (by decide) rfl ?_
  intro p e s m args below meth c s₁ B hml hv
  obtain ⟨rfl, hP, hK, hN⟩ := hv
  have C0 : Cx p s m _ meth c cX10_odds 7 (some .int) RX10 wsX10_odds := ⟨⟨B.exec, B.bytes, hml, findClass_of_methodNamed B.named, atoms_spec B.pre⟩, B.returns, B.notSynchronized⟩
  obtain ⟨⟨hx, hb, -, hown, hts⟩, hr, hlk⟩ := id C0
  have hS : va_S (cwA ad) s.heap s.heap [] := va_S.rf
  have hl := lv_entry ([.ref (ad 0), .int x1, .int x2, .int x3, .int x4]) (n := 7) (Nat.le_of_ble_eq_true rfl)
  rw [lg_entry_eq]
  generalize (lg_sl ([.ref (ad 0), .int x1, .int x2, .int x3, .int x4]) ++ List.replicate (7 - (lg_sl ([.ref (ad 0), .int x1, .int x2, .int x3, .int x4])).length) Slot.unset).toArray = ls at hl ⊢
  have hl : lv_has ls 7 [(0, .ref (ad 0)), (1, .int x1), (2, .int x2), (3, .int x3), (4, .int x4)] := hl
  rw [pX10_odds] at h
  refine lv_aload_n hx hb dX10_odds_0 rfl (lv_at hl 0 rfl) ?_
  refine lv_iload_n hx hb dX10_odds_1 rfl (lv_at hl 1 rfl) ?_
  refine rd_calli (va_runV (As := [.int x1]) (rest := []) C0.1 (kX10_isNoAnchor l (D := D) (cI := cI) (cB := cB) (cZ := cZ) (ad := ad) (τ := τ) σ x1) (wX10_odds_X10_isNoAnchor hts ⟨Nat.le_of_ble_eq_true rfl, Nat.le_of_ble_eq_true rfl⟩) ⟨PW.blind, cw_r0 hK hP, PW.mk hP hK hN⟩ rfl rfl hl.1 rfl (lv_room (Nat.le_of_ble_eq_true rfl)) dX10_odds_2 ⟨Nat.zero_le _, Nat.zero_le _⟩) ?_
  refine lv_if_ne (tgt := 34) hx hb dX10_odds_5 (by decide) (fun c5 => ?_) (fun c5 => ?_)
  · replace h := k_in c5 h
    refine lv_iconst (v := (-1)) hx hb dX10_odds_34 (by decide) ?_
    obtain rfl := k_sm h
    exact W.iret hx hb hr (fun t ht hW => ⟨⟨_, _, rfl, ⟨rfl, rfl⟩, pw_end ht hP⟩, hS.F ht⟩) hS.2.2 dX10_odds_35
  · replace h := k_ip c5 h
    refine lv_iload_n hx hb dX10_odds_8 rfl (lv_at hl 2 rfl) ?_
    refine rd_calli (va_runS (As := [.int x2]) (rest := []) C0.1 (kX10_isNoForce l x2) (wX10_odds_X10_isNoForce hts ⟨Nat.le_of_ble_eq_true rfl, Nat.le_of_ble_eq_true rfl⟩) ⟨PT.blind, fun _ _ _ => ⟨rfl, trivial⟩⟩ rfl rfl hl.1 rfl (lv_room (Nat.le_of_ble_eq_true rfl)) dX10_odds_9 ⟨Nat.zero_le _, Nat.zero_le _⟩) ?_
    refine lv_if_ne (tgt := 34) hx hb dX10_odds_12 (by decide) (fun c12 => ?_) (fun c12 => ?_)
    · replace h := k_in c12 h
      refine lv_iconst (v := (-1)) hx hb dX10_odds_34 (by decide) ?_
      obtain rfl := k_sm h
      exact W.iret hx hb hr (fun t ht hW => ⟨⟨_, _, rfl, ⟨rfl, rfl⟩, pw_end ht hP⟩, hS.F ht⟩) hS.2.2 dX10_odds_35
    · replace h := k_ip c12 h
      refine lv_iload_n hx hb dX10_odds_15 rfl (lv_at hl 3 rfl) ?_
      refine lv_iconst (v := 0) hx hb dX10_odds_16 (by decide) ?_
      refine lv_iconst (v := 4) hx hb dX10_odds_17 (by decide) ?_
      refine rd_calli (va_runS (As := [.int x3, .int 0, .int 4]) (rest := []) C0.1 (kX10_isOutside l x3 0 4) (wX10_odds_X10_isOutside hts ⟨Nat.le_of_ble_eq_true rfl, Nat.le_of_ble_eq_true rfl⟩) ⟨PT.blind, fun _ _ _ => ⟨rfl, trivial⟩⟩ rfl rfl hl.1 rfl (lv_room (Nat.le_of_ble_eq_true rfl)) dX10_odds_18 ⟨Nat.zero_le _, Nat.zero_le _⟩) ?_
      refine lv_if_ne (tgt := 34) hx hb dX10_odds_21 (by decide) (fun c21 => ?_) (fun c21 => ?_)
      · replace h := k_in c21 h
        refine lv_iconst (v := (-1)) hx hb dX10_odds_34 (by decide) ?_
        obtain rfl := k_sm h
        exact W.iret hx hb hr (fun t ht hW => ⟨⟨_, _, rfl, ⟨rfl, rfl⟩, pw_end ht hP⟩, hS.F ht⟩) hS.2.2 dX10_odds_35
      · replace h := k_ip c21 h
        refine lv_iload hx hb dX10_odds_24 (lv_at hl 4 rfl) ?_
        refine lv_iconst (v := 0) hx hb dX10_odds_26 (by decide) ?_
        refine lv_iconst (v := 1) hx hb dX10_odds_27 (by decide) ?_
        refine rd_calli (va_runS (As := [.int x4, .int 0, .int 1]) (rest := []) C0.1 (kX10_isOutside l x4 0 1) (wX10_odds_X10_isOutside hts ⟨Nat.le_of_ble_eq_true rfl, Nat.le_of_ble_eq_true rfl⟩) ⟨PT.blind, fun _ _ _ => ⟨rfl, trivial⟩⟩ rfl rfl hl.1 rfl (lv_room (Nat.le_of_ble_eq_true rfl)) dX10_odds_28 ⟨Nat.zero_le _, Nat.zero_le _⟩) ?_
        refine lv_if_eq (tgt := 36) hx hb dX10_odds_31 (by decide) (fun c31 => ?_) (fun c31 => ?_)
        · replace h := k_ip c31 h
          refine lv_aload_n hx hb dX10_odds_36 rfl (lv_at hl 0 rfl) ?_
          refine va_get (D := D) (ci := 10) (v := .ref (ad 19)) (C := RX10) (T := TX10) (N := 12) hx hb hts iX10_odds_X10 hown hK hP 0 cw_0 rfl 2 (by decide) (hts (.fieldLink RX10 22 RX10 "now" "LAnchorWills$Now;") (by decide +kernel)) (fun _ h9 => h9) rfl dX10_odds_37 ?_
          refine lv_iload_n hx hb dX10_odds_40 rfl (lv_at hl 1 rfl) ?_
          refine rd_calli (va_runVN (As := [.int x1]) (rest := []) C0.1 (kX5_lies_20 l (D := D) (cI := cI) (cB := cB) (cZ := cZ) (ad := ad) (τ := τ) σ x1) (wX10_odds_X5_lies hts hN ⟨Nat.le_of_ble_eq_true rfl, Nat.le_of_ble_eq_true rfl⟩) ⟨PW.blind, cw_r19 hK hP, PW.mk hP hK hN⟩ rfl rfl hl.1 rfl (lv_room (Nat.le_of_ble_eq_true rfl)) dX10_odds_41 ⟨Nat.zero_le _, Nat.zero_le _⟩) ?_
          refine lv_if_ne (tgt := 50) hx hb dX10_odds_44 (by decide) (fun c44 => ?_) (fun c44 => ?_)
          · replace h := k_in c44 h
            refine lv_aload_n hx hb dX10_odds_50 rfl (lv_at hl 0 rfl) ?_
            refine va_get (D := D) (ci := 10) (v := .ref (ad 35)) (C := RX10) (T := TX10) (N := 12) hx hb hts iX10_odds_X10 hown hK hP 0 cw_0 rfl 7 (by decide) (hts (.fieldLink RX10 55 RX10 "sea" "LAnchorWills$Sea;") (by decide +kernel)) (fun _ h9 => h9) rfl dX10_odds_51 ?_
            refine lv_iload_n hx hb dX10_odds_54 rfl (lv_at hl 1 rfl) ?_
            obtain ⟨u1, e2, h⟩ := k_bd h
            refine wr_calli (va_runVN (As := [.int x1]) (rest := []) C0.1 (kX8_holdOf l (D := D) (cI := cI) (cB := cB) (cZ := cZ) (τ := τ) hap σ x1 _ e2) (wX10_odds_X8_holdOf hts hN ⟨Nat.le_of_ble_eq_true rfl, Nat.le_of_ble_eq_true rfl⟩) ⟨PW.blind, cw_r35 hK hP, PW.mk hP hK hN⟩ rfl rfl hl.1 rfl (lv_room (Nat.le_of_ble_eq_true rfl)) dX10_odds_55 ⟨Nat.zero_le _, Nat.zero_le _⟩) hS (fun _ h => h) (fun H locs hP hS => ?_)
            have hP : va_P D vwCl (CW cI ad τ u1.2) H := hP
            refine lv_iload_n hx hb dX10_odds_58 rfl (lv_at hl 2 rfl) ?_
            refine va_mmin hx hb (hml.trans hl.1.symm) hown (hts (.methodLink RX10 206 Lib.Math.min.name) (by decide +kernel)) (hts (.static Lib.Math.min.name) (by decide +kernel)) (hts (.initialized "java/lang/Math") (by decide +kernel)) (hts (.code Lib.Math.min.name Lib.Math.min.code 2 (some .int)) (by decide +kernel)) (Nat.le_of_ble_eq_true rfl) (Nat.le_of_ble_eq_true rfl) (Nat.zero_le _) (Nat.zero_le _) dX10_odds_59 ?_
            obtain ⟨v3, e4, h⟩ := k_bd h
            refine lv_nmi (k_sm e4) ?_
            refine lv_istore (lv' := [(5, .int v3), (0, .ref (ad 0)), (1, .int x1), (2, .int x2), (3, .int x3), (4, .int x4)]) hx hb dX10_odds_62 hl (by decide) rfl (fun ls hl => ?_)
            refine lv_iload hx hb dX10_odds_64 (lv_at hl 0 rfl) ?_
            refine lv_iload_n hx hb dX10_odds_66 rfl (lv_at hl 3 rfl) ?_
            obtain ⟨v5, e6, h⟩ := k_bd h
            refine rd_calli (va_runS (As := [.int v3, .int x2]) (rest := []) C0.1 (kX10_commonPart l v3 x2 _ e6) (wX10_odds_X10_commonPart hts ⟨Nat.le_of_ble_eq_true rfl, Nat.le_of_ble_eq_true rfl⟩) ⟨PT.blind, fun _ _ _ => ⟨rfl, trivial⟩⟩ rfl rfl hl.1 rfl (lv_room (Nat.le_of_ble_eq_true rfl)) dX10_odds_67 ⟨Nat.zero_le _, Nat.zero_le _⟩) ?_
            refine lv_istore (lv' := [(6, .int v5), (5, .int v3), (0, .ref (ad 0)), (1, .int x1), (2, .int x2), (3, .int x3), (4, .int x4)]) hx hb dX10_odds_70 hl (by decide) rfl (fun ls hl => ?_)
            refine lv_iload hx hb dX10_odds_72 (lv_at hl 6 rfl) ?_
            refine lv_if_ne (tgt := 87) hx hb dX10_odds_74 (by decide) (fun c74 => ?_) (fun c74 => ?_)
            · replace h := k_in c74 h
              refine lv_iload_n hx hb dX10_odds_87 rfl (lv_at hl 4 rfl) ?_
              refine lv_iload hx hb dX10_odds_88 (lv_at hl 0 rfl) ?_
              obtain ⟨v7, e8, h⟩ := k_bd h
              refine rd_calli (va_runS (As := [.int x2, .int v5]) (rest := []) C0.1 (kX10_divided l x2 v5 _ e8) (wX10_odds_X10_divided hts ⟨Nat.le_of_ble_eq_true rfl, Nat.le_of_ble_eq_true rfl⟩) ⟨PT.blind, fun _ _ _ => ⟨rfl, trivial⟩⟩ rfl rfl hl.1 rfl (lv_room (Nat.le_of_ble_eq_true rfl)) dX10_odds_90 ⟨Nat.zero_le _, Nat.zero_le _⟩) ?_
              refine lv_iload_n hx hb dX10_odds_93 rfl (lv_at hl 5 rfl) ?_
              obtain ⟨v9, e10, h⟩ := k_bd h
              refine rd_calli (va_runS (As := [.int v7, .int x3]) (rest := []) C0.1 (kX10_power l v7 x3 _ e10) (wX10_odds_X10_power hts ⟨Nat.le_of_ble_eq_true rfl, Nat.le_of_ble_eq_true rfl⟩) ⟨PT.blind, fun _ _ _ => ⟨rfl, trivial⟩⟩ rfl rfl hl.1 rfl (lv_room (Nat.le_of_ble_eq_true rfl)) dX10_odds_94 ⟨Nat.zero_le _, Nat.zero_le _⟩) ?_
              obtain rfl := k_sm h
              exact W.iret hx hb hr (fun t ht hW => ⟨⟨_, _, rfl, ⟨rfl, rfl⟩, pw_end ht hP⟩, hS.F ht⟩) hS.2.2 dX10_odds_97
            · replace h := k_ip c74 h
              refine lv_iload hx hb dX10_odds_77 (lv_at hl 1 rfl) ?_
              refine lv_iload hx hb dX10_odds_79 (lv_at hl 0 rfl) ?_
              obtain ⟨v11, e12, h⟩ := k_bd h
              refine rd_calli (va_runS (As := [.int v3, .int v5]) (rest := []) C0.1 (kX10_divided l v3 v5 _ e12) (wX10_odds_X10_divided hts ⟨Nat.le_of_ble_eq_true rfl, Nat.le_of_ble_eq_true rfl⟩) ⟨PT.blind, fun _ _ _ => ⟨rfl, trivial⟩⟩ rfl rfl hl.1 rfl (lv_room (Nat.le_of_ble_eq_true rfl)) dX10_odds_81 ⟨Nat.zero_le _, Nat.zero_le _⟩) ?_
              refine lv_goto (tgt := 93) hx hb dX10_odds_84 (by decide) ?_
              refine lv_iload_n hx hb dX10_odds_93 rfl (lv_at hl 5 rfl) ?_
              obtain ⟨v13, e14, h⟩ := k_bd h
              refine rd_calli (va_runS (As := [.int v11, .int x3]) (rest := []) C0.1 (kX10_power l v11 x3 _ e14) (wX10_odds_X10_power hts ⟨Nat.le_of_ble_eq_true rfl, Nat.le_of_ble_eq_true rfl⟩) ⟨PT.blind, fun _ _ _ => ⟨rfl, trivial⟩⟩ rfl rfl hl.1 rfl (lv_room (Nat.le_of_ble_eq_true rfl)) dX10_odds_94 ⟨Nat.zero_le _, Nat.zero_le _⟩) ?_
              obtain rfl := k_sm h
              exact W.iret hx hb hr (fun t ht hW => ⟨⟨_, _, rfl, ⟨rfl, rfl⟩, pw_end ht hP⟩, hS.F ht⟩) hS.2.2 dX10_odds_97
          · replace h := k_ip c44 h
            refine lv_bipush (v := (-2)) hx hb dX10_odds_47 (by decide) ?_
            obtain rfl := k_sm h
            exact W.iret hx hb hr (fun t ht hW => ⟨⟨_, _, rfl, ⟨rfl, rfl⟩, pw_end ht hP⟩, hS.F ht⟩) hS.2.2 dX10_odds_49
        · replace h := k_in c31 h
          refine lv_iconst (v := (-1)) hx hb dX10_odds_34 (by decide) ?_
          obtain rfl := k_sm h
          exact W.iret hx hb hr (fun t ht hW => ⟨⟨_, _, rfl, ⟨rfl, rfl⟩, pw_end ht hP⟩, hS.F ht⟩) hS.2.2 dX10_odds_35
set_option maxHeartbeats 4000000 in
set_option maxRecDepth 100000 in
theorem kX10_hears (l : Launch) {D : va_G} {cI cB cZ : ClassId} {ad : Nat → Nat} {τ : Int64} (hap : cwX ad) (σ : Sg) (x1 : Int32) (x2 : Int32) (o : (Int32 × Sg)) (h : pX10_hears σ x1 x2 = some o) : Met l yX10_hears wsX10_hears rmX10_hears (va_Pc [.ref (ad 0), .int x1, .int x2] (PW D cI cB cZ (CW cI ad τ σ))) (QI D (CW cI ad τ) (cwA ad) o.1 o.2) 0 0 (cwA ad) := by
  refine Met.ofW (cc := cX10_hears) (maxL := 3) (ret := (some .int)) (by decide) rfl ?_
  intro p e s m args below meth c s₁ B hml hv
  obtain ⟨rfl, hP, hK, hN⟩ := hv
  have C0 : Cx p s m _ meth c cX10_hears 3 (some .int) RX10 wsX10_hears := ⟨⟨B.exec, B.bytes, hml, findClass_of_methodNamed B.named, atoms_spec B.pre⟩, B.returns, B.notSynchronized⟩
  obtain ⟨⟨hx, hb, -, hown, hts⟩, hr, hlk⟩ := id C0
  have hS : va_S (cwA ad) s.heap s.heap [] := va_S.rf
  have hl := lv_entry ([.ref (ad 0), .int x1, .int x2]) (n := 3) (Nat.le_of_ble_eq_true rfl)
  rw [lg_entry_eq]
  generalize (lg_sl ([.ref (ad 0), .int x1, .int x2]) ++ List.replicate (3 - (lg_sl ([.ref (ad 0), .int x1, .int x2])).length) Slot.unset).toArray = ls at hl ⊢
  have hl : lv_has ls 3 [(0, .ref (ad 0)), (1, .int x1), (2, .int x2)] := hl
  rw [pX10_hears] at h
  refine lv_iload_n hx hb dX10_hears_0 rfl (lv_at hl 1 rfl) ?_
  refine rd_calli (va_runS (As := [.int x1]) (rest := []) C0.1 (kX10_isNoForce l x1) (wX10_hears_X10_isNoForce hts ⟨Nat.le_of_ble_eq_true rfl, Nat.le_of_ble_eq_true rfl⟩) ⟨PT.blind, fun _ _ _ => ⟨rfl, trivial⟩⟩ rfl rfl hl.1 rfl (lv_room (Nat.le_of_ble_eq_true rfl)) dX10_hears_1 ⟨Nat.zero_le _, Nat.zero_le _⟩) ?_
  refine lv_if_ne (tgt := 16) hx hb dX10_hears_4 (by decide) (fun c4 => ?_) (fun c4 => ?_)
  · replace h := k_in c4 h
    refine lv_iconst (v := (-1)) hx hb dX10_hears_16 (by decide) ?_
    obtain rfl := k_sm h
    exact W.iret hx hb hr (fun t ht hW => ⟨⟨_, _, rfl, ⟨rfl, rfl⟩, pw_end ht hP⟩, hS.F ht⟩) hS.2.2 dX10_hears_17
  · replace h := k_ip c4 h
    refine lv_iload_n hx hb dX10_hears_7 rfl (lv_at hl 2 rfl) ?_
    refine lv_iconst (v := 0) hx hb dX10_hears_8 (by decide) ?_
    refine lv_iconst (v := 1) hx hb dX10_hears_9 (by decide) ?_
    refine rd_calli (va_runS (As := [.int x2, .int 0, .int 1]) (rest := []) C0.1 (kX10_isOutside l x2 0 1) (wX10_hears_X10_isOutside hts ⟨Nat.le_of_ble_eq_true rfl, Nat.le_of_ble_eq_true rfl⟩) ⟨PT.blind, fun _ _ _ => ⟨rfl, trivial⟩⟩ rfl rfl hl.1 rfl (lv_room (Nat.le_of_ble_eq_true rfl)) dX10_hears_10 ⟨Nat.zero_le _, Nat.zero_le _⟩) ?_
    refine lv_if_eq (tgt := 18) hx hb dX10_hears_13 (by decide) (fun c13 => ?_) (fun c13 => ?_)
    · replace h := k_ip c13 h
      refine lv_aload_n hx hb dX10_hears_18 rfl (lv_at hl 0 rfl) ?_
      refine va_get (D := D) (ci := 10) (v := .ref (ad 43)) (C := RX10) (T := TX10) (N := 12) hx hb hts iX10_hears_X10 hown hK hP 0 cw_0 rfl 10 (by decide) (hts (.fieldLink RX10 76 RX10 "heard" "LAnchorWills$Heard;") (by decide +kernel)) (fun _ h9 => h9) rfl dX10_hears_19 ?_
      refine lv_iload_n hx hb dX10_hears_22 rfl (lv_at hl 1 rfl) ?_
      refine lv_iload_n hx hb dX10_hears_23 rfl (lv_at hl 2 rfl) ?_
      obtain ⟨u1, e2, h⟩ := k_bd h
      refine wr_calli (va_runVN (As := [.int x1, .int x2]) (rest := []) C0.1 (kX1_takes l (D := D) (cI := cI) (cB := cB) (cZ := cZ) (τ := τ) hap σ x1 x2 _ e2) (wX10_hears_X1_takes hts hN ⟨Nat.le_of_ble_eq_true rfl, Nat.le_of_ble_eq_true rfl⟩) ⟨PW.blind, cw_r43 hK hP, PW.mk hP hK hN⟩ rfl rfl hl.1 rfl (lv_room (Nat.le_of_ble_eq_true rfl)) dX10_hears_24 ⟨Nat.zero_le _, Nat.zero_le _⟩) hS (fun _ h => h) (fun H locs hP hS => ?_)
      have hP : va_P D vwCl (CW cI ad τ u1.2) H := hP
      refine lv_if_eq (tgt := 40) hx hb dX10_hears_27 (by decide) (fun c27 => ?_) (fun c27 => ?_)
      · replace h := k_ip c27 h
        refine lv_bipush (v := (-3)) hx hb dX10_hears_40 (by decide) ?_
        obtain rfl := k_sm h
        exact W.iret hx hb hr (fun t ht hW => ⟨⟨_, _, rfl, ⟨rfl, rfl⟩, pw_end ht hP⟩, hS.F ht⟩) hS.2.2 dX10_hears_42
      · replace h := k_in c27 h
        refine lv_aload_n hx hb dX10_hears_30 rfl (lv_at hl 0 rfl) ?_
        refine va_get (D := D) (ci := 10) (v := .ref (ad 43)) (C := RX10) (T := TX10) (N := 12) hx hb hts iX10_hears_X10 hown hK hP 0 cw_0 rfl 10 (by decide) (hts (.fieldLink RX10 76 RX10 "heard" "LAnchorWills$Heard;") (by decide +kernel)) (fun _ h9 => h9) rfl dX10_hears_31 ?_
        refine va_getN (D := D) (ci := 1) (v := .int (u1.2 43 5)) (C := RX1) (T := TX1) (N := 6) hx hb hts iX10_hears_X1 hown hK hP 43 cw_43 rfl 5 (by decide) (va_Nw.use rfl (nf_X10_116 hN)) (fun _ h9 => h9) rfl dX10_hears_34 ?_
        refine lv_goto (tgt := 42) hx hb dX10_hears_37 (by decide) ?_
        obtain rfl := k_sm h
        exact W.iret hx hb hr (fun t ht hW => ⟨⟨_, _, rfl, ⟨rfl, rfl⟩, pw_end ht hP⟩, hS.F ht⟩) hS.2.2 dX10_hears_42
    · replace h := k_in c13 h
      refine lv_iconst (v := (-1)) hx hb dX10_hears_16 (by decide) ?_
      obtain rfl := k_sm h
      exact W.iret hx hb hr (fun t ht hW => ⟨⟨_, _, rfl, ⟨rfl, rfl⟩, pw_end ht hP⟩, hS.F ht⟩) hS.2.2 dX10_hears_17
set_option maxHeartbeats 4000000 in
set_option maxRecDepth 100000 in
theorem kX10_forget (l : Launch) {D : va_G} {cI cB cZ : ClassId} {ad : Nat → Nat} {τ : Int64} (hap : cwX ad) (σ : Sg) (o : (Int32 × Sg)) (h : pX10_forget σ = some o) : Met l yX10_forget wsX10_forget rmX10_forget (va_Pc [.ref (ad 0)] (PW D cI cB cZ (CW cI ad τ σ))) (QI D (CW cI ad τ) (cwA ad) o.1 o.2) 0 0 (cwA ad) := by
  refine Met.ofW (cc := cX10_forget) (maxL := 2) (ret := (some .int)) (by decide) rfl ?_
  intro p e s m args below meth c s₁ B hml hv
  obtain ⟨rfl, hP, hK, hN⟩ := hv
  have C0 : Cx p s m _ meth c cX10_forget 2 (some .int) RX10 wsX10_forget := ⟨⟨B.exec, B.bytes, hml, findClass_of_methodNamed B.named, atoms_spec B.pre⟩, B.returns, B.notSynchronized⟩
  obtain ⟨⟨hx, hb, -, hown, hts⟩, hr, hlk⟩ := id C0
  have hS : va_S (cwA ad) s.heap s.heap [] := va_S.rf
  have hl := lv_entry ([.ref (ad 0)]) (n := 2) (Nat.le_of_ble_eq_true rfl)
  rw [lg_entry_eq]
  generalize (lg_sl ([.ref (ad 0)]) ++ List.replicate (2 - (lg_sl ([.ref (ad 0)])).length) Slot.unset).toArray = ls at hl ⊢
  have hl : lv_has ls 2 [(0, .ref (ad 0))] := hl
  rw [pX10_forget] at h
  refine lv_aload_n hx hb dX10_forget_0 rfl (lv_at hl 0 rfl) ?_
  refine va_get (D := D) (ci := 10) (v := .ref (ad 43)) (C := RX10) (T := TX10) (N := 12) hx hb hts iX10_forget_X10 hown hK hP 0 cw_0 rfl 10 (by decide) (hts (.fieldLink RX10 76 RX10 "heard" "LAnchorWills$Heard;") (by decide +kernel)) (fun _ h9 => h9) rfl dX10_forget_1 ?_
  refine va_getN (D := D) (ci := 1) (v := .int (σ 43 5)) (C := RX1) (T := TX1) (N := 6) hx hb hts iX10_forget_X1 hown hK hP 43 cw_43 rfl 5 (by decide) (va_Nw.use rfl (nf_X10_116 hN)) (fun _ h9 => h9) rfl dX10_forget_4 ?_
  obtain ⟨v1, e2, h⟩ := k_bd h
  refine lv_nmi (k_sm e2) ?_
  refine lv_istore_n (lv' := [(1, .int v1), (0, .ref (ad 0))]) hx hb dX10_forget_7 rfl hl (by decide) rfl (fun ls hl => ?_)
  refine lv_aload_n hx hb dX10_forget_8 rfl (lv_at hl 1 rfl) ?_
  refine va_get (D := D) (ci := 10) (v := .ref (ad 43)) (C := RX10) (T := TX10) (N := 12) hx hb hts iX10_forget_X10 hown hK hP 0 cw_0 rfl 10 (by decide) (hts (.fieldLink RX10 76 RX10 "heard" "LAnchorWills$Heard;") (by decide +kernel)) (fun _ h9 => h9) rfl dX10_forget_9 ?_
  refine lv_iconst (v := 0) hx hb dX10_forget_12 (by decide) ?_
  refine va_putN (D := D) (ci := 1) (v := .int 0) (ty := .int) (C := RX1) (T := TX1) (N := 6) hx hb hts iX10_forget_X1 tyX1 tyX1_ok nmX1 hown hK hP (cw_D hap) hS 43 cw_43 rfl 5 (by decide) (va_Nw.use rfl (nf_X10_116 hN)) (fun _ h9 => h9) rfl (by decide +kernel) rfl rfl (Nat.le_of_ble_eq_true rfl) dX10_forget_13 (fun H locs hP _ hS => ?_)
  have hP := cw_s43_5 hP
  obtain ⟨σ3, e4, h⟩ := k_bd h
  rw [k_sm e4] at hP
  refine lv_iload_n hx hb dX10_forget_16 rfl (lv_at hl 0 rfl) ?_
  obtain rfl := k_sm h
  exact W.iret hx hb hr (fun t ht hW => ⟨⟨_, _, rfl, ⟨rfl, rfl⟩, pw_end ht hP⟩, hS.F ht⟩) hS.2.2 dX10_forget_17
set_option maxHeartbeats 4000000 in
set_option maxRecDepth 100000 in
theorem kX10_fits (l : Launch) {D : va_G} {cI cB cZ : ClassId} {ad : Nat → Nat} {τ : Int64} (hap : cwX ad) (σ : Sg) (o : (Int32 × Sg)) (h : pX10_fits σ = some o) : Met l yX10_fits wsX10_fits rmX10_fits (va_Pc [.ref (ad 0)] (PW D cI cB cZ (CW cI ad τ σ))) (QI D (CW cI ad τ) (cwA ad) o.1 o.2) 0 0 (cwA ad) := by
  refine Met.ofW (cc := cX10_fits) (maxL := 1) (ret := (some .int)) (by decide) rfl ?_
  intro p e s m args below meth c s₁ B hml hv
  obtain ⟨rfl, hP, hK, hN⟩ := hv
  have C0 : Cx p s m _ meth c cX10_fits 1 (some .int) RX10 wsX10_fits := ⟨⟨B.exec, B.bytes, hml, findClass_of_methodNamed B.named, atoms_spec B.pre⟩, B.returns, B.notSynchronized⟩
  obtain ⟨⟨hx, hb, -, hown, hts⟩, hr, hlk⟩ := id C0
  have hS : va_S (cwA ad) s.heap s.heap [] := va_S.rf
  have hl := lv_entry ([.ref (ad 0)]) (n := 1) (Nat.le_of_ble_eq_true rfl)
  rw [lg_entry_eq]
  generalize (lg_sl ([.ref (ad 0)]) ++ List.replicate (1 - (lg_sl ([.ref (ad 0)])).length) Slot.unset).toArray = ls at hl ⊢
  have hl : lv_has ls 1 [(0, .ref (ad 0))] := hl
  rw [pX10_fits] at h
  refine lv_aload_n hx hb dX10_fits_0 rfl (lv_at hl 0 rfl) ?_
  refine va_get (D := D) (ci := 10) (v := .ref (ad 43)) (C := RX10) (T := TX10) (N := 12) hx hb hts iX10_fits_X10 hown hK hP 0 cw_0 rfl 10 (by decide) (hts (.fieldLink RX10 76 RX10 "heard" "LAnchorWills$Heard;") (by decide +kernel)) (fun _ h9 => h9) rfl dX10_fits_1 ?_
  obtain ⟨u1, e2, h⟩ := k_bd h
  refine wr_calli (va_runVN (As := []) (rest := []) C0.1 (kX1_fitting l (D := D) (cI := cI) (cB := cB) (cZ := cZ) (τ := τ) hap σ  _ e2) (wX10_fits_X1_fitting hts hN ⟨Nat.le_of_ble_eq_true rfl, Nat.le_of_ble_eq_true rfl⟩) ⟨PW.blind, cw_r43 hK hP, PW.mk hP hK hN⟩ rfl rfl hl.1 rfl (lv_room (Nat.le_of_ble_eq_true rfl)) dX10_fits_4 ⟨Nat.zero_le _, Nat.zero_le _⟩) hS (fun _ h => h) (fun H locs hP hS => ?_)
  have hP : va_P D vwCl (CW cI ad τ u1.2) H := hP
  obtain rfl := k_sm h
  exact W.iret hx hb hr (fun t ht hW => ⟨⟨_, _, rfl, ⟨rfl, rfl⟩, pw_end ht hP⟩, hS.F ht⟩) hS.2.2 dX10_fits_7
set_option maxHeartbeats 4000000 in
set_option maxRecDepth 100000 in
theorem kX10_ask (l : Launch) {D : va_G} {cI cB cZ : ClassId} {ad : Nat → Nat} {τ : Int64} (hap : cwX ad) (σ : Sg) (o : (Int32 × Sg)) (h : pX10_ask σ = some o) : Met l yX10_ask wsX10_ask rmX10_ask (va_Pc [.ref (ad 0)] (PW D cI cB cZ (CW cI ad τ σ))) (QI D (CW cI ad τ) (cwA ad) o.1 o.2) 0 0 (cwA ad) := by
  refine Met.ofW (cc := cX10_ask) (maxL := 1) (ret := (some .int)) (by decide) rfl ?_
  intro p e s m args below meth c s₁ B hml hv
  obtain ⟨rfl, hP, hK, hN⟩ := hv
  have C0 : Cx p s m _ meth c cX10_ask 1 (some .int) RX10 wsX10_ask := ⟨⟨B.exec, B.bytes, hml, findClass_of_methodNamed B.named, atoms_spec B.pre⟩, B.returns, B.notSynchronized⟩
  obtain ⟨⟨hx, hb, -, hown, hts⟩, hr, hlk⟩ := id C0
  have hS : va_S (cwA ad) s.heap s.heap [] := va_S.rf
  have hl := lv_entry ([.ref (ad 0)]) (n := 1) (Nat.le_of_ble_eq_true rfl)
  rw [lg_entry_eq]
  generalize (lg_sl ([.ref (ad 0)]) ++ List.replicate (1 - (lg_sl ([.ref (ad 0)])).length) Slot.unset).toArray = ls at hl ⊢
  have hl : lv_has ls 1 [(0, .ref (ad 0))] := hl
  rw [pX10_ask] at h
  refine lv_aload_n hx hb dX10_ask_0 rfl (lv_at hl 0 rfl) ?_
  refine va_get (D := D) (ci := 10) (v := .ref (ad 43)) (C := RX10) (T := TX10) (N := 12) hx hb hts iX10_ask_X10 hown hK hP 0 cw_0 rfl 10 (by decide) (hts (.fieldLink RX10 76 RX10 "heard" "LAnchorWills$Heard;") (by decide +kernel)) (fun _ h9 => h9) rfl dX10_ask_1 ?_
  obtain ⟨u1, e2, h⟩ := k_bd h
  refine wr_calli (va_runVN (As := []) (rest := []) C0.1 (kX1_bestQuestion l (D := D) (cI := cI) (cB := cB) (cZ := cZ) (τ := τ) hap σ  _ e2) (wX10_ask_X1_bestQuestion hts hN ⟨Nat.le_of_ble_eq_true rfl, Nat.le_of_ble_eq_true rfl⟩) ⟨PW.blind, cw_r43 hK hP, PW.mk hP hK hN⟩ rfl rfl hl.1 rfl (lv_room (Nat.le_of_ble_eq_true rfl)) dX10_ask_4 ⟨Nat.zero_le _, Nat.zero_le _⟩) hS (fun _ h => h) (fun H locs hP hS => ?_)
  have hP : va_P D vwCl (CW cI ad τ u1.2) H := hP
  obtain rfl := k_sm h
  exact W.iret hx hb hr (fun t ht hW => ⟨⟨_, _, rfl, ⟨rfl, rfl⟩, pw_end ht hP⟩, hS.F ht⟩) hS.2.2 dX10_ask_7
set_option maxHeartbeats 4000000 in
set_option maxRecDepth 100000 in
theorem kX10_mark (l : Launch) {D : va_G} {cI cB cZ : ClassId} {ad : Nat → Nat} {t_ABOVE t_LEAVES : Nat} (hap : cwX ad) (σ : Sg) (τ : Int64) (x1 : Int32) (x2 : Int32) (o : (Int32 × Int64)) (h : pX10_mark σ τ x1 x2 = some o) : Met l yX10_mark wsX10_mark rmX10_mark (va_Pc [.ref (ad 0), .int x1, .int x2] (fun U => PW D cI cB cZ (CW cI ad τ σ) U ∧ SZ ad t_ABOVE t_LEAVES U)) (QI D (fun t => CW cI ad t σ) (cwA ad) o.1 o.2) 0 0 (cwA ad) := by
  refine Met.ofW (cc := cX10_mark) (maxL := 3) (ret := (some .int)) (by decide) rfl ?_
  intro p e s m args below meth c s₁ B hml hv
  obtain ⟨rfl, ⟨hP, hK, hN⟩, hZ⟩ := hv
  obtain ⟨hZ_ABOVE, hZ_LEAVES, hT_ABOVE, hT_LEAVES⟩ := id hZ
  have C0 : Cx p s m _ meth c cX10_mark 3 (some .int) RX10 wsX10_mark := ⟨⟨B.exec, B.bytes, hml, findClass_of_methodNamed B.named, atoms_spec B.pre⟩, B.returns, B.notSynchronized⟩
  obtain ⟨⟨hx, hb, -, hown, hts⟩, hr, hlk⟩ := id C0
  have hS : va_S (cwA ad) s.heap s.heap [] := va_S.rf
  have hl := lv_entry ([.ref (ad 0), .int x1, .int x2]) (n := 3) (Nat.le_of_ble_eq_true rfl)
  rw [lg_entry_eq]
  generalize (lg_sl ([.ref (ad 0), .int x1, .int x2]) ++ List.replicate (3 - (lg_sl ([.ref (ad 0), .int x1, .int x2])).length) Slot.unset).toArray = ls at hl ⊢
  have hl : lv_has ls 3 [(0, .ref (ad 0)), (1, .int x1), (2, .int x2)] := hl
  rw [pX10_mark] at h
  refine lv_iload_n hx hb dX10_mark_0 rfl (lv_at hl 1 rfl) ?_
  refine lv_iconst (v := 0) hx hb dX10_mark_1 (by decide) ?_
  refine lv_iconst (v := 5) hx hb dX10_mark_2 (by decide) ?_
  refine rd_calli (va_runS (As := [.int x1, .int 0, .int 5]) (rest := []) C0.1 (kX10_isOutside l x1 0 5) (wX10_mark_X10_isOutside hts ⟨Nat.le_of_ble_eq_true rfl, Nat.le_of_ble_eq_true rfl⟩) ⟨PT.blind, fun _ _ _ => ⟨rfl, trivial⟩⟩ rfl rfl hl.1 rfl (lv_room (Nat.le_of_ble_eq_true rfl)) dX10_mark_3 ⟨Nat.zero_le _, Nat.zero_le _⟩) ?_
  refine lv_if_ne (tgt := 17) hx hb dX10_mark_6 (by decide) (fun c6 => ?_) (fun c6 => ?_)
  · replace h := k_in c6 h
    refine lv_ldcw (v := (-1000000)) hx hb hown (hts (.constant RX10 264 (-1000000)) (by decide +kernel)) dX10_mark_17 ?_
    obtain rfl := k_sm h
    exact W.iret hx hb hr (fun t ht hW => ⟨⟨_, _, rfl, ⟨rfl, rfl⟩, pw_end ht hP⟩, hS.F ht⟩) hS.2.2 dX10_mark_20
  · replace h := k_ip c6 h
    refine lv_aload_n hx hb dX10_mark_9 rfl (lv_at hl 0 rfl) ?_
    refine lv_iload_n hx hb dX10_mark_10 rfl (lv_at hl 2 rfl) ?_
    refine rd_calli (va_runV (As := [.int x2]) (rest := []) C0.1 (kX10_isNoAnchor l (D := D) (cI := cI) (cB := cB) (cZ := cZ) (ad := ad) (τ := τ) σ x2) (wX10_mark_X10_isNoAnchor hts ⟨Nat.le_of_ble_eq_true rfl, Nat.le_of_ble_eq_true rfl⟩) ⟨PW.blind, cw_r0 hK hP, PW.mk hP hK hN⟩ rfl rfl hl.1 rfl (lv_room (Nat.le_of_ble_eq_true rfl)) dX10_mark_11 ⟨Nat.zero_le _, Nat.zero_le _⟩) ?_
    refine lv_if_eq (tgt := 21) hx hb dX10_mark_14 (by decide) (fun c14 => ?_) (fun c14 => ?_)
    · replace h := k_ip c14 h
      refine lv_aload_n hx hb dX10_mark_21 rfl (lv_at hl 0 rfl) ?_
      refine va_get (D := D) (ci := 10) (v := .ref (ad 47)) (C := RX10) (T := TX10) (N := 12) hx hb hts iX10_mark_X10 hown hK hP 0 cw_0 rfl 11 (by decide) (hts (.fieldLink RX10 83 RX10 "kinds" "LAnchorWills$Kinds;") (by decide +kernel)) (fun _ h9 => h9) rfl dX10_mark_22 ?_
      refine lv_iload_n hx hb dX10_mark_25 rfl (lv_at hl 1 rfl) ?_
      refine lv_iload_n hx hb dX10_mark_26 rfl (lv_at hl 2 rfl) ?_
      refine lv_iconst (v := 3) hx hb dX10_mark_27 (by decide) ?_
      obtain ⟨u1, e2, h⟩ := k_bd h
      refine wr_calli (va_runSN (As := [.ref (ad 47), .int x1, .int x2, .int 3]) (rest := []) C0.1 (kX4_markAs l (D := D) (cI := cI) (cB := cB) (cZ := cZ) hap σ 10 τ x1 x2 3 _ e2) (wX10_mark_X4_markAs hts hN ⟨Nat.le_of_ble_eq_true rfl, Nat.le_of_ble_eq_true rfl⟩) ⟨PWS.blind, PWS.mk hP hK hN hZ hS⟩ rfl rfl hl.1 rfl (lv_room (Nat.le_of_ble_eq_true rfl)) dX10_mark_28 ⟨Nat.zero_le _, Nat.zero_le _⟩) hS (fun _ h => h) (fun H locs hP hS => ?_)
      have hP : va_P D vwCl (CW cI ad u1.2 σ) H := hP
      obtain rfl := k_sm h
      exact W.iret hx hb hr (fun t ht hW => ⟨⟨_, _, rfl, ⟨rfl, rfl⟩, pw_end ht hP⟩, hS.F ht⟩) hS.2.2 dX10_mark_31
    · replace h := k_in c14 h
      refine lv_ldcw (v := (-1000000)) hx hb hown (hts (.constant RX10 264 (-1000000)) (by decide +kernel)) dX10_mark_17 ?_
      obtain rfl := k_sm h
      exact W.iret hx hb hr (fun t ht hW => ⟨⟨_, _, rfl, ⟨rfl, rfl⟩, pw_end ht hP⟩, hS.F ht⟩) hS.2.2 dX10_mark_20
set_option maxHeartbeats 4000000 in
set_option maxRecDepth 100000 in
theorem kX10_keep (l : Launch) {D : va_G} {cI cB cZ : ClassId} {ad : Nat → Nat} {τ : Int64} (hap : cwX ad) (σ : Sg) (x1 : Int32) (o : (Int32 × Sg)) (h : pX10_keep σ x1 = some o) : Met l yX10_keep wsX10_keep rmX10_keep (va_Pc [.ref (ad 0), .int x1] (PW D cI cB cZ (CW cI ad τ σ))) (QI D (CW cI ad τ) (cwA ad) o.1 o.2) 0 0 (cwA ad) := by
  refine Met.ofW (cc := cX10_keep) (maxL := 2) (ret := (some .int)) (by decide) rfl ?_
  intro p e s m args below meth c s₁ B hml hv
  obtain ⟨rfl, hP, hK, hN⟩ := hv
  have C0 : Cx p s m _ meth c cX10_keep 2 (some .int) RX10 wsX10_keep := ⟨⟨B.exec, B.bytes, hml, findClass_of_methodNamed B.named, atoms_spec B.pre⟩, B.returns, B.notSynchronized⟩
  obtain ⟨⟨hx, hb, -, hown, hts⟩, hr, hlk⟩ := id C0
  have hS : va_S (cwA ad) s.heap s.heap [] := va_S.rf
  have hl := lv_entry ([.ref (ad 0), .int x1]) (n := 2) (Nat.le_of_ble_eq_true rfl)
  rw [lg_entry_eq]
  generalize (lg_sl ([.ref (ad 0), .int x1]) ++ List.replicate (2 - (lg_sl ([.ref (ad 0), .int x1])).length) Slot.unset).toArray = ls at hl ⊢
  have hl : lv_has ls 2 [(0, .ref (ad 0)), (1, .int x1)] := hl
  rw [pX10_keep] at h
  refine lv_iload_n hx hb dX10_keep_0 rfl (lv_at hl 1 rfl) ?_
  refine lv_iconst (v := 0) hx hb dX10_keep_1 (by decide) ?_
  refine lv_iconst (v := 1) hx hb dX10_keep_2 (by decide) ?_
  refine rd_calli (va_runS (As := [.int x1, .int 0, .int 1]) (rest := []) C0.1 (kX10_isOutside l x1 0 1) (wX10_keep_X10_isOutside hts ⟨Nat.le_of_ble_eq_true rfl, Nat.le_of_ble_eq_true rfl⟩) ⟨PT.blind, fun _ _ _ => ⟨rfl, trivial⟩⟩ rfl rfl hl.1 rfl (lv_room (Nat.le_of_ble_eq_true rfl)) dX10_keep_3 ⟨Nat.zero_le _, Nat.zero_le _⟩) ?_
  refine lv_if_eq (tgt := 11) hx hb dX10_keep_6 (by decide) (fun c6 => ?_) (fun c6 => ?_)
  · replace h := k_ip c6 h
    refine lv_aload_n hx hb dX10_keep_11 rfl (lv_at hl 0 rfl) ?_
    refine lv_iload_n hx hb dX10_keep_12 rfl (lv_at hl 1 rfl) ?_
    refine rd_callr (va_runV (As := [.int x1]) (rest := []) C0.1 (kX10_imageOf l (D := D) (cI := cI) (cB := cB) (cZ := cZ) (ad := ad) (τ := τ) σ x1) (wX10_keep_X10_imageOf hts ⟨Nat.le_of_ble_eq_true rfl, Nat.le_of_ble_eq_true rfl⟩) ⟨PW.blind, cw_r0 hK hP, PW.mk hP hK hN⟩ rfl rfl hl.1 rfl (lv_room (Nat.le_of_ble_eq_true rfl)) dX10_keep_13 ⟨Nat.zero_le _, Nat.zero_le _⟩) ?_
    by_cases ci13 : x1 = 0
    · replace h := k_ip ci13 h
      rw [show pX10_imageOf σ x1 = 23 by simp [pX10_imageOf, ci13]]
      refine lv_aload_n hx hb dX10_keep_16 rfl (lv_at hl 0 rfl) ?_
      refine va_get (D := D) (ci := 10) (v := .ref (ad 19)) (C := RX10) (T := TX10) (N := 12) hx hb hts iX10_keep_X10 hown hK hP 0 cw_0 rfl 2 (by decide) (hts (.fieldLink RX10 22 RX10 "now" "LAnchorWills$Now;") (by decide +kernel)) (fun _ h9 => h9) rfl dX10_keep_17 ?_
      refine lv_aload_n hx hb dX10_keep_20 rfl (lv_at hl 0 rfl) ?_
      refine va_get (D := D) (ci := 10) (v := .ref (ad 21)) (C := RX10) (T := TX10) (N := 12) hx hb hts iX10_keep_X10 hown hK hP 0 cw_0 rfl 3 (by decide) (hts (.fieldLink RX10 29 RX10 "past" "LAnchorWills$Past;") (by decide +kernel)) (fun _ h9 => h9) rfl dX10_keep_21 ?_
      obtain ⟨u1, e2, h⟩ := k_bd h
      refine wr_callv (va_runVN (As := [.ref (ad 19), .ref (ad 21)]) (rest := []) C0.1 (kX3_keeps_23_20 l (D := D) (cI := cI) (cB := cB) (cZ := cZ) (τ := τ) hap σ  _ e2) (wX10_keep_X3_keeps hts hN ⟨Nat.le_of_ble_eq_true rfl, Nat.le_of_ble_eq_true rfl⟩) ⟨PW.blind, cw_r23 hK hP, PW.mk hP hK hN⟩ rfl rfl hl.1 rfl (lv_room (Nat.le_of_ble_eq_true rfl)) dX10_keep_24 ⟨Nat.zero_le _, Nat.zero_le _⟩) hS (fun _ h => h) (fun H locs hP hS => ?_)
      have hP : va_P D vwCl (CW cI ad τ u1) H := hP
      refine lv_aload_n hx hb dX10_keep_27 rfl (lv_at hl 0 rfl) ?_
      refine va_get (D := D) (ci := 10) (v := .ref (ad 1)) (C := RX10) (T := TX10) (N := 12) hx hb hts iX10_keep_X10 hown hK hP 0 cw_0 rfl 0 (by decide) (hts (.fieldLink RX10 10 RX10 "told" "LAnchorWills$Told;") (by decide +kernel)) (fun _ h9 => h9) rfl dX10_keep_28 ?_
      refine lv_aload_n hx hb dX10_keep_31 rfl (lv_at hl 0 rfl) ?_
      refine va_get (D := D) (ci := 10) (v := .ref (ad 19)) (C := RX10) (T := TX10) (N := 12) hx hb hts iX10_keep_X10 hown hK hP 0 cw_0 rfl 2 (by decide) (hts (.fieldLink RX10 22 RX10 "now" "LAnchorWills$Now;") (by decide +kernel)) (fun _ h9 => h9) rfl dX10_keep_32 ?_
      refine lv_iconst (v := 0) hx hb dX10_keep_35 (by decide) ?_
      obtain ⟨v3, e4, h⟩ := k_bd h
      refine rd_calli (va_runS (As := [.ref (ad 1), .ref (ad 19), .int 0]) (rest := []) C0.1 (kX10_thoseThatAre_20 l (D := D) (cI := cI) (cB := cB) (cZ := cZ) (ad := ad) (τ := τ) u1 0 _ e4) (wX10_keep_X10_thoseThatAre hts ⟨Nat.le_of_ble_eq_true rfl, Nat.le_of_ble_eq_true rfl⟩) ⟨PW.blind, PW.mk hP hK hN⟩ rfl rfl hl.1 rfl (lv_room (Nat.le_of_ble_eq_true rfl)) dX10_keep_36 ⟨Nat.zero_le _, Nat.zero_le _⟩) ?_
      obtain rfl := k_sm h
      exact W.iret hx hb hr (fun t ht hW => ⟨⟨_, _, rfl, ⟨rfl, rfl⟩, pw_end ht hP⟩, hS.F ht⟩) hS.2.2 dX10_keep_39
    · replace h := k_in ci13 h
      rw [show pX10_imageOf σ x1 = 28 by simp [pX10_imageOf, ci13]]
      refine lv_aload_n hx hb dX10_keep_16 rfl (lv_at hl 0 rfl) ?_
      refine va_get (D := D) (ci := 10) (v := .ref (ad 19)) (C := RX10) (T := TX10) (N := 12) hx hb hts iX10_keep_X10 hown hK hP 0 cw_0 rfl 2 (by decide) (hts (.fieldLink RX10 22 RX10 "now" "LAnchorWills$Now;") (by decide +kernel)) (fun _ h9 => h9) rfl dX10_keep_17 ?_
      refine lv_aload_n hx hb dX10_keep_20 rfl (lv_at hl 0 rfl) ?_
      refine va_get (D := D) (ci := 10) (v := .ref (ad 21)) (C := RX10) (T := TX10) (N := 12) hx hb hts iX10_keep_X10 hown hK hP 0 cw_0 rfl 3 (by decide) (hts (.fieldLink RX10 29 RX10 "past" "LAnchorWills$Past;") (by decide +kernel)) (fun _ h9 => h9) rfl dX10_keep_21 ?_
      obtain ⟨u5, e6, h⟩ := k_bd h
      refine wr_callv (va_runVN (As := [.ref (ad 19), .ref (ad 21)]) (rest := []) C0.1 (kX3_keeps_28_20 l (D := D) (cI := cI) (cB := cB) (cZ := cZ) (τ := τ) hap σ  _ e6) (wX10_keep_X3_keeps hts hN ⟨Nat.le_of_ble_eq_true rfl, Nat.le_of_ble_eq_true rfl⟩) ⟨PW.blind, cw_r28 hK hP, PW.mk hP hK hN⟩ rfl rfl hl.1 rfl (lv_room (Nat.le_of_ble_eq_true rfl)) dX10_keep_24 ⟨Nat.zero_le _, Nat.zero_le _⟩) hS (fun _ h => h) (fun H locs hP hS => ?_)
      have hP : va_P D vwCl (CW cI ad τ u5) H := hP
      refine lv_aload_n hx hb dX10_keep_27 rfl (lv_at hl 0 rfl) ?_
      refine va_get (D := D) (ci := 10) (v := .ref (ad 1)) (C := RX10) (T := TX10) (N := 12) hx hb hts iX10_keep_X10 hown hK hP 0 cw_0 rfl 0 (by decide) (hts (.fieldLink RX10 10 RX10 "told" "LAnchorWills$Told;") (by decide +kernel)) (fun _ h9 => h9) rfl dX10_keep_28 ?_
      refine lv_aload_n hx hb dX10_keep_31 rfl (lv_at hl 0 rfl) ?_
      refine va_get (D := D) (ci := 10) (v := .ref (ad 19)) (C := RX10) (T := TX10) (N := 12) hx hb hts iX10_keep_X10 hown hK hP 0 cw_0 rfl 2 (by decide) (hts (.fieldLink RX10 22 RX10 "now" "LAnchorWills$Now;") (by decide +kernel)) (fun _ h9 => h9) rfl dX10_keep_32 ?_
      refine lv_iconst (v := 0) hx hb dX10_keep_35 (by decide) ?_
      obtain ⟨v7, e8, h⟩ := k_bd h
      refine rd_calli (va_runS (As := [.ref (ad 1), .ref (ad 19), .int 0]) (rest := []) C0.1 (kX10_thoseThatAre_20 l (D := D) (cI := cI) (cB := cB) (cZ := cZ) (ad := ad) (τ := τ) u5 0 _ e8) (wX10_keep_X10_thoseThatAre hts ⟨Nat.le_of_ble_eq_true rfl, Nat.le_of_ble_eq_true rfl⟩) ⟨PW.blind, PW.mk hP hK hN⟩ rfl rfl hl.1 rfl (lv_room (Nat.le_of_ble_eq_true rfl)) dX10_keep_36 ⟨Nat.zero_le _, Nat.zero_le _⟩) ?_
      obtain rfl := k_sm h
      exact W.iret hx hb hr (fun t ht hW => ⟨⟨_, _, rfl, ⟨rfl, rfl⟩, pw_end ht hP⟩, hS.F ht⟩) hS.2.2 dX10_keep_39
  · replace h := k_in c6 h
    refine lv_iconst (v := (-1)) hx hb dX10_keep_9 (by decide) ?_
    obtain rfl := k_sm h
    exact W.iret hx hb hr (fun t ht hW => ⟨⟨_, _, rfl, ⟨rfl, rfl⟩, pw_end ht hP⟩, hS.F ht⟩) hS.2.2 dX10_keep_10
set_option maxHeartbeats 4000000 in
set_option maxRecDepth 100000 in
theorem kX10_back (l : Launch) {D : va_G} {cI cB cZ : ClassId} {ad : Nat → Nat} {τ : Int64} (hap : cwX ad) (σ : Sg) (x1 : Int32) (o : (Int32 × Sg)) (h : pX10_back σ x1 = some o) : Met l yX10_back wsX10_back rmX10_back (va_Pc [.ref (ad 0), .int x1] (PW D cI cB cZ (CW cI ad τ σ))) (QI D (CW cI ad τ) (cwA ad) o.1 o.2) 0 0 (cwA ad) := by
  refine Met.ofW (cc := cX10_back) (maxL := 2) (ret := (some .int)) (by decide) rfl ?_
  intro p e s m args below meth c s₁ B hml hv
  obtain ⟨rfl, hP, hK, hN⟩ := hv
  have C0 : Cx p s m _ meth c cX10_back 2 (some .int) RX10 wsX10_back := ⟨⟨B.exec, B.bytes, hml, findClass_of_methodNamed B.named, atoms_spec B.pre⟩, B.returns, B.notSynchronized⟩
  obtain ⟨⟨hx, hb, -, hown, hts⟩, hr, hlk⟩ := id C0
  have hS : va_S (cwA ad) s.heap s.heap [] := va_S.rf
  have hl := lv_entry ([.ref (ad 0), .int x1]) (n := 2) (Nat.le_of_ble_eq_true rfl)
  rw [lg_entry_eq]
  generalize (lg_sl ([.ref (ad 0), .int x1]) ++ List.replicate (2 - (lg_sl ([.ref (ad 0), .int x1])).length) Slot.unset).toArray = ls at hl ⊢
  have hl : lv_has ls 2 [(0, .ref (ad 0)), (1, .int x1)] := hl
  rw [pX10_back] at h
  refine lv_iload_n hx hb dX10_back_0 rfl (lv_at hl 1 rfl) ?_
  refine lv_iconst (v := 0) hx hb dX10_back_1 (by decide) ?_
  refine lv_iconst (v := 1) hx hb dX10_back_2 (by decide) ?_
  refine rd_calli (va_runS (As := [.int x1, .int 0, .int 1]) (rest := []) C0.1 (kX10_isOutside l x1 0 1) (wX10_back_X10_isOutside hts ⟨Nat.le_of_ble_eq_true rfl, Nat.le_of_ble_eq_true rfl⟩) ⟨PT.blind, fun _ _ _ => ⟨rfl, trivial⟩⟩ rfl rfl hl.1 rfl (lv_room (Nat.le_of_ble_eq_true rfl)) dX10_back_3 ⟨Nat.zero_le _, Nat.zero_le _⟩) ?_
  refine lv_if_eq (tgt := 11) hx hb dX10_back_6 (by decide) (fun c6 => ?_) (fun c6 => ?_)
  · replace h := k_ip c6 h
    refine lv_aload_n hx hb dX10_back_11 rfl (lv_at hl 0 rfl) ?_
    refine lv_iload_n hx hb dX10_back_12 rfl (lv_at hl 1 rfl) ?_
    refine rd_callr (va_runV (As := [.int x1]) (rest := []) C0.1 (kX10_imageOf l (D := D) (cI := cI) (cB := cB) (cZ := cZ) (ad := ad) (τ := τ) σ x1) (wX10_back_X10_imageOf hts ⟨Nat.le_of_ble_eq_true rfl, Nat.le_of_ble_eq_true rfl⟩) ⟨PW.blind, cw_r0 hK hP, PW.mk hP hK hN⟩ rfl rfl hl.1 rfl (lv_room (Nat.le_of_ble_eq_true rfl)) dX10_back_13 ⟨Nat.zero_le _, Nat.zero_le _⟩) ?_
    by_cases ci13 : x1 = 0
    · replace h := k_ip ci13 h
      rw [show pX10_imageOf σ x1 = 23 by simp [pX10_imageOf, ci13]]
      refine va_getN (D := D) (ci := 3) (v := .int (σ 23 2)) (C := RX3) (T := TX3) (N := 3) hx hb hts iX10_back_X3 hown hK hP 23 cw_23 rfl 2 (by decide) (va_Nw.use rfl (nf_X10_117 hN)) (fun _ h9 => h9) rfl dX10_back_16 ?_
      refine lv_if_ne (tgt := 25) hx hb dX10_back_19 (by decide) (fun c19 => ?_) (fun c19 => ?_)
      · replace h := k_in c19 h
        refine lv_aload_n hx hb dX10_back_25 rfl (lv_at hl 0 rfl) ?_
        refine lv_iload_n hx hb dX10_back_26 rfl (lv_at hl 1 rfl) ?_
        refine rd_callr (va_runV (As := [.int x1]) (rest := []) C0.1 (kX10_imageOf l (D := D) (cI := cI) (cB := cB) (cZ := cZ) (ad := ad) (τ := τ) σ x1) (wX10_back_X10_imageOf hts ⟨Nat.le_of_ble_eq_true rfl, Nat.le_of_ble_eq_true rfl⟩) ⟨PW.blind, cw_r0 hK hP, PW.mk hP hK hN⟩ rfl rfl hl.1 rfl (lv_room (Nat.le_of_ble_eq_true rfl)) dX10_back_27 ⟨Nat.zero_le _, Nat.zero_le _⟩) ?_
        by_cases ci27 : x1 = 0
        · replace h := k_ip ci27 h
          rw [show pX10_imageOf σ x1 = 23 by simp [pX10_imageOf, ci27]]
          refine lv_aload_n hx hb dX10_back_30 rfl (lv_at hl 0 rfl) ?_
          refine va_get (D := D) (ci := 10) (v := .ref (ad 19)) (C := RX10) (T := TX10) (N := 12) hx hb hts iX10_back_X10 hown hK hP 0 cw_0 rfl 2 (by decide) (hts (.fieldLink RX10 22 RX10 "now" "LAnchorWills$Now;") (by decide +kernel)) (fun _ h9 => h9) rfl dX10_back_31 ?_
          refine lv_aload_n hx hb dX10_back_34 rfl (lv_at hl 0 rfl) ?_
          refine va_get (D := D) (ci := 10) (v := .ref (ad 21)) (C := RX10) (T := TX10) (N := 12) hx hb hts iX10_back_X10 hown hK hP 0 cw_0 rfl 3 (by decide) (hts (.fieldLink RX10 29 RX10 "past" "LAnchorWills$Past;") (by decide +kernel)) (fun _ h9 => h9) rfl dX10_back_35 ?_
          obtain ⟨u1, e2, h⟩ := k_bd h
          refine wr_callv (va_runVN (As := [.ref (ad 19), .ref (ad 21)]) (rest := []) C0.1 (kX3_givesBack_23_20 l (D := D) (cI := cI) (cB := cB) (cZ := cZ) (τ := τ) hap σ  _ e2) (wX10_back_X3_givesBack hts hN ⟨Nat.le_of_ble_eq_true rfl, Nat.le_of_ble_eq_true rfl⟩) ⟨PW.blind, cw_r23 hK hP, PW.mk hP hK hN⟩ rfl rfl hl.1 rfl (lv_room (Nat.le_of_ble_eq_true rfl)) dX10_back_38 ⟨Nat.zero_le _, Nat.zero_le _⟩) hS (fun _ h => h) (fun H locs hP hS => ?_)
          have hP : va_P D vwCl (CW cI ad τ u1) H := hP
          refine lv_aload_n hx hb dX10_back_41 rfl (lv_at hl 0 rfl) ?_
          refine va_get (D := D) (ci := 10) (v := .ref (ad 1)) (C := RX10) (T := TX10) (N := 12) hx hb hts iX10_back_X10 hown hK hP 0 cw_0 rfl 0 (by decide) (hts (.fieldLink RX10 10 RX10 "told" "LAnchorWills$Told;") (by decide +kernel)) (fun _ h9 => h9) rfl dX10_back_42 ?_
          refine lv_aload_n hx hb dX10_back_45 rfl (lv_at hl 0 rfl) ?_
          refine va_get (D := D) (ci := 10) (v := .ref (ad 19)) (C := RX10) (T := TX10) (N := 12) hx hb hts iX10_back_X10 hown hK hP 0 cw_0 rfl 2 (by decide) (hts (.fieldLink RX10 22 RX10 "now" "LAnchorWills$Now;") (by decide +kernel)) (fun _ h9 => h9) rfl dX10_back_46 ?_
          refine lv_iconst (v := 0) hx hb dX10_back_49 (by decide) ?_
          obtain ⟨v3, e4, h⟩ := k_bd h
          refine rd_calli (va_runS (As := [.ref (ad 1), .ref (ad 19), .int 0]) (rest := []) C0.1 (kX10_thoseThatAre_20 l (D := D) (cI := cI) (cB := cB) (cZ := cZ) (ad := ad) (τ := τ) u1 0 _ e4) (wX10_back_X10_thoseThatAre hts ⟨Nat.le_of_ble_eq_true rfl, Nat.le_of_ble_eq_true rfl⟩) ⟨PW.blind, PW.mk hP hK hN⟩ rfl rfl hl.1 rfl (lv_room (Nat.le_of_ble_eq_true rfl)) dX10_back_50 ⟨Nat.zero_le _, Nat.zero_le _⟩) ?_
          obtain rfl := k_sm h
          exact W.iret hx hb hr (fun t ht hW => ⟨⟨_, _, rfl, ⟨rfl, rfl⟩, pw_end ht hP⟩, hS.F ht⟩) hS.2.2 dX10_back_53
        · replace h := k_in ci27 h
          rw [show pX10_imageOf σ x1 = 28 by simp [pX10_imageOf, ci27]]
          refine lv_aload_n hx hb dX10_back_30 rfl (lv_at hl 0 rfl) ?_
          refine va_get (D := D) (ci := 10) (v := .ref (ad 19)) (C := RX10) (T := TX10) (N := 12) hx hb hts iX10_back_X10 hown hK hP 0 cw_0 rfl 2 (by decide) (hts (.fieldLink RX10 22 RX10 "now" "LAnchorWills$Now;") (by decide +kernel)) (fun _ h9 => h9) rfl dX10_back_31 ?_
          refine lv_aload_n hx hb dX10_back_34 rfl (lv_at hl 0 rfl) ?_
          refine va_get (D := D) (ci := 10) (v := .ref (ad 21)) (C := RX10) (T := TX10) (N := 12) hx hb hts iX10_back_X10 hown hK hP 0 cw_0 rfl 3 (by decide) (hts (.fieldLink RX10 29 RX10 "past" "LAnchorWills$Past;") (by decide +kernel)) (fun _ h9 => h9) rfl dX10_back_35 ?_
          obtain ⟨u5, e6, h⟩ := k_bd h
          refine wr_callv (va_runVN (As := [.ref (ad 19), .ref (ad 21)]) (rest := []) C0.1 (kX3_givesBack_28_20 l (D := D) (cI := cI) (cB := cB) (cZ := cZ) (τ := τ) hap σ  _ e6) (wX10_back_X3_givesBack hts hN ⟨Nat.le_of_ble_eq_true rfl, Nat.le_of_ble_eq_true rfl⟩) ⟨PW.blind, cw_r28 hK hP, PW.mk hP hK hN⟩ rfl rfl hl.1 rfl (lv_room (Nat.le_of_ble_eq_true rfl)) dX10_back_38 ⟨Nat.zero_le _, Nat.zero_le _⟩) hS (fun _ h => h) (fun H locs hP hS => ?_)
          have hP : va_P D vwCl (CW cI ad τ u5) H := hP
          refine lv_aload_n hx hb dX10_back_41 rfl (lv_at hl 0 rfl) ?_
          refine va_get (D := D) (ci := 10) (v := .ref (ad 1)) (C := RX10) (T := TX10) (N := 12) hx hb hts iX10_back_X10 hown hK hP 0 cw_0 rfl 0 (by decide) (hts (.fieldLink RX10 10 RX10 "told" "LAnchorWills$Told;") (by decide +kernel)) (fun _ h9 => h9) rfl dX10_back_42 ?_
          refine lv_aload_n hx hb dX10_back_45 rfl (lv_at hl 0 rfl) ?_
          refine va_get (D := D) (ci := 10) (v := .ref (ad 19)) (C := RX10) (T := TX10) (N := 12) hx hb hts iX10_back_X10 hown hK hP 0 cw_0 rfl 2 (by decide) (hts (.fieldLink RX10 22 RX10 "now" "LAnchorWills$Now;") (by decide +kernel)) (fun _ h9 => h9) rfl dX10_back_46 ?_
          refine lv_iconst (v := 0) hx hb dX10_back_49 (by decide) ?_
          obtain ⟨v7, e8, h⟩ := k_bd h
          refine rd_calli (va_runS (As := [.ref (ad 1), .ref (ad 19), .int 0]) (rest := []) C0.1 (kX10_thoseThatAre_20 l (D := D) (cI := cI) (cB := cB) (cZ := cZ) (ad := ad) (τ := τ) u5 0 _ e8) (wX10_back_X10_thoseThatAre hts ⟨Nat.le_of_ble_eq_true rfl, Nat.le_of_ble_eq_true rfl⟩) ⟨PW.blind, PW.mk hP hK hN⟩ rfl rfl hl.1 rfl (lv_room (Nat.le_of_ble_eq_true rfl)) dX10_back_50 ⟨Nat.zero_le _, Nat.zero_le _⟩) ?_
          obtain rfl := k_sm h
          exact W.iret hx hb hr (fun t ht hW => ⟨⟨_, _, rfl, ⟨rfl, rfl⟩, pw_end ht hP⟩, hS.F ht⟩) hS.2.2 dX10_back_53
      · replace h := k_ip c19 h
        refine lv_bipush (v := (-2)) hx hb dX10_back_22 (by decide) ?_
        obtain rfl := k_sm h
        exact W.iret hx hb hr (fun t ht hW => ⟨⟨_, _, rfl, ⟨rfl, rfl⟩, pw_end ht hP⟩, hS.F ht⟩) hS.2.2 dX10_back_24
    · replace h := k_in ci13 h
      rw [show pX10_imageOf σ x1 = 28 by simp [pX10_imageOf, ci13]]
      refine va_getN (D := D) (ci := 3) (v := .int (σ 28 2)) (C := RX3) (T := TX3) (N := 3) hx hb hts iX10_back_X3 hown hK hP 28 cw_28 rfl 2 (by decide) (va_Nw.use rfl (nf_X10_117 hN)) (fun _ h9 => h9) rfl dX10_back_16 ?_
      refine lv_if_ne (tgt := 25) hx hb dX10_back_19 (by decide) (fun c19 => ?_) (fun c19 => ?_)
      · replace h := k_in c19 h
        refine lv_aload_n hx hb dX10_back_25 rfl (lv_at hl 0 rfl) ?_
        refine lv_iload_n hx hb dX10_back_26 rfl (lv_at hl 1 rfl) ?_
        refine rd_callr (va_runV (As := [.int x1]) (rest := []) C0.1 (kX10_imageOf l (D := D) (cI := cI) (cB := cB) (cZ := cZ) (ad := ad) (τ := τ) σ x1) (wX10_back_X10_imageOf hts ⟨Nat.le_of_ble_eq_true rfl, Nat.le_of_ble_eq_true rfl⟩) ⟨PW.blind, cw_r0 hK hP, PW.mk hP hK hN⟩ rfl rfl hl.1 rfl (lv_room (Nat.le_of_ble_eq_true rfl)) dX10_back_27 ⟨Nat.zero_le _, Nat.zero_le _⟩) ?_
        by_cases ci27 : x1 = 0
        · replace h := k_ip ci27 h
          rw [show pX10_imageOf σ x1 = 23 by simp [pX10_imageOf, ci27]]
          refine lv_aload_n hx hb dX10_back_30 rfl (lv_at hl 0 rfl) ?_
          refine va_get (D := D) (ci := 10) (v := .ref (ad 19)) (C := RX10) (T := TX10) (N := 12) hx hb hts iX10_back_X10 hown hK hP 0 cw_0 rfl 2 (by decide) (hts (.fieldLink RX10 22 RX10 "now" "LAnchorWills$Now;") (by decide +kernel)) (fun _ h9 => h9) rfl dX10_back_31 ?_
          refine lv_aload_n hx hb dX10_back_34 rfl (lv_at hl 0 rfl) ?_
          refine va_get (D := D) (ci := 10) (v := .ref (ad 21)) (C := RX10) (T := TX10) (N := 12) hx hb hts iX10_back_X10 hown hK hP 0 cw_0 rfl 3 (by decide) (hts (.fieldLink RX10 29 RX10 "past" "LAnchorWills$Past;") (by decide +kernel)) (fun _ h9 => h9) rfl dX10_back_35 ?_
          obtain ⟨u9, e10, h⟩ := k_bd h
          refine wr_callv (va_runVN (As := [.ref (ad 19), .ref (ad 21)]) (rest := []) C0.1 (kX3_givesBack_23_20 l (D := D) (cI := cI) (cB := cB) (cZ := cZ) (τ := τ) hap σ  _ e10) (wX10_back_X3_givesBack hts hN ⟨Nat.le_of_ble_eq_true rfl, Nat.le_of_ble_eq_true rfl⟩) ⟨PW.blind, cw_r23 hK hP, PW.mk hP hK hN⟩ rfl rfl hl.1 rfl (lv_room (Nat.le_of_ble_eq_true rfl)) dX10_back_38 ⟨Nat.zero_le _, Nat.zero_le _⟩) hS (fun _ h => h) (fun H locs hP hS => ?_)
          have hP : va_P D vwCl (CW cI ad τ u9) H := hP
          refine lv_aload_n hx hb dX10_back_41 rfl (lv_at hl 0 rfl) ?_
          refine va_get (D := D) (ci := 10) (v := .ref (ad 1)) (C := RX10) (T := TX10) (N := 12) hx hb hts iX10_back_X10 hown hK hP 0 cw_0 rfl 0 (by decide) (hts (.fieldLink RX10 10 RX10 "told" "LAnchorWills$Told;") (by decide +kernel)) (fun _ h9 => h9) rfl dX10_back_42 ?_
          refine lv_aload_n hx hb dX10_back_45 rfl (lv_at hl 0 rfl) ?_
          refine va_get (D := D) (ci := 10) (v := .ref (ad 19)) (C := RX10) (T := TX10) (N := 12) hx hb hts iX10_back_X10 hown hK hP 0 cw_0 rfl 2 (by decide) (hts (.fieldLink RX10 22 RX10 "now" "LAnchorWills$Now;") (by decide +kernel)) (fun _ h9 => h9) rfl dX10_back_46 ?_
          refine lv_iconst (v := 0) hx hb dX10_back_49 (by decide) ?_
          obtain ⟨v11, e12, h⟩ := k_bd h
          refine rd_calli (va_runS (As := [.ref (ad 1), .ref (ad 19), .int 0]) (rest := []) C0.1 (kX10_thoseThatAre_20 l (D := D) (cI := cI) (cB := cB) (cZ := cZ) (ad := ad) (τ := τ) u9 0 _ e12) (wX10_back_X10_thoseThatAre hts ⟨Nat.le_of_ble_eq_true rfl, Nat.le_of_ble_eq_true rfl⟩) ⟨PW.blind, PW.mk hP hK hN⟩ rfl rfl hl.1 rfl (lv_room (Nat.le_of_ble_eq_true rfl)) dX10_back_50 ⟨Nat.zero_le _, Nat.zero_le _⟩) ?_
          obtain rfl := k_sm h
          exact W.iret hx hb hr (fun t ht hW => ⟨⟨_, _, rfl, ⟨rfl, rfl⟩, pw_end ht hP⟩, hS.F ht⟩) hS.2.2 dX10_back_53
        · replace h := k_in ci27 h
          rw [show pX10_imageOf σ x1 = 28 by simp [pX10_imageOf, ci27]]
          refine lv_aload_n hx hb dX10_back_30 rfl (lv_at hl 0 rfl) ?_
          refine va_get (D := D) (ci := 10) (v := .ref (ad 19)) (C := RX10) (T := TX10) (N := 12) hx hb hts iX10_back_X10 hown hK hP 0 cw_0 rfl 2 (by decide) (hts (.fieldLink RX10 22 RX10 "now" "LAnchorWills$Now;") (by decide +kernel)) (fun _ h9 => h9) rfl dX10_back_31 ?_
          refine lv_aload_n hx hb dX10_back_34 rfl (lv_at hl 0 rfl) ?_
          refine va_get (D := D) (ci := 10) (v := .ref (ad 21)) (C := RX10) (T := TX10) (N := 12) hx hb hts iX10_back_X10 hown hK hP 0 cw_0 rfl 3 (by decide) (hts (.fieldLink RX10 29 RX10 "past" "LAnchorWills$Past;") (by decide +kernel)) (fun _ h9 => h9) rfl dX10_back_35 ?_
          obtain ⟨u13, e14, h⟩ := k_bd h
          refine wr_callv (va_runVN (As := [.ref (ad 19), .ref (ad 21)]) (rest := []) C0.1 (kX3_givesBack_28_20 l (D := D) (cI := cI) (cB := cB) (cZ := cZ) (τ := τ) hap σ  _ e14) (wX10_back_X3_givesBack hts hN ⟨Nat.le_of_ble_eq_true rfl, Nat.le_of_ble_eq_true rfl⟩) ⟨PW.blind, cw_r28 hK hP, PW.mk hP hK hN⟩ rfl rfl hl.1 rfl (lv_room (Nat.le_of_ble_eq_true rfl)) dX10_back_38 ⟨Nat.zero_le _, Nat.zero_le _⟩) hS (fun _ h => h) (fun H locs hP hS => ?_)
          have hP : va_P D vwCl (CW cI ad τ u13) H := hP
          refine lv_aload_n hx hb dX10_back_41 rfl (lv_at hl 0 rfl) ?_
          refine va_get (D := D) (ci := 10) (v := .ref (ad 1)) (C := RX10) (T := TX10) (N := 12) hx hb hts iX10_back_X10 hown hK hP 0 cw_0 rfl 0 (by decide) (hts (.fieldLink RX10 10 RX10 "told" "LAnchorWills$Told;") (by decide +kernel)) (fun _ h9 => h9) rfl dX10_back_42 ?_
          refine lv_aload_n hx hb dX10_back_45 rfl (lv_at hl 0 rfl) ?_
          refine va_get (D := D) (ci := 10) (v := .ref (ad 19)) (C := RX10) (T := TX10) (N := 12) hx hb hts iX10_back_X10 hown hK hP 0 cw_0 rfl 2 (by decide) (hts (.fieldLink RX10 22 RX10 "now" "LAnchorWills$Now;") (by decide +kernel)) (fun _ h9 => h9) rfl dX10_back_46 ?_
          refine lv_iconst (v := 0) hx hb dX10_back_49 (by decide) ?_
          obtain ⟨v15, e16, h⟩ := k_bd h
          refine rd_calli (va_runS (As := [.ref (ad 1), .ref (ad 19), .int 0]) (rest := []) C0.1 (kX10_thoseThatAre_20 l (D := D) (cI := cI) (cB := cB) (cZ := cZ) (ad := ad) (τ := τ) u13 0 _ e16) (wX10_back_X10_thoseThatAre hts ⟨Nat.le_of_ble_eq_true rfl, Nat.le_of_ble_eq_true rfl⟩) ⟨PW.blind, PW.mk hP hK hN⟩ rfl rfl hl.1 rfl (lv_room (Nat.le_of_ble_eq_true rfl)) dX10_back_50 ⟨Nat.zero_le _, Nat.zero_le _⟩) ?_
          obtain rfl := k_sm h
          exact W.iret hx hb hr (fun t ht hW => ⟨⟨_, _, rfl, ⟨rfl, rfl⟩, pw_end ht hP⟩, hS.F ht⟩) hS.2.2 dX10_back_53
      · replace h := k_ip c19 h
        refine lv_bipush (v := (-2)) hx hb dX10_back_22 (by decide) ?_
        obtain rfl := k_sm h
        exact W.iret hx hb hr (fun t ht hW => ⟨⟨_, _, rfl, ⟨rfl, rfl⟩, pw_end ht hP⟩, hS.F ht⟩) hS.2.2 dX10_back_24
  · replace h := k_in c6 h
    refine lv_iconst (v := (-1)) hx hb dX10_back_9 (by decide) ?_
    obtain rfl := k_sm h
    exact W.iret hx hb hr (fun t ht hW => ⟨⟨_, _, rfl, ⟨rfl, rfl⟩, pw_end ht hP⟩, hS.F ht⟩) hS.2.2 dX10_back_10
set_option maxHeartbeats 4000000 in
set_option maxRecDepth 100000 in
theorem kX10_count (l : Launch) {D : va_G} {cI cB cZ : ClassId} {ad : Nat → Nat} {τ : Int64} (σ : Sg) (x1 : Int32) : Met l yX10_count wsX10_count rmX10_count (va_Pc [.ref (ad 0), .int x1] (PW D cI cB cZ (CW cI ad τ σ))) (QcRead (pX10_count σ x1)) 0 0 (fun _ => False) := by
  obtain ⟨o, h⟩ : ∃ o, pX10_count σ x1 = o := ⟨_, rfl⟩
  rw [h]
  refine Met.ofW (cc := cX10_count) (maxL := 2) (ret := (some .int)) (by decide) rfl ?_
  intro p e s m args below meth c s₁ B hml hv
  obtain ⟨rfl, hP, hK, hN⟩ := hv
  have C0 : Cx p s m _ meth c cX10_count 2 (some .int) RX10 wsX10_count := ⟨⟨B.exec, B.bytes, hml, findClass_of_methodNamed B.named, atoms_spec B.pre⟩, B.returns, B.notSynchronized⟩
  obtain ⟨⟨hx, hb, -, hown, hts⟩, hr, hlk⟩ := id C0
  have hl := lv_entry ([.ref (ad 0), .int x1]) (n := 2) (Nat.le_of_ble_eq_true rfl)
  rw [lg_entry_eq]
  generalize (lg_sl ([.ref (ad 0), .int x1]) ++ List.replicate (2 - (lg_sl ([.ref (ad 0), .int x1])).length) Slot.unset).toArray = ls at hl ⊢
  have hl : lv_has ls 2 [(0, .ref (ad 0)), (1, .int x1)] := hl
  rw [pX10_count] at h
  refine lv_iload_n hx hb dX10_count_0 rfl (lv_at hl 1 rfl) ?_
  by_cases c1_0 : x1 = 0
  · replace h := k_ip c1_0 h
    refine lv_tableIn (tgt := 40) hx hb dX10_count_1 (by rw [c1_0] <;> decide) (by rw [c1_0] <;> decide) (by rw [c1_0] <;> rfl) (by decide) ?_
    refine lv_aload_n hx hb dX10_count_40 rfl (lv_at hl 0 rfl) ?_
    refine va_get (D := D) (ci := 10) (v := .ref (ad 1)) (C := RX10) (T := TX10) (N := 12) hx hb hts iX10_count_X10 hown hK hP 0 cw_0 rfl 0 (by decide) (hts (.fieldLink RX10 10 RX10 "told" "LAnchorWills$Told;") (by decide +kernel)) (fun _ h9 => h9) rfl dX10_count_41 ?_
    refine va_getN (D := D) (ci := 9) (v := .int (σ 1 7)) (C := RX9) (T := TX9) (N := 10) hx hb hts iX10_count_X9 hown hK hP 1 cw_1 rfl 7 (by decide) (va_Nw.use rfl (nf_X10_280 hN)) (fun _ h9 => h9) rfl dX10_count_44 ?_
    subst h
    exact W.iret hx hb hr (fun t ht hW => ⟨rfl, ht⟩) (fun _ h => by cases h) dX10_count_47
  replace h := k_in c1_0 h
  by_cases c1_1 : x1 = 1
  · replace h := k_ip c1_1 h
    refine lv_tableIn (tgt := 48) hx hb dX10_count_1 (by rw [c1_1] <;> decide) (by rw [c1_1] <;> decide) (by rw [c1_1] <;> rfl) (by decide) ?_
    refine lv_aload_n hx hb dX10_count_48 rfl (lv_at hl 0 rfl) ?_
    refine va_get (D := D) (ci := 10) (v := .ref (ad 1)) (C := RX10) (T := TX10) (N := 12) hx hb hts iX10_count_X10 hown hK hP 0 cw_0 rfl 0 (by decide) (hts (.fieldLink RX10 10 RX10 "told" "LAnchorWills$Told;") (by decide +kernel)) (fun _ h9 => h9) rfl dX10_count_49 ?_
    refine va_getN (D := D) (ci := 9) (v := .int (σ 1 8)) (C := RX9) (T := TX9) (N := 10) hx hb hts iX10_count_X9 hown hK hP 1 cw_1 rfl 8 (by decide) (va_Nw.use rfl (nf_X10_203 hN)) (fun _ h9 => h9) rfl dX10_count_52 ?_
    subst h
    exact W.iret hx hb hr (fun t ht hW => ⟨rfl, ht⟩) (fun _ h => by cases h) dX10_count_55
  replace h := k_in c1_1 h
  by_cases c1_2 : x1 = 2
  · replace h := k_ip c1_2 h
    refine lv_tableIn (tgt := 56) hx hb dX10_count_1 (by rw [c1_2] <;> decide) (by rw [c1_2] <;> decide) (by rw [c1_2] <;> rfl) (by decide) ?_
    refine lv_aload_n hx hb dX10_count_56 rfl (lv_at hl 0 rfl) ?_
    refine va_get (D := D) (ci := 10) (v := .ref (ad 1)) (C := RX10) (T := TX10) (N := 12) hx hb hts iX10_count_X10 hown hK hP 0 cw_0 rfl 0 (by decide) (hts (.fieldLink RX10 10 RX10 "told" "LAnchorWills$Told;") (by decide +kernel)) (fun _ h9 => h9) rfl dX10_count_57 ?_
    refine va_getN (D := D) (ci := 9) (v := .int (σ 1 9)) (C := RX9) (T := TX9) (N := 10) hx hb hts iX10_count_X9 hown hK hP 1 cw_1 rfl 9 (by decide) (va_Nw.use rfl (nf_X10_283 hN)) (fun _ h9 => h9) rfl dX10_count_60 ?_
    subst h
    exact W.iret hx hb hr (fun t ht hW => ⟨rfl, ht⟩) (fun _ h => by cases h) dX10_count_63
  replace h := k_in c1_2 h
  by_cases c1_3 : x1 = 3
  · replace h := k_ip c1_3 h
    refine lv_tableIn (tgt := 64) hx hb dX10_count_1 (by rw [c1_3] <;> decide) (by rw [c1_3] <;> decide) (by rw [c1_3] <;> rfl) (by decide) ?_
    refine lv_aload_n hx hb dX10_count_64 rfl (lv_at hl 0 rfl) ?_
    refine va_get (D := D) (ci := 10) (v := .ref (ad 43)) (C := RX10) (T := TX10) (N := 12) hx hb hts iX10_count_X10 hown hK hP 0 cw_0 rfl 10 (by decide) (hts (.fieldLink RX10 76 RX10 "heard" "LAnchorWills$Heard;") (by decide +kernel)) (fun _ h9 => h9) rfl dX10_count_65 ?_
    refine va_getN (D := D) (ci := 1) (v := .int (σ 43 5)) (C := RX1) (T := TX1) (N := 6) hx hb hts iX10_count_X1 hown hK hP 43 cw_43 rfl 5 (by decide) (va_Nw.use rfl (nf_X10_116 hN)) (fun _ h9 => h9) rfl dX10_count_68 ?_
    subst h
    exact W.iret hx hb hr (fun t ht hW => ⟨rfl, ht⟩) (fun _ h => by cases h) dX10_count_71
  replace h := k_in c1_3 h
  by_cases c1_4 : x1 = 4
  · replace h := k_ip c1_4 h
    refine lv_tableIn (tgt := 72) hx hb dX10_count_1 (by rw [c1_4] <;> decide) (by rw [c1_4] <;> decide) (by rw [c1_4] <;> rfl) (by decide) ?_
    refine lv_aload_n hx hb dX10_count_72 rfl (lv_at hl 0 rfl) ?_
    refine va_get (D := D) (ci := 10) (v := .ref (ad 21)) (C := RX10) (T := TX10) (N := 12) hx hb hts iX10_count_X10 hown hK hP 0 cw_0 rfl 3 (by decide) (hts (.fieldLink RX10 29 RX10 "past" "LAnchorWills$Past;") (by decide +kernel)) (fun _ h9 => h9) rfl dX10_count_73 ?_
    refine va_getN (D := D) (ci := 6) (v := .int (σ 21 1)) (C := RX6) (T := TX6) (N := 2) hx hb hts iX10_count_X6 hown hK hP 21 cw_21 rfl 1 (by decide) (va_Nw.use rfl (nf_X10_113 hN)) (fun _ h9 => h9) rfl dX10_count_76 ?_
    subst h
    exact W.iret hx hb hr (fun t ht hW => ⟨rfl, ht⟩) (fun _ h => by cases h) dX10_count_79
  replace h := k_in c1_4 h
  by_cases c1_5 : x1 = 5
  · replace h := k_ip c1_5 h
    refine lv_tableIn (tgt := 80) hx hb dX10_count_1 (by rw [c1_5] <;> decide) (by rw [c1_5] <;> decide) (by rw [c1_5] <;> rfl) (by decide) ?_
    refine lv_aload_n hx hb dX10_count_80 rfl (lv_at hl 0 rfl) ?_
    refine va_get (D := D) (ci := 10) (v := .ref (ad 33)) (C := RX10) (T := TX10) (N := 12) hx hb hts iX10_count_X10 hown hK hP 0 cw_0 rfl 6 (by decide) (hts (.fieldLink RX10 46 RX10 "reader" "LAnchorWills$Reader;") (by decide +kernel)) (fun _ h9 => h9) rfl dX10_count_81 ?_
    refine va_getN (D := D) (ci := 7) (v := .int (σ 33 1)) (C := RX7) (T := TX7) (N := 7) hx hb hts iX10_count_X7 hown hK hP 33 cw_33 rfl 1 (by decide) (va_Nw.use rfl (nf_X10_95 hN)) (fun _ h9 => h9) rfl dX10_count_84 ?_
    subst h
    exact W.iret hx hb hr (fun t ht hW => ⟨rfl, ht⟩) (fun _ h => by cases h) dX10_count_87
  replace h := k_in c1_5 h
  refine lv_tableOut (tgt := 88) hx hb dX10_count_1 (by have z0 := lv_neT (a := 0) c1_0 (by decide); have z1 := lv_neT (a := 1) c1_1 (by decide); have z2 := lv_neT (a := 2) c1_2 (by decide); have z3 := lv_neT (a := 3) c1_3 (by decide); have z4 := lv_neT (a := 4) c1_4 (by decide); have z5 := lv_neT (a := 5) c1_5 (by decide); omega) (by decide) ?_
  refine lv_iconst (v := (-1)) hx hb dX10_count_88 (by decide) ?_
  subst h
  exact W.iret hx hb hr (fun t ht hW => ⟨rfl, ht⟩) (fun _ h => by cases h) dX10_count_89
set_option maxHeartbeats 4000000 in
set_option maxRecDepth 100000 in
theorem kX10_trace (l : Launch) {D : va_G} {cI cB cZ : ClassId} {ad : Nat → Nat} {τ : Int64} (σ : Sg) : Met l yX10_trace wsX10_trace rmX10_trace (va_Pc [.ref (ad 0)] (PW D cI cB cZ (CW cI ad τ σ))) (QcReadL (pX10_trace σ τ)) 0 0 (fun _ => False) := by
  obtain ⟨o, h⟩ : ∃ o, pX10_trace σ τ = o := ⟨_, rfl⟩
  rw [h]
  refine Met.ofW (cc := cX10_trace) (maxL := 1) (ret := (some .long)) (by decide) rfl ?_
  intro p e s m args below meth c s₁ B hml hv
  obtain ⟨rfl, hP, hK, hN⟩ := hv
  have C0 : Cx p s m _ meth c cX10_trace 1 (some .long) RX10 wsX10_trace := ⟨⟨B.exec, B.bytes, hml, findClass_of_methodNamed B.named, atoms_spec B.pre⟩, B.returns, B.notSynchronized⟩
  obtain ⟨⟨hx, hb, -, hown, hts⟩, hr, hlk⟩ := id C0
  have hl := lv_entry ([.ref (ad 0)]) (n := 1) (Nat.le_of_ble_eq_true rfl)
  rw [lg_entry_eq]
  generalize (lg_sl ([.ref (ad 0)]) ++ List.replicate (1 - (lg_sl ([.ref (ad 0)])).length) Slot.unset).toArray = ls at hl ⊢
  have hl : lv_has ls 1 [(0, .ref (ad 0))] := hl
  rw [pX10_trace] at h
  refine lv_aload_n hx hb dX10_trace_0 rfl (lv_at hl 0 rfl) ?_
  refine va_get (D := D) (ci := 10) (v := .ref (ad 47)) (C := RX10) (T := TX10) (N := 12) hx hb hts iX10_trace_X10 hown hK hP 0 cw_0 rfl 11 (by decide) (hts (.fieldLink RX10 83 RX10 "kinds" "LAnchorWills$Kinds;") (by decide +kernel)) (fun _ h9 => h9) rfl dX10_trace_1 ?_
  refine va_getN (D := D) (ci := 4) (v := .long τ) (C := RX4) (T := TX4) (N := 3) hx hb hts iX10_trace_X4 hown hK hP 47 cw_47 rfl 2 (by decide) (va_Nw.use rfl (nf_X10_286 hN)) (fun _ h9 => h9) rfl dX10_trace_4 ?_
  subst h
  exact W.lret hx hb hr (fun t ht hW => ⟨rfl, ht⟩) (fun _ h => by cases h) dX10_trace_7
