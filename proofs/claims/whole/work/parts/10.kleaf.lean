set_option maxHeartbeats 4000000 in
set_option maxRecDepth 100000 in
theorem kX10_isOutside (l : Launch) (x0 : Int32) (x1 : Int32) (x2 : Int32) : Met l yX10_isOutside wsX10_isOutside rmX10_isOutside (va_Pc [.int x0, .int x1, .int x2] (fun _ => True)) (QcRead (pX10_isOutside x0 x1 x2)) 0 0 (fun _ => False) := by
  obtain ⟨o, h⟩ : ∃ o, pX10_isOutside x0 x1 x2 = o := ⟨_, rfl⟩
  rw [h]
  refine Met.ofW (cc := cX10_isOutside) (maxL := 3) (ret := (some .boolean)) (by decide) rfl ?_
  intro p e s m args below meth c s₁ B hml hv
  obtain ⟨rfl, -⟩ := hv
  have C0 : Cx p s m _ meth c cX10_isOutside 3 (some .boolean) RX10 wsX10_isOutside := ⟨⟨B.exec, B.bytes, hml, findClass_of_methodNamed B.named, atoms_spec B.pre⟩, B.returns, B.notSynchronized⟩
  obtain ⟨⟨hx, hb, -, hown, hts⟩, hr, hlk⟩ := id C0
  have hl := lv_entry ([.int x0, .int x1, .int x2]) (n := 3) (Nat.le_of_ble_eq_true rfl)
  rw [lg_entry_eq]
  generalize (lg_sl ([.int x0, .int x1, .int x2]) ++ List.replicate (3 - (lg_sl ([.int x0, .int x1, .int x2])).length) Slot.unset).toArray = ls at hl ⊢
  have hl : lv_has ls 3 [(0, .int x0), (1, .int x1), (2, .int x2)] := hl
  rw [pX10_isOutside] at h
  refine lv_iload_n hx hb dX10_isOutside_0 rfl (lv_at hl 0 rfl) ?_
  refine lv_iload_n hx hb dX10_isOutside_1 rfl (lv_at hl 1 rfl) ?_
  refine lv_icmp_lt (tgt := 10) hx hb dX10_isOutside_2 (by decide) (fun c2 => ?_) (fun c2 => ?_)
  · replace h := k_ip c2 h
    refine lv_iconst (v := 1) hx hb dX10_isOutside_10 (by decide) ?_
    refine lv_goto (tgt := 15) hx hb dX10_isOutside_11 (by decide) ?_
    subst h
    exact W.zret hx hb hr rfl (fun t ht hW => ⟨rfl, ht⟩) (fun _ h => by cases h) dX10_isOutside_15
  · replace h := k_in c2 h
    refine lv_iload_n hx hb dX10_isOutside_5 rfl (lv_at hl 0 rfl) ?_
    refine lv_iload_n hx hb dX10_isOutside_6 rfl (lv_at hl 2 rfl) ?_
    refine lv_icmp_le (tgt := 14) hx hb dX10_isOutside_7 (by decide) (fun c7 => ?_) (fun c7 => ?_)
    · replace h := k_ip c7 h
      refine lv_iconst (v := 0) hx hb dX10_isOutside_14 (by decide) ?_
      subst h
      exact W.zret hx hb hr rfl (fun t ht hW => ⟨rfl, ht⟩) (fun _ h => by cases h) dX10_isOutside_15
    · replace h := k_in c7 h
      refine lv_iconst (v := 1) hx hb dX10_isOutside_10 (by decide) ?_
      refine lv_goto (tgt := 15) hx hb dX10_isOutside_11 (by decide) ?_
      subst h
      exact W.zret hx hb hr rfl (fun t ht hW => ⟨rfl, ht⟩) (fun _ h => by cases h) dX10_isOutside_15
set_option maxHeartbeats 4000000 in
set_option maxRecDepth 100000 in
theorem kX5_empties_18 (l : Launch) {D : va_G} {cI cB cZ : ClassId} {ad : Nat → Nat} {τ : Int64} (hap : cwX ad) (σ : Sg) (o : Sg) (h : pX5_empties 18 σ = some o) : Met l yX5_empties wsX5_empties rmX5_empties (va_Pc [.ref (ad 17)] (PW D cI cB cZ (CW cI ad τ σ))) (QV D (CW cI ad τ) (cwA ad) o) 0 0 (cwA ad) := by
  refine Met.ofW (cc := cX5_empties) (maxL := 1) (ret := none) (by decide) rfl ?_
  intro p e s m args below meth c s₁ B hml hv
  obtain ⟨rfl, hP, hK, hN⟩ := hv
  have C0 : Cx p s m _ meth c cX5_empties 1 none RX5 wsX5_empties := ⟨⟨B.exec, B.bytes, hml, findClass_of_methodNamed B.named, atoms_spec B.pre⟩, B.returns, B.notSynchronized⟩
  obtain ⟨⟨hx, hb, -, hown, hts⟩, hr, hlk⟩ := id C0
  have hS : va_S (cwA ad) s.heap s.heap [] := va_S.rf
  have hl := lv_entry ([.ref (ad 17)]) (n := 1) (Nat.le_of_ble_eq_true rfl)
  rw [lg_entry_eq]
  generalize (lg_sl ([.ref (ad 17)]) ++ List.replicate (1 - (lg_sl ([.ref (ad 17)])).length) Slot.unset).toArray = ls at hl ⊢
  have hl : lv_has ls 1 [(0, .ref (ad 17))] := hl
  rw [pX5_empties] at h
  refine lv_aload_n hx hb dX5_empties_0 rfl (lv_at hl 0 rfl) ?_
  refine va_get (D := D) (ci := 5) (v := .ref (ad 18)) (C := RX5) (T := TX5) (N := 1) hx hb hts iX5_empties_X5 hown hK hP 17 cw_17 rfl 0 (by decide) (hts (.fieldLink RX5 11 RX5 "row" "[I") (by decide +kernel)) (fun _ h9 => h9) rfl dX5_empties_1 ?_
  refine lv_iconst (v := 0) hx hb dX5_empties_4 (by decide) ?_
  refine wr_callv (va_runSN (As := [.ref (ad 18), .int 0]) (rest := []) C0.1 (kX10_fill l (cw_D hap) 18 cw_18 (by decide) 0) (wX5_empties_X10_fill hts hN ⟨Nat.le_of_ble_eq_true rfl, Nat.le_of_ble_eq_true rfl⟩) ⟨PW.blind, PW.mk hP hK hN⟩ rfl rfl hl.1 rfl (lv_room (Nat.le_of_ble_eq_true rfl)) dX5_empties_5 ⟨Nat.zero_le _, Nat.zero_le _⟩) hS (fun _ h => h) (fun H locs hP hS => ?_)
  have hP := cw_s18 hP
  obtain ⟨σ1, e2, h⟩ := k_bd h
  rw [k_sm e2] at hP
  obtain rfl := k_sm h
  exact W.vret hx hb hr (fun t ht hW => ⟨⟨_, rfl, rfl, pw_end ht hP⟩, hS.F ht⟩) hS.2.2 dX5_empties_8
set_option maxHeartbeats 4000000 in
set_option maxRecDepth 100000 in
theorem kX9_empties (l : Launch) {D : va_G} {cI cB cZ : ClassId} {ad : Nat → Nat} {τ : Int64} (hap : cwX ad) (σ : Sg) (o : Sg) (h : pX9_empties σ = some o) : Met l yX9_empties wsX9_empties rmX9_empties (va_Pc [.ref (ad 10)] (PW D cI cB cZ (CW cI ad τ σ))) (QV D (CW cI ad τ) (cwA ad) o) 0 0 (cwA ad) := by
  refine Met.ofW (cc := cX9_empties) (maxL := 1) (ret := none) (by decide) rfl ?_
  intro p e s m args below meth c s₁ B hml hv
  obtain ⟨rfl, hP, hK, hN⟩ := hv
  have C0 : Cx p s m _ meth c cX9_empties 1 none RX9 wsX9_empties := ⟨⟨B.exec, B.bytes, hml, findClass_of_methodNamed B.named, atoms_spec B.pre⟩, B.returns, B.notSynchronized⟩
  obtain ⟨⟨hx, hb, -, hown, hts⟩, hr, hlk⟩ := id C0
  have hS : va_S (cwA ad) s.heap s.heap [] := va_S.rf
  have hl := lv_entry ([.ref (ad 10)]) (n := 1) (Nat.le_of_ble_eq_true rfl)
  rw [lg_entry_eq]
  generalize (lg_sl ([.ref (ad 10)]) ++ List.replicate (1 - (lg_sl ([.ref (ad 10)])).length) Slot.unset).toArray = ls at hl ⊢
  have hl : lv_has ls 1 [(0, .ref (ad 10))] := hl
  rw [pX9_empties] at h
  refine lv_aload_n hx hb dX9_empties_0 rfl (lv_at hl 0 rfl) ?_
  refine va_get (D := D) (ci := 9) (v := .ref (ad 11)) (C := RX9) (T := TX9) (N := 10) hx hb hts iX9_empties_X9 hown hK hP 10 cw_10 rfl 0 (by decide) (hts (.fieldLink RX9 9 RX9 "deep" "[I") (by decide +kernel)) (fun _ h9 => h9) rfl dX9_empties_1 ?_
  refine lv_iconst (v := 3) hx hb dX9_empties_4 (by decide) ?_
  refine wr_callv (va_runSN (As := [.ref (ad 11), .int 3]) (rest := []) C0.1 (kX10_fill l (cw_D hap) 11 cw_11 (by decide) 3) (wX9_empties_X10_fill hts hN ⟨Nat.le_of_ble_eq_true rfl, Nat.le_of_ble_eq_true rfl⟩) ⟨PW.blind, PW.mk hP hK hN⟩ rfl rfl hl.1 rfl (lv_room (Nat.le_of_ble_eq_true rfl)) dX9_empties_5 ⟨Nat.zero_le _, Nat.zero_le _⟩) hS (fun _ h => h) (fun H locs hP hS => ?_)
  have hP := cw_s11 hP
  obtain ⟨σ1, e2, h⟩ := k_bd h
  rw [k_sm e2] at hP
  refine lv_aload_n hx hb dX9_empties_8 rfl (lv_at hl 0 rfl) ?_
  refine va_get (D := D) (ci := 9) (v := .ref (ad 12)) (C := RX9) (T := TX9) (N := 10) hx hb hts iX9_empties_X9 hown hK hP 10 cw_10 rfl 1 (by decide) (hts (.fieldLink RX9 15 RX9 "grip" "[I") (by decide +kernel)) (fun _ h9 => h9) rfl dX9_empties_9 ?_
  refine lv_iconst (v := 1) hx hb dX9_empties_12 (by decide) ?_
  refine wr_callv (va_runSN (As := [.ref (ad 12), .int 1]) (rest := []) C0.1 (kX10_fill l (cw_D hap) 12 cw_12 (by decide) 1) (wX9_empties_X10_fill hts hN ⟨Nat.le_of_ble_eq_true rfl, Nat.le_of_ble_eq_true rfl⟩) ⟨PW.blind, PW.mk hP hK hN⟩ rfl rfl hl.1 rfl (lv_room (Nat.le_of_ble_eq_true rfl)) dX9_empties_13 ⟨Nat.zero_le _, Nat.zero_le _⟩) hS (fun _ h => h) (fun H locs hP hS => ?_)
  have hP := cw_s12 hP
  obtain ⟨σ3, e4, h⟩ := k_bd h
  rw [k_sm e4] at hP
  refine lv_aload_n hx hb dX9_empties_16 rfl (lv_at hl 0 rfl) ?_
  refine va_get (D := D) (ci := 9) (v := .ref (ad 16)) (C := RX9) (T := TX9) (N := 10) hx hb hts iX9_empties_X9 hown hK hP 10 cw_10 rfl 5 (by decide) (hts (.fieldLink RX9 27 RX9 "roped" "[I") (by decide +kernel)) (fun _ h9 => h9) rfl dX9_empties_17 ?_
  refine lv_iconst (v := 0) hx hb dX9_empties_20 (by decide) ?_
  refine wr_callv (va_runSN (As := [.ref (ad 16), .int 0]) (rest := []) C0.1 (kX10_fill l (cw_D hap) 16 cw_16 (by decide) 0) (wX9_empties_X10_fill hts hN ⟨Nat.le_of_ble_eq_true rfl, Nat.le_of_ble_eq_true rfl⟩) ⟨PW.blind, PW.mk hP hK hN⟩ rfl rfl hl.1 rfl (lv_room (Nat.le_of_ble_eq_true rfl)) dX9_empties_21 ⟨Nat.zero_le _, Nat.zero_le _⟩) hS (fun _ h => h) (fun H locs hP hS => ?_)
  have hP := cw_s16 hP
  obtain ⟨σ5, e6, h⟩ := k_bd h
  rw [k_sm e6] at hP
  refine lv_aload_n hx hb dX9_empties_24 rfl (lv_at hl 0 rfl) ?_
  refine va_get (D := D) (ci := 9) (v := .ref (ad 17)) (C := RX9) (T := TX9) (N := 10) hx hb hts iX9_empties_X9 hown hK hP 10 cw_10 rfl 6 (by decide) (hts (.fieldLink RX9 33 RX9 "first" "LAnchorWills$Now;") (by decide +kernel)) (fun _ h9 => h9) rfl dX9_empties_25 ?_
  obtain ⟨u7, e8, h⟩ := k_bd h
  refine wr_callv (va_runVN (As := []) (rest := []) C0.1 (kX5_empties_18 l (D := D) (cI := cI) (cB := cB) (cZ := cZ) (τ := τ) hap σ5  _ e8) (wX9_empties_X5_empties hts hN ⟨Nat.le_of_ble_eq_true rfl, Nat.le_of_ble_eq_true rfl⟩) ⟨PW.blind, cw_r17 hK hP, PW.mk hP hK hN⟩ rfl rfl hl.1 rfl (lv_room (Nat.le_of_ble_eq_true rfl)) dX9_empties_28 ⟨Nat.zero_le _, Nat.zero_le _⟩) hS (fun _ h => h) (fun H locs hP hS => ?_)
  have hP : va_P D vwCl (CW cI ad τ u7) H := hP
  refine lv_aload_n hx hb dX9_empties_31 rfl (lv_at hl 0 rfl) ?_
  refine lv_iconst (v := 0) hx hb dX9_empties_32 (by decide) ?_
  refine va_put (D := D) (ci := 9) (v := .int 0) (ty := .int) (C := RX9) (T := TX9) (N := 10) hx hb hts iX9_empties_X9 tyX9 tyX9_ok nmX9 hown hK hP (cw_D hap) hS 10 cw_10 rfl 7 (by decide) (hts (.fieldLink RX9 45 RX9 "rafts" "I") (by decide +kernel)) (fun _ h9 => h9) rfl (by decide +kernel) rfl rfl (Nat.le_of_ble_eq_true rfl) dX9_empties_33 (fun H locs hP _ hS => ?_)
  have hP := cw_s10_7 hP
  obtain ⟨σ9, e10, h⟩ := k_bd h
  rw [k_sm e10] at hP
  refine lv_aload_n hx hb dX9_empties_36 rfl (lv_at hl 0 rfl) ?_
  refine lv_iconst (v := 0) hx hb dX9_empties_37 (by decide) ?_
  refine va_put (D := D) (ci := 9) (v := .int 0) (ty := .int) (C := RX9) (T := TX9) (N := 10) hx hb hts iX9_empties_X9 tyX9 tyX9_ok nmX9 hown hK hP (cw_D hap) hS 10 cw_10 rfl 8 (by decide) (hts (.fieldLink RX9 49 RX9 "anchors" "I") (by decide +kernel)) (fun _ h9 => h9) rfl (by decide +kernel) rfl rfl (Nat.le_of_ble_eq_true rfl) dX9_empties_38 (fun H locs hP _ hS => ?_)
  have hP := cw_s10_8 hP
  obtain ⟨σ11, e12, h⟩ := k_bd h
  rw [k_sm e12] at hP
  refine lv_aload_n hx hb dX9_empties_41 rfl (lv_at hl 0 rfl) ?_
  refine lv_iconst (v := 0) hx hb dX9_empties_42 (by decide) ?_
  refine va_put (D := D) (ci := 9) (v := .int 0) (ty := .int) (C := RX9) (T := TX9) (N := 10) hx hb hts iX9_empties_X9 tyX9 tyX9_ok nmX9 hown hK hP (cw_D hap) hS 10 cw_10 rfl 9 (by decide) (hts (.fieldLink RX9 52 RX9 "ropes" "I") (by decide +kernel)) (fun _ h9 => h9) rfl (by decide +kernel) rfl rfl (Nat.le_of_ble_eq_true rfl) dX9_empties_43 (fun H locs hP _ hS => ?_)
  have hP := cw_s10_9 hP
  obtain ⟨σ13, e14, h⟩ := k_bd h
  rw [k_sm e14] at hP
  obtain rfl := k_sm h
  exact W.vret hx hb hr (fun t ht hW => ⟨⟨_, rfl, rfl, pw_end ht hP⟩, hS.F ht⟩) hS.2.2 dX9_empties_46
set_option maxHeartbeats 4000000 in
set_option maxRecDepth 100000 in
theorem kX5_set_20 (l : Launch) {D : va_G} {cI cB cZ : ClassId} {ad : Nat → Nat} {τ : Int64} (hap : cwX ad) (σ : Sg) (x1 : Int32) (x2 : Int32) (x3 : Int32) (o : Sg) (h : pX5_set 20 σ x1 x2 x3 = some o) : Met l yX5_set wsX5_set rmX5_set (va_Pc [.ref (ad 19), .int x1, .int x2, .int x3] (PW D cI cB cZ (CW cI ad τ σ))) (QV D (CW cI ad τ) (cwA ad) o) 0 0 (cwA ad) := by
  refine Met.ofW (cc := cX5_set) (maxL := 4) (ret := none) (by decide) rfl ?_
  intro p e s m args below meth c s₁ B hml hv
  obtain ⟨rfl, hP, hK, hN⟩ := hv
  have C0 : Cx p s m _ meth c cX5_set 4 none RX5 wsX5_set := ⟨⟨B.exec, B.bytes, hml, findClass_of_methodNamed B.named, atoms_spec B.pre⟩, B.returns, B.notSynchronized⟩
  obtain ⟨⟨hx, hb, -, hown, hts⟩, hr, hlk⟩ := id C0
  have hS : va_S (cwA ad) s.heap s.heap [] := va_S.rf
  have hl := lv_entry ([.ref (ad 19), .int x1, .int x2, .int x3]) (n := 4) (Nat.le_of_ble_eq_true rfl)
  rw [lg_entry_eq]
  generalize (lg_sl ([.ref (ad 19), .int x1, .int x2, .int x3]) ++ List.replicate (4 - (lg_sl ([.ref (ad 19), .int x1, .int x2, .int x3])).length) Slot.unset).toArray = ls at hl ⊢
  have hl : lv_has ls 4 [(0, .ref (ad 19)), (1, .int x1), (2, .int x2), (3, .int x3)] := hl
  rw [pX5_set] at h
  refine lv_aload_n hx hb dX5_set_0 rfl (lv_at hl 0 rfl) ?_
  refine va_get (D := D) (ci := 5) (v := .ref (ad 20)) (C := RX5) (T := TX5) (N := 1) hx hb hts iX5_set_X5 hown hK hP 19 cw_19 rfl 0 (by decide) (hts (.fieldLink RX5 11 RX5 "row" "[I") (by decide +kernel)) (fun _ h9 => h9) rfl dX5_set_1 ?_
  refine lv_iload_n hx hb dX5_set_4 rfl (lv_at hl 1 rfl) ?_
  refine lv_iload_n hx hb dX5_set_5 rfl (lv_at hl 2 rfl) ?_
  refine lv_iadd hx hb dX5_set_6 ?_
  refine lv_iload_n hx hb dX5_set_7 rfl (lv_at hl 3 rfl) ?_
  refine wr_callv (va_runSN (As := [.ref (ad 20), .int (x1 + x2), .int x3]) (rest := []) C0.1 (kX10_put l (cw_D hap) 20 cw_20 (by decide) (x1 + x2) x3) (wX5_set_X10_put hts hN ⟨Nat.le_of_ble_eq_true rfl, Nat.le_of_ble_eq_true rfl⟩) ⟨PW.blind, PW.mk hP hK hN⟩ rfl rfl hl.1 rfl (lv_room (Nat.le_of_ble_eq_true rfl)) dX5_set_8 ⟨Nat.zero_le _, Nat.zero_le _⟩) hS (fun _ h => h) (fun H locs hP hS => ?_)
  have hP := cw_s20 hP
  obtain ⟨σ1, e2, h⟩ := k_bd h
  rw [k_sm e2] at hP
  obtain rfl := k_sm h
  exact W.vret hx hb hr (fun t ht hW => ⟨⟨_, rfl, rfl, pw_end ht hP⟩, hS.F ht⟩) hS.2.2 dX5_set_11
set_option maxHeartbeats 4000000 in
set_option maxRecDepth 100000 in
theorem kX5_set_37 (l : Launch) {D : va_G} {cI cB cZ : ClassId} {ad : Nat → Nat} {τ : Int64} (hap : cwX ad) (σ : Sg) (x1 : Int32) (x2 : Int32) (x3 : Int32) (o : Sg) (h : pX5_set 37 σ x1 x2 x3 = some o) : Met l yX5_set wsX5_set rmX5_set (va_Pc [.ref (ad 36), .int x1, .int x2, .int x3] (PW D cI cB cZ (CW cI ad τ σ))) (QV D (CW cI ad τ) (cwA ad) o) 0 0 (cwA ad) := by
  refine Met.ofW (cc := cX5_set) (maxL := 4) (ret := none) (by decide) rfl ?_
  intro p e s m args below meth c s₁ B hml hv
  obtain ⟨rfl, hP, hK, hN⟩ := hv
  have C0 : Cx p s m _ meth c cX5_set 4 none RX5 wsX5_set := ⟨⟨B.exec, B.bytes, hml, findClass_of_methodNamed B.named, atoms_spec B.pre⟩, B.returns, B.notSynchronized⟩
  obtain ⟨⟨hx, hb, -, hown, hts⟩, hr, hlk⟩ := id C0
  have hS : va_S (cwA ad) s.heap s.heap [] := va_S.rf
  have hl := lv_entry ([.ref (ad 36), .int x1, .int x2, .int x3]) (n := 4) (Nat.le_of_ble_eq_true rfl)
  rw [lg_entry_eq]
  generalize (lg_sl ([.ref (ad 36), .int x1, .int x2, .int x3]) ++ List.replicate (4 - (lg_sl ([.ref (ad 36), .int x1, .int x2, .int x3])).length) Slot.unset).toArray = ls at hl ⊢
  have hl : lv_has ls 4 [(0, .ref (ad 36)), (1, .int x1), (2, .int x2), (3, .int x3)] := hl
  rw [pX5_set] at h
  refine lv_aload_n hx hb dX5_set_0 rfl (lv_at hl 0 rfl) ?_
  refine va_get (D := D) (ci := 5) (v := .ref (ad 37)) (C := RX5) (T := TX5) (N := 1) hx hb hts iX5_set_X5 hown hK hP 36 cw_36 rfl 0 (by decide) (hts (.fieldLink RX5 11 RX5 "row" "[I") (by decide +kernel)) (fun _ h9 => h9) rfl dX5_set_1 ?_
  refine lv_iload_n hx hb dX5_set_4 rfl (lv_at hl 1 rfl) ?_
  refine lv_iload_n hx hb dX5_set_5 rfl (lv_at hl 2 rfl) ?_
  refine lv_iadd hx hb dX5_set_6 ?_
  refine lv_iload_n hx hb dX5_set_7 rfl (lv_at hl 3 rfl) ?_
  refine wr_callv (va_runSN (As := [.ref (ad 37), .int (x1 + x2), .int x3]) (rest := []) C0.1 (kX10_put l (cw_D hap) 37 cw_37 (by decide) (x1 + x2) x3) (wX5_set_X10_put hts hN ⟨Nat.le_of_ble_eq_true rfl, Nat.le_of_ble_eq_true rfl⟩) ⟨PW.blind, PW.mk hP hK hN⟩ rfl rfl hl.1 rfl (lv_room (Nat.le_of_ble_eq_true rfl)) dX5_set_8 ⟨Nat.zero_le _, Nat.zero_le _⟩) hS (fun _ h => h) (fun H locs hP hS => ?_)
  have hP := cw_s37 hP
  obtain ⟨σ1, e2, h⟩ := k_bd h
  rw [k_sm e2] at hP
  obtain rfl := k_sm h
  exact W.vret hx hb hr (fun t ht hW => ⟨⟨_, rfl, rfl, pw_end ht hP⟩, hS.F ht⟩) hS.2.2 dX5_set_11
set_option maxHeartbeats 4000000 in
set_option maxRecDepth 100000 in
theorem kX5_set_18 (l : Launch) {D : va_G} {cI cB cZ : ClassId} {ad : Nat → Nat} {τ : Int64} (hap : cwX ad) (σ : Sg) (x1 : Int32) (x2 : Int32) (x3 : Int32) (o : Sg) (h : pX5_set 18 σ x1 x2 x3 = some o) : Met l yX5_set wsX5_set rmX5_set (va_Pc [.ref (ad 17), .int x1, .int x2, .int x3] (PW D cI cB cZ (CW cI ad τ σ))) (QV D (CW cI ad τ) (cwA ad) o) 0 0 (cwA ad) := by
  refine Met.ofW (cc := cX5_set) (maxL := 4) (ret := none) (by decide) rfl ?_
  intro p e s m args below meth c s₁ B hml hv
  obtain ⟨rfl, hP, hK, hN⟩ := hv
  have C0 : Cx p s m _ meth c cX5_set 4 none RX5 wsX5_set := ⟨⟨B.exec, B.bytes, hml, findClass_of_methodNamed B.named, atoms_spec B.pre⟩, B.returns, B.notSynchronized⟩
  obtain ⟨⟨hx, hb, -, hown, hts⟩, hr, hlk⟩ := id C0
  have hS : va_S (cwA ad) s.heap s.heap [] := va_S.rf
  have hl := lv_entry ([.ref (ad 17), .int x1, .int x2, .int x3]) (n := 4) (Nat.le_of_ble_eq_true rfl)
  rw [lg_entry_eq]
  generalize (lg_sl ([.ref (ad 17), .int x1, .int x2, .int x3]) ++ List.replicate (4 - (lg_sl ([.ref (ad 17), .int x1, .int x2, .int x3])).length) Slot.unset).toArray = ls at hl ⊢
  have hl : lv_has ls 4 [(0, .ref (ad 17)), (1, .int x1), (2, .int x2), (3, .int x3)] := hl
  rw [pX5_set] at h
  refine lv_aload_n hx hb dX5_set_0 rfl (lv_at hl 0 rfl) ?_
  refine va_get (D := D) (ci := 5) (v := .ref (ad 18)) (C := RX5) (T := TX5) (N := 1) hx hb hts iX5_set_X5 hown hK hP 17 cw_17 rfl 0 (by decide) (hts (.fieldLink RX5 11 RX5 "row" "[I") (by decide +kernel)) (fun _ h9 => h9) rfl dX5_set_1 ?_
  refine lv_iload_n hx hb dX5_set_4 rfl (lv_at hl 1 rfl) ?_
  refine lv_iload_n hx hb dX5_set_5 rfl (lv_at hl 2 rfl) ?_
  refine lv_iadd hx hb dX5_set_6 ?_
  refine lv_iload_n hx hb dX5_set_7 rfl (lv_at hl 3 rfl) ?_
  refine wr_callv (va_runSN (As := [.ref (ad 18), .int (x1 + x2), .int x3]) (rest := []) C0.1 (kX10_put l (cw_D hap) 18 cw_18 (by decide) (x1 + x2) x3) (wX5_set_X10_put hts hN ⟨Nat.le_of_ble_eq_true rfl, Nat.le_of_ble_eq_true rfl⟩) ⟨PW.blind, PW.mk hP hK hN⟩ rfl rfl hl.1 rfl (lv_room (Nat.le_of_ble_eq_true rfl)) dX5_set_8 ⟨Nat.zero_le _, Nat.zero_le _⟩) hS (fun _ h => h) (fun H locs hP hS => ?_)
  have hP := cw_s18 hP
  obtain ⟨σ1, e2, h⟩ := k_bd h
  rw [k_sm e2] at hP
  obtain rfl := k_sm h
  exact W.vret hx hb hr (fun t ht hW => ⟨⟨_, rfl, rfl, pw_end ht hP⟩, hS.F ht⟩) hS.2.2 dX5_set_11
set_option maxHeartbeats 4000000 in
set_option maxRecDepth 100000 in
theorem kX9_addRaft (l : Launch) {D : va_G} {cI cB cZ : ClassId} {ad : Nat → Nat} {τ : Int64} (hap : cwX ad) (σ : Sg) (x1 : Int32) (o : Sg) (h : pX9_addRaft σ x1 = some o) : Met l yX9_addRaft wsX9_addRaft rmX9_addRaft (va_Pc [.ref (ad 10), .int x1] (PW D cI cB cZ (CW cI ad τ σ))) (QV D (CW cI ad τ) (cwA ad) o) 0 0 (cwA ad) := by
  refine Met.ofW (cc := cX9_addRaft) (maxL := 2) (ret := none) (by decide) rfl ?_
  intro p e s m args below meth c s₁ B hml hv
  obtain ⟨rfl, hP, hK, hN⟩ := hv
  have C0 : Cx p s m _ meth c cX9_addRaft 2 none RX9 wsX9_addRaft := ⟨⟨B.exec, B.bytes, hml, findClass_of_methodNamed B.named, atoms_spec B.pre⟩, B.returns, B.notSynchronized⟩
  obtain ⟨⟨hx, hb, -, hown, hts⟩, hr, hlk⟩ := id C0
  have hS : va_S (cwA ad) s.heap s.heap [] := va_S.rf
  have hl := lv_entry ([.ref (ad 10), .int x1]) (n := 2) (Nat.le_of_ble_eq_true rfl)
  rw [lg_entry_eq]
  generalize (lg_sl ([.ref (ad 10), .int x1]) ++ List.replicate (2 - (lg_sl ([.ref (ad 10), .int x1])).length) Slot.unset).toArray = ls at hl ⊢
  have hl : lv_has ls 2 [(0, .ref (ad 10)), (1, .int x1)] := hl
  rw [pX9_addRaft] at h
  refine lv_aload_n hx hb dX9_addRaft_0 rfl (lv_at hl 0 rfl) ?_
  refine va_get (D := D) (ci := 9) (v := .ref (ad 17)) (C := RX9) (T := TX9) (N := 10) hx hb hts iX9_addRaft_X9 hown hK hP 10 cw_10 rfl 6 (by decide) (hts (.fieldLink RX9 33 RX9 "first" "LAnchorWills$Now;") (by decide +kernel)) (fun _ h9 => h9) rfl dX9_addRaft_1 ?_
  refine lv_bipush (v := 32) hx hb dX9_addRaft_4 (by decide) ?_
  refine lv_aload_n hx hb dX9_addRaft_6 rfl (lv_at hl 0 rfl) ?_
  refine va_get (D := D) (ci := 9) (v := .int (σ 10 7)) (C := RX9) (T := TX9) (N := 10) hx hb hts iX9_addRaft_X9 hown hK hP 10 cw_10 rfl 7 (by decide) (hts (.fieldLink RX9 45 RX9 "rafts" "I") (by decide +kernel)) (fun _ h9 => h9) rfl dX9_addRaft_7 ?_
  refine lv_iload_n hx hb dX9_addRaft_10 rfl (lv_at hl 1 rfl) ?_
  obtain ⟨u1, e2, h⟩ := k_bd h
  refine wr_callv (va_runVN (As := [.int 32, .int (σ 10 7), .int x1]) (rest := []) C0.1 (kX5_set_18 l (D := D) (cI := cI) (cB := cB) (cZ := cZ) (τ := τ) hap σ 32 (σ 10 7) x1 _ e2) (wX9_addRaft_X5_set hts hN ⟨Nat.le_of_ble_eq_true rfl, Nat.le_of_ble_eq_true rfl⟩) ⟨PW.blind, cw_r17 hK hP, PW.mk hP hK hN⟩ rfl rfl hl.1 rfl (lv_room (Nat.le_of_ble_eq_true rfl)) dX9_addRaft_11 ⟨Nat.zero_le _, Nat.zero_le _⟩) hS (fun _ h => h) (fun H locs hP hS => ?_)
  have hP : va_P D vwCl (CW cI ad τ u1) H := hP
  refine lv_aload_n hx hb dX9_addRaft_14 rfl (lv_at hl 0 rfl) ?_
  refine lv_dup hx hb dX9_addRaft_15 rfl ?_
  refine va_get (D := D) (ci := 9) (v := .int (u1 10 7)) (C := RX9) (T := TX9) (N := 10) hx hb hts iX9_addRaft_X9 hown hK hP 10 cw_10 rfl 7 (by decide) (hts (.fieldLink RX9 45 RX9 "rafts" "I") (by decide +kernel)) (fun _ h9 => h9) rfl dX9_addRaft_16 ?_
  refine lv_iconst (v := 1) hx hb dX9_addRaft_19 (by decide) ?_
  refine lv_iadd hx hb dX9_addRaft_20 ?_
  refine va_put (D := D) (ci := 9) (v := .int ((u1 10 7) + 1)) (ty := .int) (C := RX9) (T := TX9) (N := 10) hx hb hts iX9_addRaft_X9 tyX9 tyX9_ok nmX9 hown hK hP (cw_D hap) hS 10 cw_10 rfl 7 (by decide) (hts (.fieldLink RX9 45 RX9 "rafts" "I") (by decide +kernel)) (fun _ h9 => h9) rfl (by decide +kernel) rfl rfl (Nat.le_of_ble_eq_true rfl) dX9_addRaft_21 (fun H locs hP _ hS => ?_)
  have hP := cw_s10_7 hP
  obtain ⟨σ3, e4, h⟩ := k_bd h
  rw [k_sm e4] at hP
  obtain rfl := k_sm h
  exact W.vret hx hb hr (fun t ht hW => ⟨⟨_, rfl, rfl, pw_end ht hP⟩, hS.F ht⟩) hS.2.2 dX9_addRaft_24
set_option maxHeartbeats 4000000 in
set_option maxRecDepth 100000 in
theorem kX9_addAnchor (l : Launch) {D : va_G} {cI cB cZ : ClassId} {ad : Nat → Nat} {τ : Int64} (hap : cwX ad) (σ : Sg) (x1 : Int32) (x2 : Int32) (x3 : Int32) (x4 : Int32) (x5 : Int32) (o : Sg) (h : pX9_addAnchor σ x1 x2 x3 x4 x5 = some o) : Met l yX9_addAnchor wsX9_addAnchor rmX9_addAnchor (va_Pc [.ref (ad 10), .int x1, .int x2, .int x3, .int x4, .int x5] (PW D cI cB cZ (CW cI ad τ σ))) (QV D (CW cI ad τ) (cwA ad) o) 0 0 (cwA ad) := by
  refine Met.ofW (cc := cX9_addAnchor) (maxL := 6) (ret := none) (by decide) rfl ?_
  intro p e s m args below meth c s₁ B hml hv
  obtain ⟨rfl, hP, hK, hN⟩ := hv
  have C0 : Cx p s m _ meth c cX9_addAnchor 6 none RX9 wsX9_addAnchor := ⟨⟨B.exec, B.bytes, hml, findClass_of_methodNamed B.named, atoms_spec B.pre⟩, B.returns, B.notSynchronized⟩
  obtain ⟨⟨hx, hb, -, hown, hts⟩, hr, hlk⟩ := id C0
  have hS : va_S (cwA ad) s.heap s.heap [] := va_S.rf
  have hl := lv_entry ([.ref (ad 10), .int x1, .int x2, .int x3, .int x4, .int x5]) (n := 6) (Nat.le_of_ble_eq_true rfl)
  rw [lg_entry_eq]
  generalize (lg_sl ([.ref (ad 10), .int x1, .int x2, .int x3, .int x4, .int x5]) ++ List.replicate (6 - (lg_sl ([.ref (ad 10), .int x1, .int x2, .int x3, .int x4, .int x5])).length) Slot.unset).toArray = ls at hl ⊢
  have hl : lv_has ls 6 [(0, .ref (ad 10)), (1, .int x1), (2, .int x2), (3, .int x3), (4, .int x4), (5, .int x5)] := hl
  rw [pX9_addAnchor] at h
  refine lv_aload_n hx hb dX9_addAnchor_0 rfl (lv_at hl 0 rfl) ?_
  refine va_get (D := D) (ci := 9) (v := .ref (ad 13)) (C := RX9) (T := TX9) (N := 10) hx hb hts iX9_addAnchor_X9 hown hK hP 10 cw_10 rfl 2 (by decide) (hts (.fieldLink RX9 18 RX9 "owner" "[I") (by decide +kernel)) (fun _ h9 => h9) rfl dX9_addAnchor_1 ?_
  refine lv_aload_n hx hb dX9_addAnchor_4 rfl (lv_at hl 0 rfl) ?_
  refine va_get (D := D) (ci := 9) (v := .int (σ 10 8)) (C := RX9) (T := TX9) (N := 10) hx hb hts iX9_addAnchor_X9 hown hK hP 10 cw_10 rfl 8 (by decide) (hts (.fieldLink RX9 49 RX9 "anchors" "I") (by decide +kernel)) (fun _ h9 => h9) rfl dX9_addAnchor_5 ?_
  refine lv_iload_n hx hb dX9_addAnchor_8 rfl (lv_at hl 1 rfl) ?_
  refine wr_callv (va_runSN (As := [.ref (ad 13), .int (σ 10 8), .int x1]) (rest := []) C0.1 (kX10_put l (cw_D hap) 13 cw_13 (by decide) (σ 10 8) x1) (wX9_addAnchor_X10_put hts hN ⟨Nat.le_of_ble_eq_true rfl, Nat.le_of_ble_eq_true rfl⟩) ⟨PW.blind, PW.mk hP hK hN⟩ rfl rfl hl.1 rfl (lv_room (Nat.le_of_ble_eq_true rfl)) dX9_addAnchor_9 ⟨Nat.zero_le _, Nat.zero_le _⟩) hS (fun _ h => h) (fun H locs hP hS => ?_)
  have hP := cw_s13 hP
  obtain ⟨σ1, e2, h⟩ := k_bd h
  rw [k_sm e2] at hP
  refine lv_aload_n hx hb dX9_addAnchor_12 rfl (lv_at hl 0 rfl) ?_
  refine va_get (D := D) (ci := 9) (v := .ref (ad 14)) (C := RX9) (T := TX9) (N := 10) hx hb hts iX9_addAnchor_X9 hown hK hP 10 cw_10 rfl 3 (by decide) (hts (.fieldLink RX9 21 RX9 "weight" "[I") (by decide +kernel)) (fun _ h9 => h9) rfl dX9_addAnchor_13 ?_
  refine lv_aload_n hx hb dX9_addAnchor_16 rfl (lv_at hl 0 rfl) ?_
  refine va_get (D := D) (ci := 9) (v := .int (σ1 10 8)) (C := RX9) (T := TX9) (N := 10) hx hb hts iX9_addAnchor_X9 hown hK hP 10 cw_10 rfl 8 (by decide) (hts (.fieldLink RX9 49 RX9 "anchors" "I") (by decide +kernel)) (fun _ h9 => h9) rfl dX9_addAnchor_17 ?_
  refine lv_iload_n hx hb dX9_addAnchor_20 rfl (lv_at hl 3 rfl) ?_
  refine wr_callv (va_runSN (As := [.ref (ad 14), .int (σ1 10 8), .int x3]) (rest := []) C0.1 (kX10_put l (cw_D hap) 14 cw_14 (by decide) (σ1 10 8) x3) (wX9_addAnchor_X10_put hts hN ⟨Nat.le_of_ble_eq_true rfl, Nat.le_of_ble_eq_true rfl⟩) ⟨PW.blind, PW.mk hP hK hN⟩ rfl rfl hl.1 rfl (lv_room (Nat.le_of_ble_eq_true rfl)) dX9_addAnchor_21 ⟨Nat.zero_le _, Nat.zero_le _⟩) hS (fun _ h => h) (fun H locs hP hS => ?_)
  have hP := cw_s14 hP
  obtain ⟨σ3, e4, h⟩ := k_bd h
  rw [k_sm e4] at hP
  refine lv_aload_n hx hb dX9_addAnchor_24 rfl (lv_at hl 0 rfl) ?_
  refine va_get (D := D) (ci := 9) (v := .ref (ad 15)) (C := RX9) (T := TX9) (N := 10) hx hb hts iX9_addAnchor_X9 hown hK hP 10 cw_10 rfl 4 (by decide) (hts (.fieldLink RX9 24 RX9 "worth" "[I") (by decide +kernel)) (fun _ h9 => h9) rfl dX9_addAnchor_25 ?_
  refine lv_aload_n hx hb dX9_addAnchor_28 rfl (lv_at hl 0 rfl) ?_
  refine va_get (D := D) (ci := 9) (v := .int (σ3 10 8)) (C := RX9) (T := TX9) (N := 10) hx hb hts iX9_addAnchor_X9 hown hK hP 10 cw_10 rfl 8 (by decide) (hts (.fieldLink RX9 49 RX9 "anchors" "I") (by decide +kernel)) (fun _ h9 => h9) rfl dX9_addAnchor_29 ?_
  refine lv_iload hx hb dX9_addAnchor_32 (lv_at hl 5 rfl) ?_
  refine wr_callv (va_runSN (As := [.ref (ad 15), .int (σ3 10 8), .int x5]) (rest := []) C0.1 (kX10_put l (cw_D hap) 15 cw_15 (by decide) (σ3 10 8) x5) (wX9_addAnchor_X10_put hts hN ⟨Nat.le_of_ble_eq_true rfl, Nat.le_of_ble_eq_true rfl⟩) ⟨PW.blind, PW.mk hP hK hN⟩ rfl rfl hl.1 rfl (lv_room (Nat.le_of_ble_eq_true rfl)) dX9_addAnchor_34 ⟨Nat.zero_le _, Nat.zero_le _⟩) hS (fun _ h => h) (fun H locs hP hS => ?_)
  have hP := cw_s15 hP
  obtain ⟨σ5, e6, h⟩ := k_bd h
  rw [k_sm e6] at hP
  refine lv_aload_n hx hb dX9_addAnchor_37 rfl (lv_at hl 0 rfl) ?_
  refine va_get (D := D) (ci := 9) (v := .ref (ad 17)) (C := RX9) (T := TX9) (N := 10) hx hb hts iX9_addAnchor_X9 hown hK hP 10 cw_10 rfl 6 (by decide) (hts (.fieldLink RX9 33 RX9 "first" "LAnchorWills$Now;") (by decide +kernel)) (fun _ h9 => h9) rfl dX9_addAnchor_38 ?_
  refine lv_iconst (v := 0) hx hb dX9_addAnchor_41 (by decide) ?_
  refine lv_aload_n hx hb dX9_addAnchor_42 rfl (lv_at hl 0 rfl) ?_
  refine va_get (D := D) (ci := 9) (v := .int (σ5 10 8)) (C := RX9) (T := TX9) (N := 10) hx hb hts iX9_addAnchor_X9 hown hK hP 10 cw_10 rfl 8 (by decide) (hts (.fieldLink RX9 49 RX9 "anchors" "I") (by decide +kernel)) (fun _ h9 => h9) rfl dX9_addAnchor_43 ?_
  refine lv_iload_n hx hb dX9_addAnchor_46 rfl (lv_at hl 2 rfl) ?_
  obtain ⟨u7, e8, h⟩ := k_bd h
  refine wr_callv (va_runVN (As := [.int 0, .int (σ5 10 8), .int x2]) (rest := []) C0.1 (kX5_set_18 l (D := D) (cI := cI) (cB := cB) (cZ := cZ) (τ := τ) hap σ5 0 (σ5 10 8) x2 _ e8) (wX9_addAnchor_X5_set hts hN ⟨Nat.le_of_ble_eq_true rfl, Nat.le_of_ble_eq_true rfl⟩) ⟨PW.blind, cw_r17 hK hP, PW.mk hP hK hN⟩ rfl rfl hl.1 rfl (lv_room (Nat.le_of_ble_eq_true rfl)) dX9_addAnchor_47 ⟨Nat.zero_le _, Nat.zero_le _⟩) hS (fun _ h => h) (fun H locs hP hS => ?_)
  have hP : va_P D vwCl (CW cI ad τ u7) H := hP
  refine lv_aload_n hx hb dX9_addAnchor_50 rfl (lv_at hl 0 rfl) ?_
  refine va_get (D := D) (ci := 9) (v := .ref (ad 17)) (C := RX9) (T := TX9) (N := 10) hx hb hts iX9_addAnchor_X9 hown hK hP 10 cw_10 rfl 6 (by decide) (hts (.fieldLink RX9 33 RX9 "first" "LAnchorWills$Now;") (by decide +kernel)) (fun _ h9 => h9) rfl dX9_addAnchor_51 ?_
  refine lv_bipush (v := 8) hx hb dX9_addAnchor_54 (by decide) ?_
  refine lv_aload_n hx hb dX9_addAnchor_56 rfl (lv_at hl 0 rfl) ?_
  refine va_get (D := D) (ci := 9) (v := .int (u7 10 8)) (C := RX9) (T := TX9) (N := 10) hx hb hts iX9_addAnchor_X9 hown hK hP 10 cw_10 rfl 8 (by decide) (hts (.fieldLink RX9 49 RX9 "anchors" "I") (by decide +kernel)) (fun _ h9 => h9) rfl dX9_addAnchor_57 ?_
  refine lv_iload hx hb dX9_addAnchor_60 (lv_at hl 4 rfl) ?_
  obtain ⟨u9, e10, h⟩ := k_bd h
  refine wr_callv (va_runVN (As := [.int 8, .int (u7 10 8), .int x4]) (rest := []) C0.1 (kX5_set_18 l (D := D) (cI := cI) (cB := cB) (cZ := cZ) (τ := τ) hap u7 8 (u7 10 8) x4 _ e10) (wX9_addAnchor_X5_set hts hN ⟨Nat.le_of_ble_eq_true rfl, Nat.le_of_ble_eq_true rfl⟩) ⟨PW.blind, cw_r17 hK hP, PW.mk hP hK hN⟩ rfl rfl hl.1 rfl (lv_room (Nat.le_of_ble_eq_true rfl)) dX9_addAnchor_62 ⟨Nat.zero_le _, Nat.zero_le _⟩) hS (fun _ h => h) (fun H locs hP hS => ?_)
  have hP : va_P D vwCl (CW cI ad τ u9) H := hP
  refine lv_aload_n hx hb dX9_addAnchor_65 rfl (lv_at hl 0 rfl) ?_
  refine lv_dup hx hb dX9_addAnchor_66 rfl ?_
  refine va_get (D := D) (ci := 9) (v := .int (u9 10 8)) (C := RX9) (T := TX9) (N := 10) hx hb hts iX9_addAnchor_X9 hown hK hP 10 cw_10 rfl 8 (by decide) (hts (.fieldLink RX9 49 RX9 "anchors" "I") (by decide +kernel)) (fun _ h9 => h9) rfl dX9_addAnchor_67 ?_
  refine lv_iconst (v := 1) hx hb dX9_addAnchor_70 (by decide) ?_
  refine lv_iadd hx hb dX9_addAnchor_71 ?_
  refine va_put (D := D) (ci := 9) (v := .int ((u9 10 8) + 1)) (ty := .int) (C := RX9) (T := TX9) (N := 10) hx hb hts iX9_addAnchor_X9 tyX9 tyX9_ok nmX9 hown hK hP (cw_D hap) hS 10 cw_10 rfl 8 (by decide) (hts (.fieldLink RX9 49 RX9 "anchors" "I") (by decide +kernel)) (fun _ h9 => h9) rfl (by decide +kernel) rfl rfl (Nat.le_of_ble_eq_true rfl) dX9_addAnchor_72 (fun H locs hP _ hS => ?_)
  have hP := cw_s10_8 hP
  obtain ⟨σ11, e12, h⟩ := k_bd h
  rw [k_sm e12] at hP
  obtain rfl := k_sm h
  exact W.vret hx hb hr (fun t ht hW => ⟨⟨_, rfl, rfl, pw_end ht hP⟩, hS.F ht⟩) hS.2.2 dX9_addAnchor_75
set_option maxHeartbeats 4000000 in
set_option maxRecDepth 100000 in
theorem kX10_bit (l : Launch) (x0 : Int32) : Met l yX10_bit wsX10_bit rmX10_bit (va_Pc [.int x0] (fun _ => True)) (QcRead (pX10_bit x0)) 0 0 (fun _ => False) := by
  obtain ⟨o, h⟩ : ∃ o, pX10_bit x0 = o := ⟨_, rfl⟩
  rw [h]
  refine Met.ofW (cc := cX10_bit) (maxL := 1) (ret := (some .int)) (by decide) rfl ?_
  intro p e s m args below meth c s₁ B hml hv
  obtain ⟨rfl, -⟩ := hv
  have C0 : Cx p s m _ meth c cX10_bit 1 (some .int) RX10 wsX10_bit := ⟨⟨B.exec, B.bytes, hml, findClass_of_methodNamed B.named, atoms_spec B.pre⟩, B.returns, B.notSynchronized⟩
  obtain ⟨⟨hx, hb, -, hown, hts⟩, hr, hlk⟩ := id C0
  have hl := lv_entry ([.int x0]) (n := 1) (Nat.le_of_ble_eq_true rfl)
  rw [lg_entry_eq]
  generalize (lg_sl ([.int x0]) ++ List.replicate (1 - (lg_sl ([.int x0])).length) Slot.unset).toArray = ls at hl ⊢
  have hl : lv_has ls 1 [(0, .int x0)] := hl
  rw [pX10_bit] at h
  refine lv_iload_n hx hb dX10_bit_0 rfl (lv_at hl 0 rfl) ?_
  refine lv_if_lt (tgt := 16) hx hb dX10_bit_1 (by decide) (fun c1 => ?_) (fun c1 => ?_)
  · replace h := k_ip c1 h
    refine lv_iconst (v := 0) hx hb dX10_bit_16 (by decide) ?_
    subst h
    exact W.iret hx hb hr (fun t ht hW => ⟨rfl, ht⟩) (fun _ h => by cases h) dX10_bit_17
  · replace h := k_in c1 h
    refine lv_iload_n hx hb dX10_bit_4 rfl (lv_at hl 0 rfl) ?_
    refine lv_bipush (v := 31) hx hb dX10_bit_5 (by decide) ?_
    refine lv_icmp_ge (tgt := 16) hx hb dX10_bit_7 (by decide) (fun c7 => ?_) (fun c7 => ?_)
    · replace h := k_ip c7 h
      refine lv_iconst (v := 0) hx hb dX10_bit_16 (by decide) ?_
      subst h
      exact W.iret hx hb hr (fun t ht hW => ⟨rfl, ht⟩) (fun _ h => by cases h) dX10_bit_17
    · replace h := k_in c7 h
      refine lv_iconst (v := 1) hx hb dX10_bit_10 (by decide) ?_
      refine lv_iload_n hx hb dX10_bit_11 rfl (lv_at hl 0 rfl) ?_
      refine lv_ishl hx hb dX10_bit_12 ?_
      refine lv_goto (tgt := 17) hx hb dX10_bit_13 (by decide) ?_
      subst h
      exact W.iret hx hb hr (fun t ht hW => ⟨rfl, ht⟩) (fun _ h => by cases h) dX10_bit_17
set_option maxHeartbeats 4000000 in
set_option maxRecDepth 100000 in
theorem kX10_has (l : Launch) (x0 : Int32) (x1 : Int32) : Met l yX10_has wsX10_has rmX10_has (va_Pc [.int x0, .int x1] (fun _ => True)) (QcRead (pX10_has x0 x1)) 0 0 (fun _ => False) := by
  obtain ⟨o, h⟩ : ∃ o, pX10_has x0 x1 = o := ⟨_, rfl⟩
  rw [h]
  refine Met.ofW (cc := cX10_has) (maxL := 2) (ret := (some .boolean)) (by decide) rfl ?_
  intro p e s m args below meth c s₁ B hml hv
  obtain ⟨rfl, -⟩ := hv
  have C0 : Cx p s m _ meth c cX10_has 2 (some .boolean) RX10 wsX10_has := ⟨⟨B.exec, B.bytes, hml, findClass_of_methodNamed B.named, atoms_spec B.pre⟩, B.returns, B.notSynchronized⟩
  obtain ⟨⟨hx, hb, -, hown, hts⟩, hr, hlk⟩ := id C0
  have hl := lv_entry ([.int x0, .int x1]) (n := 2) (Nat.le_of_ble_eq_true rfl)
  rw [lg_entry_eq]
  generalize (lg_sl ([.int x0, .int x1]) ++ List.replicate (2 - (lg_sl ([.int x0, .int x1])).length) Slot.unset).toArray = ls at hl ⊢
  have hl : lv_has ls 2 [(0, .int x0), (1, .int x1)] := hl
  rw [pX10_has] at h
  refine lv_iload_n hx hb dX10_has_0 rfl (lv_at hl 0 rfl) ?_
  refine lv_iload_n hx hb dX10_has_1 rfl (lv_at hl 1 rfl) ?_
  refine rd_calli (va_runS (As := [.int x1]) (rest := [.int x0]) C0.1 (kX10_bit l x1) (wX10_has_X10_bit hts ⟨Nat.le_of_ble_eq_true rfl, Nat.le_of_ble_eq_true rfl⟩) ⟨PT.blind, fun _ _ _ => ⟨rfl, trivial⟩⟩ rfl rfl hl.1 rfl (lv_room (Nat.le_of_ble_eq_true rfl)) dX10_has_2 ⟨Nat.zero_le _, Nat.zero_le _⟩) ?_
  refine lv_iand hx hb dX10_has_5 ?_
  refine lv_if_eq (tgt := 13) hx hb dX10_has_6 (by decide) (fun c6 => ?_) (fun c6 => ?_)
  · replace h := k_ip c6 h
    refine lv_iconst (v := 0) hx hb dX10_has_13 (by decide) ?_
    subst h
    exact W.zret hx hb hr rfl (fun t ht hW => ⟨rfl, ht⟩) (fun _ h => by cases h) dX10_has_14
  · replace h := k_in c6 h
    refine lv_iconst (v := 1) hx hb dX10_has_9 (by decide) ?_
    refine lv_goto (tgt := 14) hx hb dX10_has_10 (by decide) ?_
    subst h
    exact W.zret hx hb hr rfl (fun t ht hW => ⟨rfl, ht⟩) (fun _ h => by cases h) dX10_has_14
set_option maxHeartbeats 4000000 in
set_option maxRecDepth 100000 in
theorem kX9_addRope (l : Launch) {D : va_G} {cI cB cZ : ClassId} {ad : Nat → Nat} {τ : Int64} (hap : cwX ad) (σ : Sg) (x1 : Int32) (x2 : Int32) (o : Sg) (h : pX9_addRope σ x1 x2 = some o) : Met l yX9_addRope wsX9_addRope rmX9_addRope (va_Pc [.ref (ad 10), .int x1, .int x2] (PW D cI cB cZ (CW cI ad τ σ))) (QV D (CW cI ad τ) (cwA ad) o) 0 0 (cwA ad) := by
  refine Met.ofW (cc := cX9_addRope) (maxL := 3) (ret := none) (by decide) rfl ?_
  intro p e s m args below meth c s₁ B hml hv
  obtain ⟨rfl, hP, hK, hN⟩ := hv
  have C0 : Cx p s m _ meth c cX9_addRope 3 none RX9 wsX9_addRope := ⟨⟨B.exec, B.bytes, hml, findClass_of_methodNamed B.named, atoms_spec B.pre⟩, B.returns, B.notSynchronized⟩
  obtain ⟨⟨hx, hb, -, hown, hts⟩, hr, hlk⟩ := id C0
  have hS : va_S (cwA ad) s.heap s.heap [] := va_S.rf
  have hl := lv_entry ([.ref (ad 10), .int x1, .int x2]) (n := 3) (Nat.le_of_ble_eq_true rfl)
  rw [lg_entry_eq]
  generalize (lg_sl ([.ref (ad 10), .int x1, .int x2]) ++ List.replicate (3 - (lg_sl ([.ref (ad 10), .int x1, .int x2])).length) Slot.unset).toArray = ls at hl ⊢
  have hl : lv_has ls 3 [(0, .ref (ad 10)), (1, .int x1), (2, .int x2)] := hl
  rw [pX9_addRope] at h
  refine lv_aload_n hx hb dX9_addRope_0 rfl (lv_at hl 0 rfl) ?_
  refine va_get (D := D) (ci := 9) (v := .ref (ad 16)) (C := RX9) (T := TX9) (N := 10) hx hb hts iX9_addRope_X9 hown hK hP 10 cw_10 rfl 5 (by decide) (hts (.fieldLink RX9 27 RX9 "roped" "[I") (by decide +kernel)) (fun _ h9 => h9) rfl dX9_addRope_1 ?_
  refine lv_iload_n hx hb dX9_addRope_4 rfl (lv_at hl 1 rfl) ?_
  refine rd_calli (va_runSN (As := [.ref (ad 16), .int x1]) (rest := []) C0.1 (kX10_at l (ad 16) 6 (σ 16) x1 (by decide)) (wX9_addRope_X10_at hts hN ⟨Nat.le_of_ble_eq_true rfl, Nat.le_of_ble_eq_true rfl⟩) ⟨PAt.blind, PAt.mk (cw_t16 hK hP)⟩ rfl rfl hl.1 rfl (lv_room (Nat.le_of_ble_eq_true rfl)) dX9_addRope_5 ⟨Nat.zero_le _, Nat.zero_le _⟩) ?_
  refine lv_iload_n hx hb dX9_addRope_8 rfl (lv_at hl 2 rfl) ?_
  refine rd_calli (va_runSN (As := [.int (pX10_at (σ 16) 6 x1), .int x2]) (rest := []) C0.1 (kX10_has l (pX10_at (σ 16) 6 x1) x2) (wX9_addRope_X10_has hts hN ⟨Nat.le_of_ble_eq_true rfl, Nat.le_of_ble_eq_true rfl⟩) ⟨PT.blind, fun _ _ _ => ⟨rfl, trivial⟩⟩ rfl rfl hl.1 rfl (lv_room (Nat.le_of_ble_eq_true rfl)) dX9_addRope_9 ⟨Nat.zero_le _, Nat.zero_le _⟩) ?_
  refine lv_if_eq (tgt := 16) hx hb dX9_addRope_12 (by decide) (fun c12 => ?_) (fun c12 => ?_)
  · replace h := k_ip c12 h
    refine lv_aload_n hx hb dX9_addRope_16 rfl (lv_at hl 0 rfl) ?_
    refine va_get (D := D) (ci := 9) (v := .ref (ad 16)) (C := RX9) (T := TX9) (N := 10) hx hb hts iX9_addRope_X9 hown hK hP 10 cw_10 rfl 5 (by decide) (hts (.fieldLink RX9 27 RX9 "roped" "[I") (by decide +kernel)) (fun _ h9 => h9) rfl dX9_addRope_17 ?_
    refine lv_iload_n hx hb dX9_addRope_20 rfl (lv_at hl 1 rfl) ?_
    refine lv_aload_n hx hb dX9_addRope_21 rfl (lv_at hl 0 rfl) ?_
    refine va_get (D := D) (ci := 9) (v := .ref (ad 16)) (C := RX9) (T := TX9) (N := 10) hx hb hts iX9_addRope_X9 hown hK hP 10 cw_10 rfl 5 (by decide) (hts (.fieldLink RX9 27 RX9 "roped" "[I") (by decide +kernel)) (fun _ h9 => h9) rfl dX9_addRope_22 ?_
    refine lv_iload_n hx hb dX9_addRope_25 rfl (lv_at hl 1 rfl) ?_
    refine rd_calli (va_runSN (As := [.ref (ad 16), .int x1]) (rest := [.int x1, .ref (ad 16)]) C0.1 (kX10_at l (ad 16) 6 (σ 16) x1 (by decide)) (wX9_addRope_X10_at hts hN ⟨Nat.le_of_ble_eq_true rfl, Nat.le_of_ble_eq_true rfl⟩) ⟨PAt.blind, PAt.mk (cw_t16 hK hP)⟩ rfl rfl hl.1 rfl (lv_room (Nat.le_of_ble_eq_true rfl)) dX9_addRope_26 ⟨Nat.zero_le _, Nat.zero_le _⟩) ?_
    refine lv_iload_n hx hb dX9_addRope_29 rfl (lv_at hl 2 rfl) ?_
    refine rd_calli (va_runSN (As := [.int x2]) (rest := [.int (pX10_at (σ 16) 6 x1), .int x1, .ref (ad 16)]) C0.1 (kX10_bit l x2) (wX9_addRope_X10_bit hts hN ⟨Nat.le_of_ble_eq_true rfl, Nat.le_of_ble_eq_true rfl⟩) ⟨PT.blind, fun _ _ _ => ⟨rfl, trivial⟩⟩ rfl rfl hl.1 rfl (lv_room (Nat.le_of_ble_eq_true rfl)) dX9_addRope_30 ⟨Nat.zero_le _, Nat.zero_le _⟩) ?_
    refine lv_ior hx hb dX9_addRope_33 ?_
    refine wr_callv (va_runSN (As := [.ref (ad 16), .int x1, .int ((pX10_at (σ 16) 6 x1) ||| (pX10_bit x2))]) (rest := []) C0.1 (kX10_put l (cw_D hap) 16 cw_16 (by decide) x1 ((pX10_at (σ 16) 6 x1) ||| (pX10_bit x2))) (wX9_addRope_X10_put hts hN ⟨Nat.le_of_ble_eq_true rfl, Nat.le_of_ble_eq_true rfl⟩) ⟨PW.blind, PW.mk hP hK hN⟩ rfl rfl hl.1 rfl (lv_room (Nat.le_of_ble_eq_true rfl)) dX9_addRope_34 ⟨Nat.zero_le _, Nat.zero_le _⟩) hS (fun _ h => h) (fun H locs hP hS => ?_)
    have hP := cw_s16 hP
    obtain ⟨σ1, e2, h⟩ := k_bd h
    rw [k_sm e2] at hP
    refine lv_aload_n hx hb dX9_addRope_37 rfl (lv_at hl 0 rfl) ?_
    refine va_get (D := D) (ci := 9) (v := .ref (ad 16)) (C := RX9) (T := TX9) (N := 10) hx hb hts iX9_addRope_X9 hown hK hP 10 cw_10 rfl 5 (by decide) (hts (.fieldLink RX9 27 RX9 "roped" "[I") (by decide +kernel)) (fun _ h9 => h9) rfl dX9_addRope_38 ?_
    refine lv_iload_n hx hb dX9_addRope_41 rfl (lv_at hl 2 rfl) ?_
    refine lv_aload_n hx hb dX9_addRope_42 rfl (lv_at hl 0 rfl) ?_
    refine va_get (D := D) (ci := 9) (v := .ref (ad 16)) (C := RX9) (T := TX9) (N := 10) hx hb hts iX9_addRope_X9 hown hK hP 10 cw_10 rfl 5 (by decide) (hts (.fieldLink RX9 27 RX9 "roped" "[I") (by decide +kernel)) (fun _ h9 => h9) rfl dX9_addRope_43 ?_
    refine lv_iload_n hx hb dX9_addRope_46 rfl (lv_at hl 2 rfl) ?_
    refine rd_calli (va_runSN (As := [.ref (ad 16), .int x2]) (rest := [.int x2, .ref (ad 16)]) C0.1 (kX10_at l (ad 16) 6 (σ1 16) x2 (by decide)) (wX9_addRope_X10_at hts hN ⟨Nat.le_of_ble_eq_true rfl, Nat.le_of_ble_eq_true rfl⟩) ⟨PAt.blind, PAt.mk (cw_t16 hK hP)⟩ rfl rfl hl.1 rfl (lv_room (Nat.le_of_ble_eq_true rfl)) dX9_addRope_47 ⟨Nat.zero_le _, Nat.zero_le _⟩) ?_
    refine lv_iload_n hx hb dX9_addRope_50 rfl (lv_at hl 1 rfl) ?_
    refine rd_calli (va_runSN (As := [.int x1]) (rest := [.int (pX10_at (σ1 16) 6 x2), .int x2, .ref (ad 16)]) C0.1 (kX10_bit l x1) (wX9_addRope_X10_bit hts hN ⟨Nat.le_of_ble_eq_true rfl, Nat.le_of_ble_eq_true rfl⟩) ⟨PT.blind, fun _ _ _ => ⟨rfl, trivial⟩⟩ rfl rfl hl.1 rfl (lv_room (Nat.le_of_ble_eq_true rfl)) dX9_addRope_51 ⟨Nat.zero_le _, Nat.zero_le _⟩) ?_
    refine lv_ior hx hb dX9_addRope_54 ?_
    refine wr_callv (va_runSN (As := [.ref (ad 16), .int x2, .int ((pX10_at (σ1 16) 6 x2) ||| (pX10_bit x1))]) (rest := []) C0.1 (kX10_put l (cw_D hap) 16 cw_16 (by decide) x2 ((pX10_at (σ1 16) 6 x2) ||| (pX10_bit x1))) (wX9_addRope_X10_put hts hN ⟨Nat.le_of_ble_eq_true rfl, Nat.le_of_ble_eq_true rfl⟩) ⟨PW.blind, PW.mk hP hK hN⟩ rfl rfl hl.1 rfl (lv_room (Nat.le_of_ble_eq_true rfl)) dX9_addRope_55 ⟨Nat.zero_le _, Nat.zero_le _⟩) hS (fun _ h => h) (fun H locs hP hS => ?_)
    have hP := cw_s16 hP
    obtain ⟨σ3, e4, h⟩ := k_bd h
    rw [k_sm e4] at hP
    refine lv_aload_n hx hb dX9_addRope_58 rfl (lv_at hl 0 rfl) ?_
    refine lv_dup hx hb dX9_addRope_59 rfl ?_
    refine va_get (D := D) (ci := 9) (v := .int (σ3 10 9)) (C := RX9) (T := TX9) (N := 10) hx hb hts iX9_addRope_X9 hown hK hP 10 cw_10 rfl 9 (by decide) (hts (.fieldLink RX9 52 RX9 "ropes" "I") (by decide +kernel)) (fun _ h9 => h9) rfl dX9_addRope_60 ?_
    refine lv_iconst (v := 1) hx hb dX9_addRope_63 (by decide) ?_
    refine lv_iadd hx hb dX9_addRope_64 ?_
    refine va_put (D := D) (ci := 9) (v := .int ((σ3 10 9) + 1)) (ty := .int) (C := RX9) (T := TX9) (N := 10) hx hb hts iX9_addRope_X9 tyX9 tyX9_ok nmX9 hown hK hP (cw_D hap) hS 10 cw_10 rfl 9 (by decide) (hts (.fieldLink RX9 52 RX9 "ropes" "I") (by decide +kernel)) (fun _ h9 => h9) rfl (by decide +kernel) rfl rfl (Nat.le_of_ble_eq_true rfl) dX9_addRope_65 (fun H locs hP _ hS => ?_)
    have hP := cw_s10_9 hP
    obtain ⟨σ5, e6, h⟩ := k_bd h
    rw [k_sm e6] at hP
    obtain rfl := k_sm h
    exact W.vret hx hb hr (fun t ht hW => ⟨⟨_, rfl, rfl, pw_end ht hP⟩, hS.F ht⟩) hS.2.2 dX9_addRope_68
  · replace h := k_in c12 h
    obtain rfl := k_sm h
    exact W.vret hx hb hr (fun t ht hW => ⟨⟨_, rfl, rfl, pw_end ht hP⟩, hS.F ht⟩) hS.2.2 dX9_addRope_15
set_option maxHeartbeats 4000000 in
set_option maxRecDepth 100000 in
theorem kX5_becomes_20_9 (l : Launch) {D : va_G} {cI cB cZ : ClassId} {ad : Nat → Nat} {τ : Int64} (hap : cwX ad) (σ : Sg) (o : Sg) (h : pX5_becomes 20 9 σ = some o) : Met l yX5_becomes wsX5_becomes rmX5_becomes (va_Pc [.ref (ad 19), .ref (ad 8)] (PW D cI cB cZ (CW cI ad τ σ))) (QV D (CW cI ad τ) (cwA ad) o) 0 0 (cwA ad) := by
  refine Met.ofW (cc := cX5_becomes) (maxL := 2) (ret := none) (by decide) rfl ?_
  intro p e s m args below meth c s₁ B hml hv
  obtain ⟨rfl, hP, hK, hN⟩ := hv
  have C0 : Cx p s m _ meth c cX5_becomes 2 none RX5 wsX5_becomes := ⟨⟨B.exec, B.bytes, hml, findClass_of_methodNamed B.named, atoms_spec B.pre⟩, B.returns, B.notSynchronized⟩
  obtain ⟨⟨hx, hb, -, hown, hts⟩, hr, hlk⟩ := id C0
  have hS : va_S (cwA ad) s.heap s.heap [] := va_S.rf
  have hl := lv_entry ([.ref (ad 19), .ref (ad 8)]) (n := 2) (Nat.le_of_ble_eq_true rfl)
  rw [lg_entry_eq]
  generalize (lg_sl ([.ref (ad 19), .ref (ad 8)]) ++ List.replicate (2 - (lg_sl ([.ref (ad 19), .ref (ad 8)])).length) Slot.unset).toArray = ls at hl ⊢
  have hl : lv_has ls 2 [(0, .ref (ad 19)), (1, .ref (ad 8))] := hl
  rw [pX5_becomes] at h
  refine lv_aload_n hx hb dX5_becomes_0 rfl (lv_at hl 1 rfl) ?_
  refine va_get (D := D) (ci := 5) (v := .ref (ad 9)) (C := RX5) (T := TX5) (N := 1) hx hb hts iX5_becomes_X5 hown hK hP 8 cw_8 rfl 0 (by decide) (hts (.fieldLink RX5 11 RX5 "row" "[I") (by decide +kernel)) (fun _ h9 => h9) rfl dX5_becomes_1 ?_
  refine lv_iconst (v := 0) hx hb dX5_becomes_4 (by decide) ?_
  refine lv_aload_n hx hb dX5_becomes_5 rfl (lv_at hl 0 rfl) ?_
  refine va_get (D := D) (ci := 5) (v := .ref (ad 20)) (C := RX5) (T := TX5) (N := 1) hx hb hts iX5_becomes_X5 hown hK hP 19 cw_19 rfl 0 (by decide) (hts (.fieldLink RX5 11 RX5 "row" "[I") (by decide +kernel)) (fun _ h9 => h9) rfl dX5_becomes_6 ?_
  refine lv_iconst (v := 0) hx hb dX5_becomes_9 (by decide) ?_
  refine lv_bipush (v := 45) hx hb dX5_becomes_10 (by decide) ?_
  refine wr_callv (va_runSN (As := [.ref (ad 9), .int 0, .ref (ad 20), .int 0, .int 45]) (rest := []) C0.1 (kX10_copy l (cw_D hap) 9 20 cw_9 cw_20 (by decide) (by decide) 0 0 45) (wX5_becomes_X10_copy hts hN ⟨Nat.le_of_ble_eq_true rfl, Nat.le_of_ble_eq_true rfl⟩) ⟨PW.blind, PW.mk hP hK hN⟩ rfl rfl hl.1 rfl (lv_room (Nat.le_of_ble_eq_true rfl)) dX5_becomes_12 ⟨Nat.zero_le _, Nat.zero_le _⟩) hS (fun _ h => h) (fun H locs hP hS => ?_)
  have hP := cw_s20 hP
  obtain ⟨σ1, e2, h⟩ := k_bd h
  rw [k_sm e2] at hP
  obtain rfl := k_sm h
  exact W.vret hx hb hr (fun t ht hW => ⟨⟨_, rfl, rfl, pw_end ht hP⟩, hS.F ht⟩) hS.2.2 dX5_becomes_15
set_option maxHeartbeats 4000000 in
set_option maxRecDepth 100000 in
theorem kX5_becomes_9_18 (l : Launch) {D : va_G} {cI cB cZ : ClassId} {ad : Nat → Nat} {τ : Int64} (hap : cwX ad) (σ : Sg) (o : Sg) (h : pX5_becomes 9 18 σ = some o) : Met l yX5_becomes wsX5_becomes rmX5_becomes (va_Pc [.ref (ad 8), .ref (ad 17)] (PW D cI cB cZ (CW cI ad τ σ))) (QV D (CW cI ad τ) (cwA ad) o) 0 0 (cwA ad) := by
  refine Met.ofW (cc := cX5_becomes) (maxL := 2) (ret := none) (by decide) rfl ?_
  intro p e s m args below meth c s₁ B hml hv
  obtain ⟨rfl, hP, hK, hN⟩ := hv
  have C0 : Cx p s m _ meth c cX5_becomes 2 none RX5 wsX5_becomes := ⟨⟨B.exec, B.bytes, hml, findClass_of_methodNamed B.named, atoms_spec B.pre⟩, B.returns, B.notSynchronized⟩
  obtain ⟨⟨hx, hb, -, hown, hts⟩, hr, hlk⟩ := id C0
  have hS : va_S (cwA ad) s.heap s.heap [] := va_S.rf
  have hl := lv_entry ([.ref (ad 8), .ref (ad 17)]) (n := 2) (Nat.le_of_ble_eq_true rfl)
  rw [lg_entry_eq]
  generalize (lg_sl ([.ref (ad 8), .ref (ad 17)]) ++ List.replicate (2 - (lg_sl ([.ref (ad 8), .ref (ad 17)])).length) Slot.unset).toArray = ls at hl ⊢
  have hl : lv_has ls 2 [(0, .ref (ad 8)), (1, .ref (ad 17))] := hl
  rw [pX5_becomes] at h
  refine lv_aload_n hx hb dX5_becomes_0 rfl (lv_at hl 1 rfl) ?_
  refine va_get (D := D) (ci := 5) (v := .ref (ad 18)) (C := RX5) (T := TX5) (N := 1) hx hb hts iX5_becomes_X5 hown hK hP 17 cw_17 rfl 0 (by decide) (hts (.fieldLink RX5 11 RX5 "row" "[I") (by decide +kernel)) (fun _ h9 => h9) rfl dX5_becomes_1 ?_
  refine lv_iconst (v := 0) hx hb dX5_becomes_4 (by decide) ?_
  refine lv_aload_n hx hb dX5_becomes_5 rfl (lv_at hl 0 rfl) ?_
  refine va_get (D := D) (ci := 5) (v := .ref (ad 9)) (C := RX5) (T := TX5) (N := 1) hx hb hts iX5_becomes_X5 hown hK hP 8 cw_8 rfl 0 (by decide) (hts (.fieldLink RX5 11 RX5 "row" "[I") (by decide +kernel)) (fun _ h9 => h9) rfl dX5_becomes_6 ?_
  refine lv_iconst (v := 0) hx hb dX5_becomes_9 (by decide) ?_
  refine lv_bipush (v := 45) hx hb dX5_becomes_10 (by decide) ?_
  refine wr_callv (va_runSN (As := [.ref (ad 18), .int 0, .ref (ad 9), .int 0, .int 45]) (rest := []) C0.1 (kX10_copy l (cw_D hap) 18 9 cw_18 cw_9 (by decide) (by decide) 0 0 45) (wX5_becomes_X10_copy hts hN ⟨Nat.le_of_ble_eq_true rfl, Nat.le_of_ble_eq_true rfl⟩) ⟨PW.blind, PW.mk hP hK hN⟩ rfl rfl hl.1 rfl (lv_room (Nat.le_of_ble_eq_true rfl)) dX5_becomes_12 ⟨Nat.zero_le _, Nat.zero_le _⟩) hS (fun _ h => h) (fun H locs hP hS => ?_)
  have hP := cw_s9 hP
  obtain ⟨σ1, e2, h⟩ := k_bd h
  rw [k_sm e2] at hP
  obtain rfl := k_sm h
  exact W.vret hx hb hr (fun t ht hW => ⟨⟨_, rfl, rfl, pw_end ht hP⟩, hS.F ht⟩) hS.2.2 dX5_becomes_15
set_option maxHeartbeats 4000000 in
set_option maxRecDepth 100000 in
theorem kX5_becomes_37_20 (l : Launch) {D : va_G} {cI cB cZ : ClassId} {ad : Nat → Nat} {τ : Int64} (hap : cwX ad) (σ : Sg) (o : Sg) (h : pX5_becomes 37 20 σ = some o) : Met l yX5_becomes wsX5_becomes rmX5_becomes (va_Pc [.ref (ad 36), .ref (ad 19)] (PW D cI cB cZ (CW cI ad τ σ))) (QV D (CW cI ad τ) (cwA ad) o) 0 0 (cwA ad) := by
  refine Met.ofW (cc := cX5_becomes) (maxL := 2) (ret := none) (by decide) rfl ?_
  intro p e s m args below meth c s₁ B hml hv
  obtain ⟨rfl, hP, hK, hN⟩ := hv
  have C0 : Cx p s m _ meth c cX5_becomes 2 none RX5 wsX5_becomes := ⟨⟨B.exec, B.bytes, hml, findClass_of_methodNamed B.named, atoms_spec B.pre⟩, B.returns, B.notSynchronized⟩
  obtain ⟨⟨hx, hb, -, hown, hts⟩, hr, hlk⟩ := id C0
  have hS : va_S (cwA ad) s.heap s.heap [] := va_S.rf
  have hl := lv_entry ([.ref (ad 36), .ref (ad 19)]) (n := 2) (Nat.le_of_ble_eq_true rfl)
  rw [lg_entry_eq]
  generalize (lg_sl ([.ref (ad 36), .ref (ad 19)]) ++ List.replicate (2 - (lg_sl ([.ref (ad 36), .ref (ad 19)])).length) Slot.unset).toArray = ls at hl ⊢
  have hl : lv_has ls 2 [(0, .ref (ad 36)), (1, .ref (ad 19))] := hl
  rw [pX5_becomes] at h
  refine lv_aload_n hx hb dX5_becomes_0 rfl (lv_at hl 1 rfl) ?_
  refine va_get (D := D) (ci := 5) (v := .ref (ad 20)) (C := RX5) (T := TX5) (N := 1) hx hb hts iX5_becomes_X5 hown hK hP 19 cw_19 rfl 0 (by decide) (hts (.fieldLink RX5 11 RX5 "row" "[I") (by decide +kernel)) (fun _ h9 => h9) rfl dX5_becomes_1 ?_
  refine lv_iconst (v := 0) hx hb dX5_becomes_4 (by decide) ?_
  refine lv_aload_n hx hb dX5_becomes_5 rfl (lv_at hl 0 rfl) ?_
  refine va_get (D := D) (ci := 5) (v := .ref (ad 37)) (C := RX5) (T := TX5) (N := 1) hx hb hts iX5_becomes_X5 hown hK hP 36 cw_36 rfl 0 (by decide) (hts (.fieldLink RX5 11 RX5 "row" "[I") (by decide +kernel)) (fun _ h9 => h9) rfl dX5_becomes_6 ?_
  refine lv_iconst (v := 0) hx hb dX5_becomes_9 (by decide) ?_
  refine lv_bipush (v := 45) hx hb dX5_becomes_10 (by decide) ?_
  refine wr_callv (va_runSN (As := [.ref (ad 20), .int 0, .ref (ad 37), .int 0, .int 45]) (rest := []) C0.1 (kX10_copy l (cw_D hap) 20 37 cw_20 cw_37 (by decide) (by decide) 0 0 45) (wX5_becomes_X10_copy hts hN ⟨Nat.le_of_ble_eq_true rfl, Nat.le_of_ble_eq_true rfl⟩) ⟨PW.blind, PW.mk hP hK hN⟩ rfl rfl hl.1 rfl (lv_room (Nat.le_of_ble_eq_true rfl)) dX5_becomes_12 ⟨Nat.zero_le _, Nat.zero_le _⟩) hS (fun _ h => h) (fun H locs hP hS => ?_)
  have hP := cw_s37 hP
  obtain ⟨σ1, e2, h⟩ := k_bd h
  rw [k_sm e2] at hP
  obtain rfl := k_sm h
  exact W.vret hx hb hr (fun t ht hW => ⟨⟨_, rfl, rfl, pw_end ht hP⟩, hS.F ht⟩) hS.2.2 dX5_becomes_15
set_option maxHeartbeats 4000000 in
set_option maxRecDepth 100000 in
theorem kX5_becomes_25_20 (l : Launch) {D : va_G} {cI cB cZ : ClassId} {ad : Nat → Nat} {τ : Int64} (hap : cwX ad) (σ : Sg) (o : Sg) (h : pX5_becomes 25 20 σ = some o) : Met l yX5_becomes wsX5_becomes rmX5_becomes (va_Pc [.ref (ad 24), .ref (ad 19)] (PW D cI cB cZ (CW cI ad τ σ))) (QV D (CW cI ad τ) (cwA ad) o) 0 0 (cwA ad) := by
  refine Met.ofW (cc := cX5_becomes) (maxL := 2) (ret := none) (by decide) rfl ?_
  intro p e s m args below meth c s₁ B hml hv
  obtain ⟨rfl, hP, hK, hN⟩ := hv
  have C0 : Cx p s m _ meth c cX5_becomes 2 none RX5 wsX5_becomes := ⟨⟨B.exec, B.bytes, hml, findClass_of_methodNamed B.named, atoms_spec B.pre⟩, B.returns, B.notSynchronized⟩
  obtain ⟨⟨hx, hb, -, hown, hts⟩, hr, hlk⟩ := id C0
  have hS : va_S (cwA ad) s.heap s.heap [] := va_S.rf
  have hl := lv_entry ([.ref (ad 24), .ref (ad 19)]) (n := 2) (Nat.le_of_ble_eq_true rfl)
  rw [lg_entry_eq]
  generalize (lg_sl ([.ref (ad 24), .ref (ad 19)]) ++ List.replicate (2 - (lg_sl ([.ref (ad 24), .ref (ad 19)])).length) Slot.unset).toArray = ls at hl ⊢
  have hl : lv_has ls 2 [(0, .ref (ad 24)), (1, .ref (ad 19))] := hl
  rw [pX5_becomes] at h
  refine lv_aload_n hx hb dX5_becomes_0 rfl (lv_at hl 1 rfl) ?_
  refine va_get (D := D) (ci := 5) (v := .ref (ad 20)) (C := RX5) (T := TX5) (N := 1) hx hb hts iX5_becomes_X5 hown hK hP 19 cw_19 rfl 0 (by decide) (hts (.fieldLink RX5 11 RX5 "row" "[I") (by decide +kernel)) (fun _ h9 => h9) rfl dX5_becomes_1 ?_
  refine lv_iconst (v := 0) hx hb dX5_becomes_4 (by decide) ?_
  refine lv_aload_n hx hb dX5_becomes_5 rfl (lv_at hl 0 rfl) ?_
  refine va_get (D := D) (ci := 5) (v := .ref (ad 25)) (C := RX5) (T := TX5) (N := 1) hx hb hts iX5_becomes_X5 hown hK hP 24 cw_24 rfl 0 (by decide) (hts (.fieldLink RX5 11 RX5 "row" "[I") (by decide +kernel)) (fun _ h9 => h9) rfl dX5_becomes_6 ?_
  refine lv_iconst (v := 0) hx hb dX5_becomes_9 (by decide) ?_
  refine lv_bipush (v := 45) hx hb dX5_becomes_10 (by decide) ?_
  refine wr_callv (va_runSN (As := [.ref (ad 20), .int 0, .ref (ad 25), .int 0, .int 45]) (rest := []) C0.1 (kX10_copy l (cw_D hap) 20 25 cw_20 cw_25 (by decide) (by decide) 0 0 45) (wX5_becomes_X10_copy hts hN ⟨Nat.le_of_ble_eq_true rfl, Nat.le_of_ble_eq_true rfl⟩) ⟨PW.blind, PW.mk hP hK hN⟩ rfl rfl hl.1 rfl (lv_room (Nat.le_of_ble_eq_true rfl)) dX5_becomes_12 ⟨Nat.zero_le _, Nat.zero_le _⟩) hS (fun _ h => h) (fun H locs hP hS => ?_)
  have hP := cw_s25 hP
  obtain ⟨σ1, e2, h⟩ := k_bd h
  rw [k_sm e2] at hP
  obtain rfl := k_sm h
  exact W.vret hx hb hr (fun t ht hW => ⟨⟨_, rfl, rfl, pw_end ht hP⟩, hS.F ht⟩) hS.2.2 dX5_becomes_15
set_option maxHeartbeats 4000000 in
set_option maxRecDepth 100000 in
theorem kX5_becomes_30_20 (l : Launch) {D : va_G} {cI cB cZ : ClassId} {ad : Nat → Nat} {τ : Int64} (hap : cwX ad) (σ : Sg) (o : Sg) (h : pX5_becomes 30 20 σ = some o) : Met l yX5_becomes wsX5_becomes rmX5_becomes (va_Pc [.ref (ad 29), .ref (ad 19)] (PW D cI cB cZ (CW cI ad τ σ))) (QV D (CW cI ad τ) (cwA ad) o) 0 0 (cwA ad) := by
  refine Met.ofW (cc := cX5_becomes) (maxL := 2) (ret := none) (by decide) rfl ?_
  intro p e s m args below meth c s₁ B hml hv
  obtain ⟨rfl, hP, hK, hN⟩ := hv
  have C0 : Cx p s m _ meth c cX5_becomes 2 none RX5 wsX5_becomes := ⟨⟨B.exec, B.bytes, hml, findClass_of_methodNamed B.named, atoms_spec B.pre⟩, B.returns, B.notSynchronized⟩
  obtain ⟨⟨hx, hb, -, hown, hts⟩, hr, hlk⟩ := id C0
  have hS : va_S (cwA ad) s.heap s.heap [] := va_S.rf
  have hl := lv_entry ([.ref (ad 29), .ref (ad 19)]) (n := 2) (Nat.le_of_ble_eq_true rfl)
  rw [lg_entry_eq]
  generalize (lg_sl ([.ref (ad 29), .ref (ad 19)]) ++ List.replicate (2 - (lg_sl ([.ref (ad 29), .ref (ad 19)])).length) Slot.unset).toArray = ls at hl ⊢
  have hl : lv_has ls 2 [(0, .ref (ad 29)), (1, .ref (ad 19))] := hl
  rw [pX5_becomes] at h
  refine lv_aload_n hx hb dX5_becomes_0 rfl (lv_at hl 1 rfl) ?_
  refine va_get (D := D) (ci := 5) (v := .ref (ad 20)) (C := RX5) (T := TX5) (N := 1) hx hb hts iX5_becomes_X5 hown hK hP 19 cw_19 rfl 0 (by decide) (hts (.fieldLink RX5 11 RX5 "row" "[I") (by decide +kernel)) (fun _ h9 => h9) rfl dX5_becomes_1 ?_
  refine lv_iconst (v := 0) hx hb dX5_becomes_4 (by decide) ?_
  refine lv_aload_n hx hb dX5_becomes_5 rfl (lv_at hl 0 rfl) ?_
  refine va_get (D := D) (ci := 5) (v := .ref (ad 30)) (C := RX5) (T := TX5) (N := 1) hx hb hts iX5_becomes_X5 hown hK hP 29 cw_29 rfl 0 (by decide) (hts (.fieldLink RX5 11 RX5 "row" "[I") (by decide +kernel)) (fun _ h9 => h9) rfl dX5_becomes_6 ?_
  refine lv_iconst (v := 0) hx hb dX5_becomes_9 (by decide) ?_
  refine lv_bipush (v := 45) hx hb dX5_becomes_10 (by decide) ?_
  refine wr_callv (va_runSN (As := [.ref (ad 20), .int 0, .ref (ad 30), .int 0, .int 45]) (rest := []) C0.1 (kX10_copy l (cw_D hap) 20 30 cw_20 cw_30 (by decide) (by decide) 0 0 45) (wX5_becomes_X10_copy hts hN ⟨Nat.le_of_ble_eq_true rfl, Nat.le_of_ble_eq_true rfl⟩) ⟨PW.blind, PW.mk hP hK hN⟩ rfl rfl hl.1 rfl (lv_room (Nat.le_of_ble_eq_true rfl)) dX5_becomes_12 ⟨Nat.zero_le _, Nat.zero_le _⟩) hS (fun _ h => h) (fun H locs hP hS => ?_)
  have hP := cw_s30 hP
  obtain ⟨σ1, e2, h⟩ := k_bd h
  rw [k_sm e2] at hP
  obtain rfl := k_sm h
  exact W.vret hx hb hr (fun t ht hW => ⟨⟨_, rfl, rfl, pw_end ht hP⟩, hS.F ht⟩) hS.2.2 dX5_becomes_15
set_option maxHeartbeats 4000000 in
set_option maxRecDepth 100000 in
theorem kX5_becomes_20_25 (l : Launch) {D : va_G} {cI cB cZ : ClassId} {ad : Nat → Nat} {τ : Int64} (hap : cwX ad) (σ : Sg) (o : Sg) (h : pX5_becomes 20 25 σ = some o) : Met l yX5_becomes wsX5_becomes rmX5_becomes (va_Pc [.ref (ad 19), .ref (ad 24)] (PW D cI cB cZ (CW cI ad τ σ))) (QV D (CW cI ad τ) (cwA ad) o) 0 0 (cwA ad) := by
  refine Met.ofW (cc := cX5_becomes) (maxL := 2) (ret := none) (by decide) rfl ?_
  intro p e s m args below meth c s₁ B hml hv
  obtain ⟨rfl, hP, hK, hN⟩ := hv
  have C0 : Cx p s m _ meth c cX5_becomes 2 none RX5 wsX5_becomes := ⟨⟨B.exec, B.bytes, hml, findClass_of_methodNamed B.named, atoms_spec B.pre⟩, B.returns, B.notSynchronized⟩
  obtain ⟨⟨hx, hb, -, hown, hts⟩, hr, hlk⟩ := id C0
  have hS : va_S (cwA ad) s.heap s.heap [] := va_S.rf
  have hl := lv_entry ([.ref (ad 19), .ref (ad 24)]) (n := 2) (Nat.le_of_ble_eq_true rfl)
  rw [lg_entry_eq]
  generalize (lg_sl ([.ref (ad 19), .ref (ad 24)]) ++ List.replicate (2 - (lg_sl ([.ref (ad 19), .ref (ad 24)])).length) Slot.unset).toArray = ls at hl ⊢
  have hl : lv_has ls 2 [(0, .ref (ad 19)), (1, .ref (ad 24))] := hl
  rw [pX5_becomes] at h
  refine lv_aload_n hx hb dX5_becomes_0 rfl (lv_at hl 1 rfl) ?_
  refine va_get (D := D) (ci := 5) (v := .ref (ad 25)) (C := RX5) (T := TX5) (N := 1) hx hb hts iX5_becomes_X5 hown hK hP 24 cw_24 rfl 0 (by decide) (hts (.fieldLink RX5 11 RX5 "row" "[I") (by decide +kernel)) (fun _ h9 => h9) rfl dX5_becomes_1 ?_
  refine lv_iconst (v := 0) hx hb dX5_becomes_4 (by decide) ?_
  refine lv_aload_n hx hb dX5_becomes_5 rfl (lv_at hl 0 rfl) ?_
  refine va_get (D := D) (ci := 5) (v := .ref (ad 20)) (C := RX5) (T := TX5) (N := 1) hx hb hts iX5_becomes_X5 hown hK hP 19 cw_19 rfl 0 (by decide) (hts (.fieldLink RX5 11 RX5 "row" "[I") (by decide +kernel)) (fun _ h9 => h9) rfl dX5_becomes_6 ?_
  refine lv_iconst (v := 0) hx hb dX5_becomes_9 (by decide) ?_
  refine lv_bipush (v := 45) hx hb dX5_becomes_10 (by decide) ?_
  refine wr_callv (va_runSN (As := [.ref (ad 25), .int 0, .ref (ad 20), .int 0, .int 45]) (rest := []) C0.1 (kX10_copy l (cw_D hap) 25 20 cw_25 cw_20 (by decide) (by decide) 0 0 45) (wX5_becomes_X10_copy hts hN ⟨Nat.le_of_ble_eq_true rfl, Nat.le_of_ble_eq_true rfl⟩) ⟨PW.blind, PW.mk hP hK hN⟩ rfl rfl hl.1 rfl (lv_room (Nat.le_of_ble_eq_true rfl)) dX5_becomes_12 ⟨Nat.zero_le _, Nat.zero_le _⟩) hS (fun _ h => h) (fun H locs hP hS => ?_)
  have hP := cw_s20 hP
  obtain ⟨σ1, e2, h⟩ := k_bd h
  rw [k_sm e2] at hP
  obtain rfl := k_sm h
  exact W.vret hx hb hr (fun t ht hW => ⟨⟨_, rfl, rfl, pw_end ht hP⟩, hS.F ht⟩) hS.2.2 dX5_becomes_15
set_option maxHeartbeats 4000000 in
set_option maxRecDepth 100000 in
theorem kX5_becomes_20_30 (l : Launch) {D : va_G} {cI cB cZ : ClassId} {ad : Nat → Nat} {τ : Int64} (hap : cwX ad) (σ : Sg) (o : Sg) (h : pX5_becomes 20 30 σ = some o) : Met l yX5_becomes wsX5_becomes rmX5_becomes (va_Pc [.ref (ad 19), .ref (ad 29)] (PW D cI cB cZ (CW cI ad τ σ))) (QV D (CW cI ad τ) (cwA ad) o) 0 0 (cwA ad) := by
  refine Met.ofW (cc := cX5_becomes) (maxL := 2) (ret := none) (by decide) rfl ?_
  intro p e s m args below meth c s₁ B hml hv
  obtain ⟨rfl, hP, hK, hN⟩ := hv
  have C0 : Cx p s m _ meth c cX5_becomes 2 none RX5 wsX5_becomes := ⟨⟨B.exec, B.bytes, hml, findClass_of_methodNamed B.named, atoms_spec B.pre⟩, B.returns, B.notSynchronized⟩
  obtain ⟨⟨hx, hb, -, hown, hts⟩, hr, hlk⟩ := id C0
  have hS : va_S (cwA ad) s.heap s.heap [] := va_S.rf
  have hl := lv_entry ([.ref (ad 19), .ref (ad 29)]) (n := 2) (Nat.le_of_ble_eq_true rfl)
  rw [lg_entry_eq]
  generalize (lg_sl ([.ref (ad 19), .ref (ad 29)]) ++ List.replicate (2 - (lg_sl ([.ref (ad 19), .ref (ad 29)])).length) Slot.unset).toArray = ls at hl ⊢
  have hl : lv_has ls 2 [(0, .ref (ad 19)), (1, .ref (ad 29))] := hl
  rw [pX5_becomes] at h
  refine lv_aload_n hx hb dX5_becomes_0 rfl (lv_at hl 1 rfl) ?_
  refine va_get (D := D) (ci := 5) (v := .ref (ad 30)) (C := RX5) (T := TX5) (N := 1) hx hb hts iX5_becomes_X5 hown hK hP 29 cw_29 rfl 0 (by decide) (hts (.fieldLink RX5 11 RX5 "row" "[I") (by decide +kernel)) (fun _ h9 => h9) rfl dX5_becomes_1 ?_
  refine lv_iconst (v := 0) hx hb dX5_becomes_4 (by decide) ?_
  refine lv_aload_n hx hb dX5_becomes_5 rfl (lv_at hl 0 rfl) ?_
  refine va_get (D := D) (ci := 5) (v := .ref (ad 20)) (C := RX5) (T := TX5) (N := 1) hx hb hts iX5_becomes_X5 hown hK hP 19 cw_19 rfl 0 (by decide) (hts (.fieldLink RX5 11 RX5 "row" "[I") (by decide +kernel)) (fun _ h9 => h9) rfl dX5_becomes_6 ?_
  refine lv_iconst (v := 0) hx hb dX5_becomes_9 (by decide) ?_
  refine lv_bipush (v := 45) hx hb dX5_becomes_10 (by decide) ?_
  refine wr_callv (va_runSN (As := [.ref (ad 30), .int 0, .ref (ad 20), .int 0, .int 45]) (rest := []) C0.1 (kX10_copy l (cw_D hap) 30 20 cw_30 cw_20 (by decide) (by decide) 0 0 45) (wX5_becomes_X10_copy hts hN ⟨Nat.le_of_ble_eq_true rfl, Nat.le_of_ble_eq_true rfl⟩) ⟨PW.blind, PW.mk hP hK hN⟩ rfl rfl hl.1 rfl (lv_room (Nat.le_of_ble_eq_true rfl)) dX5_becomes_12 ⟨Nat.zero_le _, Nat.zero_le _⟩) hS (fun _ h => h) (fun H locs hP hS => ?_)
  have hP := cw_s20 hP
  obtain ⟨σ1, e2, h⟩ := k_bd h
  rw [k_sm e2] at hP
  obtain rfl := k_sm h
  exact W.vret hx hb hr (fun t ht hW => ⟨⟨_, rfl, rfl, pw_end ht hP⟩, hS.F ht⟩) hS.2.2 dX5_becomes_15
set_option maxHeartbeats 4000000 in
set_option maxRecDepth 100000 in
theorem kX9_becomes (l : Launch) {D : va_G} {cI cB cZ : ClassId} {ad : Nat → Nat} {τ : Int64} (hap : cwX ad) (σ : Sg) (o : Sg) (h : pX9_becomes σ = some o) : Met l yX9_becomes wsX9_becomes rmX9_becomes (va_Pc [.ref (ad 1), .ref (ad 10)] (PW D cI cB cZ (CW cI ad τ σ))) (QV D (CW cI ad τ) (cwA ad) o) 0 0 (cwA ad) := by
  refine Met.ofW (cc := cX9_becomes) (maxL := 2) (ret := none) (by decide) rfl ?_
  intro p e s m args below meth c s₁ B hml hv
  obtain ⟨rfl, hP, hK, hN⟩ := hv
  have C0 : Cx p s m _ meth c cX9_becomes 2 none RX9 wsX9_becomes := ⟨⟨B.exec, B.bytes, hml, findClass_of_methodNamed B.named, atoms_spec B.pre⟩, B.returns, B.notSynchronized⟩
  obtain ⟨⟨hx, hb, -, hown, hts⟩, hr, hlk⟩ := id C0
  have hS : va_S (cwA ad) s.heap s.heap [] := va_S.rf
  have hl := lv_entry ([.ref (ad 1), .ref (ad 10)]) (n := 2) (Nat.le_of_ble_eq_true rfl)
  rw [lg_entry_eq]
  generalize (lg_sl ([.ref (ad 1), .ref (ad 10)]) ++ List.replicate (2 - (lg_sl ([.ref (ad 1), .ref (ad 10)])).length) Slot.unset).toArray = ls at hl ⊢
  have hl : lv_has ls 2 [(0, .ref (ad 1)), (1, .ref (ad 10))] := hl
  rw [pX9_becomes] at h
  refine lv_aload_n hx hb dX9_becomes_0 rfl (lv_at hl 1 rfl) ?_
  refine va_get (D := D) (ci := 9) (v := .ref (ad 11)) (C := RX9) (T := TX9) (N := 10) hx hb hts iX9_becomes_X9 hown hK hP 10 cw_10 rfl 0 (by decide) (hts (.fieldLink RX9 9 RX9 "deep" "[I") (by decide +kernel)) (fun _ h9 => h9) rfl dX9_becomes_1 ?_
  refine lv_iconst (v := 0) hx hb dX9_becomes_4 (by decide) ?_
  refine lv_aload_n hx hb dX9_becomes_5 rfl (lv_at hl 0 rfl) ?_
  refine va_get (D := D) (ci := 9) (v := .ref (ad 2)) (C := RX9) (T := TX9) (N := 10) hx hb hts iX9_becomes_X9 hown hK hP 1 cw_1 rfl 0 (by decide) (hts (.fieldLink RX9 9 RX9 "deep" "[I") (by decide +kernel)) (fun _ h9 => h9) rfl dX9_becomes_6 ?_
  refine lv_iconst (v := 0) hx hb dX9_becomes_9 (by decide) ?_
  refine lv_bipush (v := 10) hx hb dX9_becomes_10 (by decide) ?_
  refine wr_callv (va_runSN (As := [.ref (ad 11), .int 0, .ref (ad 2), .int 0, .int 10]) (rest := []) C0.1 (kX10_copy l (cw_D hap) 11 2 cw_11 cw_2 (by decide) (by decide) 0 0 10) (wX9_becomes_X10_copy hts hN ⟨Nat.le_of_ble_eq_true rfl, Nat.le_of_ble_eq_true rfl⟩) ⟨PW.blind, PW.mk hP hK hN⟩ rfl rfl hl.1 rfl (lv_room (Nat.le_of_ble_eq_true rfl)) dX9_becomes_12 ⟨Nat.zero_le _, Nat.zero_le _⟩) hS (fun _ h => h) (fun H locs hP hS => ?_)
  have hP := cw_s2 hP
  obtain ⟨σ1, e2, h⟩ := k_bd h
  rw [k_sm e2] at hP
  refine lv_aload_n hx hb dX9_becomes_15 rfl (lv_at hl 1 rfl) ?_
  refine va_get (D := D) (ci := 9) (v := .ref (ad 12)) (C := RX9) (T := TX9) (N := 10) hx hb hts iX9_becomes_X9 hown hK hP 10 cw_10 rfl 1 (by decide) (hts (.fieldLink RX9 15 RX9 "grip" "[I") (by decide +kernel)) (fun _ h9 => h9) rfl dX9_becomes_16 ?_
  refine lv_iconst (v := 0) hx hb dX9_becomes_19 (by decide) ?_
  refine lv_aload_n hx hb dX9_becomes_20 rfl (lv_at hl 0 rfl) ?_
  refine va_get (D := D) (ci := 9) (v := .ref (ad 3)) (C := RX9) (T := TX9) (N := 10) hx hb hts iX9_becomes_X9 hown hK hP 1 cw_1 rfl 1 (by decide) (hts (.fieldLink RX9 15 RX9 "grip" "[I") (by decide +kernel)) (fun _ h9 => h9) rfl dX9_becomes_21 ?_
  refine lv_iconst (v := 0) hx hb dX9_becomes_24 (by decide) ?_
  refine lv_bipush (v := 10) hx hb dX9_becomes_25 (by decide) ?_
  refine wr_callv (va_runSN (As := [.ref (ad 12), .int 0, .ref (ad 3), .int 0, .int 10]) (rest := []) C0.1 (kX10_copy l (cw_D hap) 12 3 cw_12 cw_3 (by decide) (by decide) 0 0 10) (wX9_becomes_X10_copy hts hN ⟨Nat.le_of_ble_eq_true rfl, Nat.le_of_ble_eq_true rfl⟩) ⟨PW.blind, PW.mk hP hK hN⟩ rfl rfl hl.1 rfl (lv_room (Nat.le_of_ble_eq_true rfl)) dX9_becomes_27 ⟨Nat.zero_le _, Nat.zero_le _⟩) hS (fun _ h => h) (fun H locs hP hS => ?_)
  have hP := cw_s3 hP
  obtain ⟨σ3, e4, h⟩ := k_bd h
  rw [k_sm e4] at hP
  refine lv_aload_n hx hb dX9_becomes_30 rfl (lv_at hl 1 rfl) ?_
  refine va_get (D := D) (ci := 9) (v := .ref (ad 13)) (C := RX9) (T := TX9) (N := 10) hx hb hts iX9_becomes_X9 hown hK hP 10 cw_10 rfl 2 (by decide) (hts (.fieldLink RX9 18 RX9 "owner" "[I") (by decide +kernel)) (fun _ h9 => h9) rfl dX9_becomes_31 ?_
  refine lv_iconst (v := 0) hx hb dX9_becomes_34 (by decide) ?_
  refine lv_aload_n hx hb dX9_becomes_35 rfl (lv_at hl 0 rfl) ?_
  refine va_get (D := D) (ci := 9) (v := .ref (ad 4)) (C := RX9) (T := TX9) (N := 10) hx hb hts iX9_becomes_X9 hown hK hP 1 cw_1 rfl 2 (by decide) (hts (.fieldLink RX9 18 RX9 "owner" "[I") (by decide +kernel)) (fun _ h9 => h9) rfl dX9_becomes_36 ?_
  refine lv_iconst (v := 0) hx hb dX9_becomes_39 (by decide) ?_
  refine lv_bipush (v := 8) hx hb dX9_becomes_40 (by decide) ?_
  refine wr_callv (va_runSN (As := [.ref (ad 13), .int 0, .ref (ad 4), .int 0, .int 8]) (rest := []) C0.1 (kX10_copy l (cw_D hap) 13 4 cw_13 cw_4 (by decide) (by decide) 0 0 8) (wX9_becomes_X10_copy hts hN ⟨Nat.le_of_ble_eq_true rfl, Nat.le_of_ble_eq_true rfl⟩) ⟨PW.blind, PW.mk hP hK hN⟩ rfl rfl hl.1 rfl (lv_room (Nat.le_of_ble_eq_true rfl)) dX9_becomes_42 ⟨Nat.zero_le _, Nat.zero_le _⟩) hS (fun _ h => h) (fun H locs hP hS => ?_)
  have hP := cw_s4 hP
  obtain ⟨σ5, e6, h⟩ := k_bd h
  rw [k_sm e6] at hP
  refine lv_aload_n hx hb dX9_becomes_45 rfl (lv_at hl 1 rfl) ?_
  refine va_get (D := D) (ci := 9) (v := .ref (ad 14)) (C := RX9) (T := TX9) (N := 10) hx hb hts iX9_becomes_X9 hown hK hP 10 cw_10 rfl 3 (by decide) (hts (.fieldLink RX9 21 RX9 "weight" "[I") (by decide +kernel)) (fun _ h9 => h9) rfl dX9_becomes_46 ?_
  refine lv_iconst (v := 0) hx hb dX9_becomes_49 (by decide) ?_
  refine lv_aload_n hx hb dX9_becomes_50 rfl (lv_at hl 0 rfl) ?_
  refine va_get (D := D) (ci := 9) (v := .ref (ad 5)) (C := RX9) (T := TX9) (N := 10) hx hb hts iX9_becomes_X9 hown hK hP 1 cw_1 rfl 3 (by decide) (hts (.fieldLink RX9 21 RX9 "weight" "[I") (by decide +kernel)) (fun _ h9 => h9) rfl dX9_becomes_51 ?_
  refine lv_iconst (v := 0) hx hb dX9_becomes_54 (by decide) ?_
  refine lv_bipush (v := 8) hx hb dX9_becomes_55 (by decide) ?_
  refine wr_callv (va_runSN (As := [.ref (ad 14), .int 0, .ref (ad 5), .int 0, .int 8]) (rest := []) C0.1 (kX10_copy l (cw_D hap) 14 5 cw_14 cw_5 (by decide) (by decide) 0 0 8) (wX9_becomes_X10_copy hts hN ⟨Nat.le_of_ble_eq_true rfl, Nat.le_of_ble_eq_true rfl⟩) ⟨PW.blind, PW.mk hP hK hN⟩ rfl rfl hl.1 rfl (lv_room (Nat.le_of_ble_eq_true rfl)) dX9_becomes_57 ⟨Nat.zero_le _, Nat.zero_le _⟩) hS (fun _ h => h) (fun H locs hP hS => ?_)
  have hP := cw_s5 hP
  obtain ⟨σ7, e8, h⟩ := k_bd h
  rw [k_sm e8] at hP
  refine lv_aload_n hx hb dX9_becomes_60 rfl (lv_at hl 1 rfl) ?_
  refine va_get (D := D) (ci := 9) (v := .ref (ad 15)) (C := RX9) (T := TX9) (N := 10) hx hb hts iX9_becomes_X9 hown hK hP 10 cw_10 rfl 4 (by decide) (hts (.fieldLink RX9 24 RX9 "worth" "[I") (by decide +kernel)) (fun _ h9 => h9) rfl dX9_becomes_61 ?_
  refine lv_iconst (v := 0) hx hb dX9_becomes_64 (by decide) ?_
  refine lv_aload_n hx hb dX9_becomes_65 rfl (lv_at hl 0 rfl) ?_
  refine va_get (D := D) (ci := 9) (v := .ref (ad 6)) (C := RX9) (T := TX9) (N := 10) hx hb hts iX9_becomes_X9 hown hK hP 1 cw_1 rfl 4 (by decide) (hts (.fieldLink RX9 24 RX9 "worth" "[I") (by decide +kernel)) (fun _ h9 => h9) rfl dX9_becomes_66 ?_
  refine lv_iconst (v := 0) hx hb dX9_becomes_69 (by decide) ?_
  refine lv_bipush (v := 8) hx hb dX9_becomes_70 (by decide) ?_
  refine wr_callv (va_runSN (As := [.ref (ad 15), .int 0, .ref (ad 6), .int 0, .int 8]) (rest := []) C0.1 (kX10_copy l (cw_D hap) 15 6 cw_15 cw_6 (by decide) (by decide) 0 0 8) (wX9_becomes_X10_copy hts hN ⟨Nat.le_of_ble_eq_true rfl, Nat.le_of_ble_eq_true rfl⟩) ⟨PW.blind, PW.mk hP hK hN⟩ rfl rfl hl.1 rfl (lv_room (Nat.le_of_ble_eq_true rfl)) dX9_becomes_72 ⟨Nat.zero_le _, Nat.zero_le _⟩) hS (fun _ h => h) (fun H locs hP hS => ?_)
  have hP := cw_s6 hP
  obtain ⟨σ9, e10, h⟩ := k_bd h
  rw [k_sm e10] at hP
  refine lv_aload_n hx hb dX9_becomes_75 rfl (lv_at hl 1 rfl) ?_
  refine va_get (D := D) (ci := 9) (v := .ref (ad 16)) (C := RX9) (T := TX9) (N := 10) hx hb hts iX9_becomes_X9 hown hK hP 10 cw_10 rfl 5 (by decide) (hts (.fieldLink RX9 27 RX9 "roped" "[I") (by decide +kernel)) (fun _ h9 => h9) rfl dX9_becomes_76 ?_
  refine lv_iconst (v := 0) hx hb dX9_becomes_79 (by decide) ?_
  refine lv_aload_n hx hb dX9_becomes_80 rfl (lv_at hl 0 rfl) ?_
  refine va_get (D := D) (ci := 9) (v := .ref (ad 7)) (C := RX9) (T := TX9) (N := 10) hx hb hts iX9_becomes_X9 hown hK hP 1 cw_1 rfl 5 (by decide) (hts (.fieldLink RX9 27 RX9 "roped" "[I") (by decide +kernel)) (fun _ h9 => h9) rfl dX9_becomes_81 ?_
  refine lv_iconst (v := 0) hx hb dX9_becomes_84 (by decide) ?_
  refine lv_bipush (v := 6) hx hb dX9_becomes_85 (by decide) ?_
  refine wr_callv (va_runSN (As := [.ref (ad 16), .int 0, .ref (ad 7), .int 0, .int 6]) (rest := []) C0.1 (kX10_copy l (cw_D hap) 16 7 cw_16 cw_7 (by decide) (by decide) 0 0 6) (wX9_becomes_X10_copy hts hN ⟨Nat.le_of_ble_eq_true rfl, Nat.le_of_ble_eq_true rfl⟩) ⟨PW.blind, PW.mk hP hK hN⟩ rfl rfl hl.1 rfl (lv_room (Nat.le_of_ble_eq_true rfl)) dX9_becomes_87 ⟨Nat.zero_le _, Nat.zero_le _⟩) hS (fun _ h => h) (fun H locs hP hS => ?_)
  have hP := cw_s7 hP
  obtain ⟨σ11, e12, h⟩ := k_bd h
  rw [k_sm e12] at hP
  refine lv_aload_n hx hb dX9_becomes_90 rfl (lv_at hl 0 rfl) ?_
  refine va_get (D := D) (ci := 9) (v := .ref (ad 8)) (C := RX9) (T := TX9) (N := 10) hx hb hts iX9_becomes_X9 hown hK hP 1 cw_1 rfl 6 (by decide) (hts (.fieldLink RX9 33 RX9 "first" "LAnchorWills$Now;") (by decide +kernel)) (fun _ h9 => h9) rfl dX9_becomes_91 ?_
  refine lv_aload_n hx hb dX9_becomes_94 rfl (lv_at hl 1 rfl) ?_
  refine va_get (D := D) (ci := 9) (v := .ref (ad 17)) (C := RX9) (T := TX9) (N := 10) hx hb hts iX9_becomes_X9 hown hK hP 10 cw_10 rfl 6 (by decide) (hts (.fieldLink RX9 33 RX9 "first" "LAnchorWills$Now;") (by decide +kernel)) (fun _ h9 => h9) rfl dX9_becomes_95 ?_
  obtain ⟨u13, e14, h⟩ := k_bd h
  refine wr_callv (va_runVN (As := [.ref (ad 17)]) (rest := []) C0.1 (kX5_becomes_9_18 l (D := D) (cI := cI) (cB := cB) (cZ := cZ) (τ := τ) hap σ11  _ e14) (wX9_becomes_X5_becomes hts hN ⟨Nat.le_of_ble_eq_true rfl, Nat.le_of_ble_eq_true rfl⟩) ⟨PW.blind, cw_r8 hK hP, PW.mk hP hK hN⟩ rfl rfl hl.1 rfl (lv_room (Nat.le_of_ble_eq_true rfl)) dX9_becomes_98 ⟨Nat.zero_le _, Nat.zero_le _⟩) hS (fun _ h => h) (fun H locs hP hS => ?_)
  have hP : va_P D vwCl (CW cI ad τ u13) H := hP
  refine lv_aload_n hx hb dX9_becomes_101 rfl (lv_at hl 0 rfl) ?_
  refine lv_aload_n hx hb dX9_becomes_102 rfl (lv_at hl 1 rfl) ?_
  refine va_get (D := D) (ci := 9) (v := .int (u13 10 7)) (C := RX9) (T := TX9) (N := 10) hx hb hts iX9_becomes_X9 hown hK hP 10 cw_10 rfl 7 (by decide) (hts (.fieldLink RX9 45 RX9 "rafts" "I") (by decide +kernel)) (fun _ h9 => h9) rfl dX9_becomes_103 ?_
  refine va_put (D := D) (ci := 9) (v := .int (u13 10 7)) (ty := .int) (C := RX9) (T := TX9) (N := 10) hx hb hts iX9_becomes_X9 tyX9 tyX9_ok nmX9 hown hK hP (cw_D hap) hS 1 cw_1 rfl 7 (by decide) (hts (.fieldLink RX9 45 RX9 "rafts" "I") (by decide +kernel)) (fun _ h9 => h9) rfl (by decide +kernel) rfl rfl (Nat.le_of_ble_eq_true rfl) dX9_becomes_106 (fun H locs hP _ hS => ?_)
  have hP := cw_s1_7 hP
  obtain ⟨σ15, e16, h⟩ := k_bd h
  rw [k_sm e16] at hP
  refine lv_aload_n hx hb dX9_becomes_109 rfl (lv_at hl 0 rfl) ?_
  refine lv_aload_n hx hb dX9_becomes_110 rfl (lv_at hl 1 rfl) ?_
  refine va_get (D := D) (ci := 9) (v := .int (σ15 10 8)) (C := RX9) (T := TX9) (N := 10) hx hb hts iX9_becomes_X9 hown hK hP 10 cw_10 rfl 8 (by decide) (hts (.fieldLink RX9 49 RX9 "anchors" "I") (by decide +kernel)) (fun _ h9 => h9) rfl dX9_becomes_111 ?_
  refine va_put (D := D) (ci := 9) (v := .int (σ15 10 8)) (ty := .int) (C := RX9) (T := TX9) (N := 10) hx hb hts iX9_becomes_X9 tyX9 tyX9_ok nmX9 hown hK hP (cw_D hap) hS 1 cw_1 rfl 8 (by decide) (hts (.fieldLink RX9 49 RX9 "anchors" "I") (by decide +kernel)) (fun _ h9 => h9) rfl (by decide +kernel) rfl rfl (Nat.le_of_ble_eq_true rfl) dX9_becomes_114 (fun H locs hP _ hS => ?_)
  have hP := cw_s1_8 hP
  obtain ⟨σ17, e18, h⟩ := k_bd h
  rw [k_sm e18] at hP
  refine lv_aload_n hx hb dX9_becomes_117 rfl (lv_at hl 0 rfl) ?_
  refine lv_aload_n hx hb dX9_becomes_118 rfl (lv_at hl 1 rfl) ?_
  refine va_get (D := D) (ci := 9) (v := .int (σ17 10 9)) (C := RX9) (T := TX9) (N := 10) hx hb hts iX9_becomes_X9 hown hK hP 10 cw_10 rfl 9 (by decide) (hts (.fieldLink RX9 52 RX9 "ropes" "I") (by decide +kernel)) (fun _ h9 => h9) rfl dX9_becomes_119 ?_
  refine va_put (D := D) (ci := 9) (v := .int (σ17 10 9)) (ty := .int) (C := RX9) (T := TX9) (N := 10) hx hb hts iX9_becomes_X9 tyX9 tyX9_ok nmX9 hown hK hP (cw_D hap) hS 1 cw_1 rfl 9 (by decide) (hts (.fieldLink RX9 52 RX9 "ropes" "I") (by decide +kernel)) (fun _ h9 => h9) rfl (by decide +kernel) rfl rfl (Nat.le_of_ble_eq_true rfl) dX9_becomes_122 (fun H locs hP _ hS => ?_)
  have hP := cw_s1_9 hP
  obtain ⟨σ19, e20, h⟩ := k_bd h
  rw [k_sm e20] at hP
  obtain rfl := k_sm h
  exact W.vret hx hb hr (fun t ht hW => ⟨⟨_, rfl, rfl, pw_end ht hP⟩, hS.F ht⟩) hS.2.2 dX9_becomes_125
set_option maxHeartbeats 4000000 in
set_option maxRecDepth 100000 in
theorem kX5_get_20 (l : Launch) {D : va_G} {cI cB cZ : ClassId} {ad : Nat → Nat} {τ : Int64} (σ : Sg) (x1 : Int32) (x2 : Int32) : Met l yX5_get wsX5_get rmX5_get (va_Pc [.ref (ad 19), .int x1, .int x2] (PW D cI cB cZ (CW cI ad τ σ))) (QcRead (pX5_get 20 σ x1 x2)) 0 0 (fun _ => False) := by
  obtain ⟨o, h⟩ : ∃ o, pX5_get 20 σ x1 x2 = o := ⟨_, rfl⟩
  rw [h]
  refine Met.ofW (cc := cX5_get) (maxL := 3) (ret := (some .int)) (by decide) rfl ?_
  intro p e s m args below meth c s₁ B hml hv
  obtain ⟨rfl, hP, hK, hN⟩ := hv
  have C0 : Cx p s m _ meth c cX5_get 3 (some .int) RX5 wsX5_get := ⟨⟨B.exec, B.bytes, hml, findClass_of_methodNamed B.named, atoms_spec B.pre⟩, B.returns, B.notSynchronized⟩
  obtain ⟨⟨hx, hb, -, hown, hts⟩, hr, hlk⟩ := id C0
  have hl := lv_entry ([.ref (ad 19), .int x1, .int x2]) (n := 3) (Nat.le_of_ble_eq_true rfl)
  rw [lg_entry_eq]
  generalize (lg_sl ([.ref (ad 19), .int x1, .int x2]) ++ List.replicate (3 - (lg_sl ([.ref (ad 19), .int x1, .int x2])).length) Slot.unset).toArray = ls at hl ⊢
  have hl : lv_has ls 3 [(0, .ref (ad 19)), (1, .int x1), (2, .int x2)] := hl
  rw [pX5_get] at h
  refine lv_aload_n hx hb dX5_get_0 rfl (lv_at hl 0 rfl) ?_
  refine va_get (D := D) (ci := 5) (v := .ref (ad 20)) (C := RX5) (T := TX5) (N := 1) hx hb hts iX5_get_X5 hown hK hP 19 cw_19 rfl 0 (by decide) (hts (.fieldLink RX5 11 RX5 "row" "[I") (by decide +kernel)) (fun _ h9 => h9) rfl dX5_get_1 ?_
  refine lv_iload_n hx hb dX5_get_4 rfl (lv_at hl 1 rfl) ?_
  refine lv_iload_n hx hb dX5_get_5 rfl (lv_at hl 2 rfl) ?_
  refine lv_iadd hx hb dX5_get_6 ?_
  refine rd_calli (va_runSN (As := [.ref (ad 20), .int (x1 + x2)]) (rest := []) C0.1 (kX10_at l (ad 20) 45 (σ 20) (x1 + x2) (by decide)) (wX5_get_X10_at hts hN ⟨Nat.le_of_ble_eq_true rfl, Nat.le_of_ble_eq_true rfl⟩) ⟨PAt.blind, PAt.mk (cw_t20 hK hP)⟩ rfl rfl hl.1 rfl (lv_room (Nat.le_of_ble_eq_true rfl)) dX5_get_7 ⟨Nat.zero_le _, Nat.zero_le _⟩) ?_
  subst h
  exact W.iret hx hb hr (fun t ht hW => ⟨rfl, ht⟩) (fun _ h => by cases h) dX5_get_10
set_option maxHeartbeats 4000000 in
set_option maxRecDepth 100000 in
theorem kX5_get_37 (l : Launch) {D : va_G} {cI cB cZ : ClassId} {ad : Nat → Nat} {τ : Int64} (σ : Sg) (x1 : Int32) (x2 : Int32) : Met l yX5_get wsX5_get rmX5_get (va_Pc [.ref (ad 36), .int x1, .int x2] (PW D cI cB cZ (CW cI ad τ σ))) (QcRead (pX5_get 37 σ x1 x2)) 0 0 (fun _ => False) := by
  obtain ⟨o, h⟩ : ∃ o, pX5_get 37 σ x1 x2 = o := ⟨_, rfl⟩
  rw [h]
  refine Met.ofW (cc := cX5_get) (maxL := 3) (ret := (some .int)) (by decide) rfl ?_
  intro p e s m args below meth c s₁ B hml hv
  obtain ⟨rfl, hP, hK, hN⟩ := hv
  have C0 : Cx p s m _ meth c cX5_get 3 (some .int) RX5 wsX5_get := ⟨⟨B.exec, B.bytes, hml, findClass_of_methodNamed B.named, atoms_spec B.pre⟩, B.returns, B.notSynchronized⟩
  obtain ⟨⟨hx, hb, -, hown, hts⟩, hr, hlk⟩ := id C0
  have hl := lv_entry ([.ref (ad 36), .int x1, .int x2]) (n := 3) (Nat.le_of_ble_eq_true rfl)
  rw [lg_entry_eq]
  generalize (lg_sl ([.ref (ad 36), .int x1, .int x2]) ++ List.replicate (3 - (lg_sl ([.ref (ad 36), .int x1, .int x2])).length) Slot.unset).toArray = ls at hl ⊢
  have hl : lv_has ls 3 [(0, .ref (ad 36)), (1, .int x1), (2, .int x2)] := hl
  rw [pX5_get] at h
  refine lv_aload_n hx hb dX5_get_0 rfl (lv_at hl 0 rfl) ?_
  refine va_get (D := D) (ci := 5) (v := .ref (ad 37)) (C := RX5) (T := TX5) (N := 1) hx hb hts iX5_get_X5 hown hK hP 36 cw_36 rfl 0 (by decide) (hts (.fieldLink RX5 11 RX5 "row" "[I") (by decide +kernel)) (fun _ h9 => h9) rfl dX5_get_1 ?_
  refine lv_iload_n hx hb dX5_get_4 rfl (lv_at hl 1 rfl) ?_
  refine lv_iload_n hx hb dX5_get_5 rfl (lv_at hl 2 rfl) ?_
  refine lv_iadd hx hb dX5_get_6 ?_
  refine rd_calli (va_runSN (As := [.ref (ad 37), .int (x1 + x2)]) (rest := []) C0.1 (kX10_at l (ad 37) 45 (σ 37) (x1 + x2) (by decide)) (wX5_get_X10_at hts hN ⟨Nat.le_of_ble_eq_true rfl, Nat.le_of_ble_eq_true rfl⟩) ⟨PAt.blind, PAt.mk (cw_t37 hK hP)⟩ rfl rfl hl.1 rfl (lv_room (Nat.le_of_ble_eq_true rfl)) dX5_get_7 ⟨Nat.zero_le _, Nat.zero_le _⟩) ?_
  subst h
  exact W.iret hx hb hr (fun t ht hW => ⟨rfl, ht⟩) (fun _ h => by cases h) dX5_get_10
set_option maxHeartbeats 4000000 in
set_option maxRecDepth 100000 in
theorem kX5_lies_20 (l : Launch) {D : va_G} {cI cB cZ : ClassId} {ad : Nat → Nat} {τ : Int64} (σ : Sg) (x1 : Int32) : Met l yX5_lies wsX5_lies rmX5_lies (va_Pc [.ref (ad 19), .int x1] (PW D cI cB cZ (CW cI ad τ σ))) (QcRead (pX5_lies 20 σ x1)) 0 0 (fun _ => False) := by
  obtain ⟨o, h⟩ : ∃ o, pX5_lies 20 σ x1 = o := ⟨_, rfl⟩
  rw [h]
  refine Met.ofW (cc := cX5_lies) (maxL := 2) (ret := (some .boolean)) (by decide) rfl ?_
  intro p e s m args below meth c s₁ B hml hv
  obtain ⟨rfl, hP, hK, hN⟩ := hv
  have C0 : Cx p s m _ meth c cX5_lies 2 (some .boolean) RX5 wsX5_lies := ⟨⟨B.exec, B.bytes, hml, findClass_of_methodNamed B.named, atoms_spec B.pre⟩, B.returns, B.notSynchronized⟩
  obtain ⟨⟨hx, hb, -, hown, hts⟩, hr, hlk⟩ := id C0
  have hl := lv_entry ([.ref (ad 19), .int x1]) (n := 2) (Nat.le_of_ble_eq_true rfl)
  rw [lg_entry_eq]
  generalize (lg_sl ([.ref (ad 19), .int x1]) ++ List.replicate (2 - (lg_sl ([.ref (ad 19), .int x1])).length) Slot.unset).toArray = ls at hl ⊢
  have hl : lv_has ls 2 [(0, .ref (ad 19)), (1, .int x1)] := hl
  rw [pX5_lies] at h
  refine lv_aload_n hx hb dX5_lies_0 rfl (lv_at hl 0 rfl) ?_
  refine lv_bipush (v := 24) hx hb dX5_lies_1 (by decide) ?_
  refine lv_iload_n hx hb dX5_lies_3 rfl (lv_at hl 1 rfl) ?_
  refine rd_calli (va_runV (As := [.int 24, .int x1]) (rest := []) C0.1 (kX5_get_20 l (D := D) (cI := cI) (cB := cB) (cZ := cZ) (ad := ad) (τ := τ) σ 24 x1) (wX5_lies_X5_get hts ⟨Nat.le_of_ble_eq_true rfl, Nat.le_of_ble_eq_true rfl⟩) ⟨PW.blind, cw_r19 hK hP, PW.mk hP hK hN⟩ rfl rfl hl.1 rfl (lv_room (Nat.le_of_ble_eq_true rfl)) dX5_lies_4 ⟨Nat.zero_le _, Nat.zero_le _⟩) ?_
  refine lv_if_ne (tgt := 14) hx hb dX5_lies_7 (by decide) (fun c7 => ?_) (fun c7 => ?_)
  · replace h := k_in c7 h
    refine lv_iconst (v := 0) hx hb dX5_lies_14 (by decide) ?_
    subst h
    exact W.zret hx hb hr rfl (fun t ht hW => ⟨rfl, ht⟩) (fun _ h => by cases h) dX5_lies_15
  · replace h := k_ip c7 h
    refine lv_iconst (v := 1) hx hb dX5_lies_10 (by decide) ?_
    refine lv_goto (tgt := 15) hx hb dX5_lies_11 (by decide) ?_
    subst h
    exact W.zret hx hb hr rfl (fun t ht hW => ⟨rfl, ht⟩) (fun _ h => by cases h) dX5_lies_15
set_option maxHeartbeats 4000000 in
set_option maxRecDepth 100000 in
theorem kX5_lies_37 (l : Launch) {D : va_G} {cI cB cZ : ClassId} {ad : Nat → Nat} {τ : Int64} (σ : Sg) (x1 : Int32) : Met l yX5_lies wsX5_lies rmX5_lies (va_Pc [.ref (ad 36), .int x1] (PW D cI cB cZ (CW cI ad τ σ))) (QcRead (pX5_lies 37 σ x1)) 0 0 (fun _ => False) := by
  obtain ⟨o, h⟩ : ∃ o, pX5_lies 37 σ x1 = o := ⟨_, rfl⟩
  rw [h]
  refine Met.ofW (cc := cX5_lies) (maxL := 2) (ret := (some .boolean)) (by decide) rfl ?_
  intro p e s m args below meth c s₁ B hml hv
  obtain ⟨rfl, hP, hK, hN⟩ := hv
  have C0 : Cx p s m _ meth c cX5_lies 2 (some .boolean) RX5 wsX5_lies := ⟨⟨B.exec, B.bytes, hml, findClass_of_methodNamed B.named, atoms_spec B.pre⟩, B.returns, B.notSynchronized⟩
  obtain ⟨⟨hx, hb, -, hown, hts⟩, hr, hlk⟩ := id C0
  have hl := lv_entry ([.ref (ad 36), .int x1]) (n := 2) (Nat.le_of_ble_eq_true rfl)
  rw [lg_entry_eq]
  generalize (lg_sl ([.ref (ad 36), .int x1]) ++ List.replicate (2 - (lg_sl ([.ref (ad 36), .int x1])).length) Slot.unset).toArray = ls at hl ⊢
  have hl : lv_has ls 2 [(0, .ref (ad 36)), (1, .int x1)] := hl
  rw [pX5_lies] at h
  refine lv_aload_n hx hb dX5_lies_0 rfl (lv_at hl 0 rfl) ?_
  refine lv_bipush (v := 24) hx hb dX5_lies_1 (by decide) ?_
  refine lv_iload_n hx hb dX5_lies_3 rfl (lv_at hl 1 rfl) ?_
  refine rd_calli (va_runV (As := [.int 24, .int x1]) (rest := []) C0.1 (kX5_get_37 l (D := D) (cI := cI) (cB := cB) (cZ := cZ) (ad := ad) (τ := τ) σ 24 x1) (wX5_lies_X5_get hts ⟨Nat.le_of_ble_eq_true rfl, Nat.le_of_ble_eq_true rfl⟩) ⟨PW.blind, cw_r36 hK hP, PW.mk hP hK hN⟩ rfl rfl hl.1 rfl (lv_room (Nat.le_of_ble_eq_true rfl)) dX5_lies_4 ⟨Nat.zero_le _, Nat.zero_le _⟩) ?_
  refine lv_if_ne (tgt := 14) hx hb dX5_lies_7 (by decide) (fun c7 => ?_) (fun c7 => ?_)
  · replace h := k_in c7 h
    refine lv_iconst (v := 0) hx hb dX5_lies_14 (by decide) ?_
    subst h
    exact W.zret hx hb hr rfl (fun t ht hW => ⟨rfl, ht⟩) (fun _ h => by cases h) dX5_lies_15
  · replace h := k_ip c7 h
    refine lv_iconst (v := 1) hx hb dX5_lies_10 (by decide) ?_
    refine lv_goto (tgt := 15) hx hb dX5_lies_11 (by decide) ?_
    subst h
    exact W.zret hx hb hr rfl (fun t ht hW => ⟨rfl, ht⟩) (fun _ h => by cases h) dX5_lies_15
set_option maxHeartbeats 4000000 in
set_option maxRecDepth 100000 in
theorem bX10_lyingIn_L5_20 {p : Program} {l : Launch} {e : Env} {s : State} {m : MethodId} {args : Array Value} {below : List Frame} {meth : Method} {c : Code} {Q : State → Prop} {D : va_G} {cI cB cZ : ClassId} {ad : Nat → Nat} (C0 : Cx p s m args meth c cX10_lyingIn 5 (some .int) RX10 wsX10_lyingIn) (hK : va_K D vwCl (tysA cI cB cZ) s) (hN : NW s) {τ : Int64} {σ : Sg} (hP : va_P D vwCl (CW cI ad τ σ) s.heap) (x2 : Int32) : ∀ (n : Nat) (x3 : Int32) (x4 : Int32) (v : Int32) (ls : Array Slot), lv_has ls 5 [(0, .ref (ad 1)), (1, .ref (ad 19)), (2, .int x2), (3, .int x3), (4, .int x4)] → pX10_lyingIn_L5 20 σ x2 n x3 x4 = some v → (∀ (ls1 : Array Slot), lv_has ls1 5 [(3, .int v)] → W p l e rmX10_lyingIn s m args below meth c s.heap [] 0 0 Q (F0 m 48 ls1 [])) → W p l e rmX10_lyingIn s m args below meth c s.heap [] 0 0 Q (F0 m 5 ls []) := by
  obtain ⟨⟨hx, hb, hml, hown, hts⟩, hr, hlk⟩ := id C0
  intro n
  induction n with
  | zero =>
    intro x3 x4 v ls hl h kk
    exact absurd h (by simp [pX10_lyingIn_L5])
  | succ n ih =>
    intro x3 x4 v ls hl h kk
    rw [pX10_lyingIn_L5] at h
    refine lv_iload hx hb dX10_lyingIn_5 (lv_at hl 4 rfl) ?_
    refine lv_aload_n hx hb dX10_lyingIn_7 rfl (lv_at hl 0 rfl) ?_
    refine va_getN (D := D) (ci := 9) (v := .int (σ 1 8)) (C := RX9) (T := TX9) (N := 10) hx hb hts iX10_lyingIn_X9 hown hK hP 1 cw_1 rfl 8 (by decide) (va_Nw.use rfl (nf_X10_203 hN)) (fun _ h9 => h9) rfl dX10_lyingIn_8 ?_
    refine lv_icmp_ge (tgt := 48) hx hb dX10_lyingIn_11 (by decide) (fun c11 => ?_) (fun c11 => ?_)
    · replace h := k_ip c11 h
      obtain rfl := k_sm h
      exact kk _ (lv_sub hl [3] rfl)
    · replace h := k_in c11 h
      refine lv_aload_n hx hb dX10_lyingIn_14 rfl (lv_at hl 1 rfl) ?_
      refine lv_iload hx hb dX10_lyingIn_15 (lv_at hl 4 rfl) ?_
      refine rd_calli (va_runVN (As := [.int x4]) (rest := []) C0.1 (kX5_lies_20 l (D := D) (cI := cI) (cB := cB) (cZ := cZ) (ad := ad) (τ := τ) σ x4) (wX10_lyingIn_X5_lies hts hN ⟨Nat.le_of_ble_eq_true rfl, Nat.le_of_ble_eq_true rfl⟩) ⟨PW.blind, cw_r19 hK hP, PW.mk hP hK hN⟩ rfl rfl hl.1 rfl (lv_room (Nat.le_of_ble_eq_true rfl)) dX10_lyingIn_17 ⟨Nat.zero_le _, Nat.zero_le _⟩) ?_
      refine lv_if_eq (tgt := 42) hx hb dX10_lyingIn_20 (by decide) (fun c20 => ?_) (fun c20 => ?_)
      · replace h := k_ip c20 h
        refine lv_iinc (v := (x4 + 1)) (lv' := [(4, .int (x4 + 1)), (0, .ref (ad 1)), (1, .ref (ad 19)), (2, .int x2), (3, .int x3)]) hx hb dX10_lyingIn_42 hl (k := 4) rfl rfl (by decide) rfl (fun ls hl => ?_)
        refine lv_goto (tgt := 5) hx hb dX10_lyingIn_45 (by decide) ?_
        exact ih x3 (x4 + 1) _ ls (lv_sub hl [1, 2, 3, 4, 0] rfl) h kk
      · replace h := k_in c20 h
        refine lv_aload_n hx hb dX10_lyingIn_23 rfl (lv_at hl 1 rfl) ?_
        refine lv_iconst (v := 0) hx hb dX10_lyingIn_24 (by decide) ?_
        refine lv_iload hx hb dX10_lyingIn_25 (lv_at hl 4 rfl) ?_
        refine rd_calli (va_runVN (As := [.int 0, .int x4]) (rest := []) C0.1 (kX5_get_20 l (D := D) (cI := cI) (cB := cB) (cZ := cZ) (ad := ad) (τ := τ) σ 0 x4) (wX10_lyingIn_X5_get hts hN ⟨Nat.le_of_ble_eq_true rfl, Nat.le_of_ble_eq_true rfl⟩) ⟨PW.blind, cw_r19 hK hP, PW.mk hP hK hN⟩ rfl rfl hl.1 rfl (lv_room (Nat.le_of_ble_eq_true rfl)) dX10_lyingIn_27 ⟨Nat.zero_le _, Nat.zero_le _⟩) ?_
        refine lv_iload_n hx hb dX10_lyingIn_30 rfl (lv_at hl 2 rfl) ?_
        refine lv_icmp_ne (tgt := 42) hx hb dX10_lyingIn_31 (by decide) (fun c31 => ?_) (fun c31 => ?_)
        · replace h := k_in c31 h
          refine lv_iinc (v := (x4 + 1)) (lv' := [(4, .int (x4 + 1)), (0, .ref (ad 1)), (1, .ref (ad 19)), (2, .int x2), (3, .int x3)]) hx hb dX10_lyingIn_42 hl (k := 4) rfl rfl (by decide) rfl (fun ls hl => ?_)
          refine lv_goto (tgt := 5) hx hb dX10_lyingIn_45 (by decide) ?_
          exact ih x3 (x4 + 1) _ ls (lv_sub hl [1, 2, 3, 4, 0] rfl) h kk
        · replace h := k_ip c31 h
          refine lv_iload_n hx hb dX10_lyingIn_34 rfl (lv_at hl 3 rfl) ?_
          refine lv_iload hx hb dX10_lyingIn_35 (lv_at hl 4 rfl) ?_
          refine rd_calli (va_runS (As := [.int x4]) (rest := [.int x3]) C0.1 (kX10_bit l x4) (wX10_lyingIn_X10_bit hts ⟨Nat.le_of_ble_eq_true rfl, Nat.le_of_ble_eq_true rfl⟩) ⟨PT.blind, fun _ _ _ => ⟨rfl, trivial⟩⟩ rfl rfl hl.1 rfl (lv_room (Nat.le_of_ble_eq_true rfl)) dX10_lyingIn_37 ⟨Nat.zero_le _, Nat.zero_le _⟩) ?_
          refine lv_ior hx hb dX10_lyingIn_40 ?_
          obtain ⟨v1, e2, h⟩ := k_bd h
          refine lv_nmi (k_sm e2) ?_
          refine lv_istore_n (lv' := [(3, .int v1), (0, .ref (ad 1)), (1, .ref (ad 19)), (2, .int x2), (4, .int x4)]) hx hb dX10_lyingIn_41 rfl hl (by decide) rfl (fun ls hl => ?_)
          refine lv_iinc (v := (x4 + 1)) (lv' := [(4, .int (x4 + 1)), (3, .int v1), (0, .ref (ad 1)), (1, .ref (ad 19)), (2, .int x2)]) hx hb dX10_lyingIn_42 hl (k := 4) rfl rfl (by decide) rfl (fun ls hl => ?_)
          refine lv_goto (tgt := 5) hx hb dX10_lyingIn_45 (by decide) ?_
          exact ih v1 (x4 + 1) _ ls (lv_sub hl [2, 3, 4, 1, 0] rfl) h kk
set_option maxHeartbeats 4000000 in
set_option maxRecDepth 100000 in
theorem kX10_lyingIn_20 (l : Launch) {D : va_G} {cI cB cZ : ClassId} {ad : Nat → Nat} {τ : Int64} (σ : Sg) (x2 : Int32) (o : Int32) (h : pX10_lyingIn 20 σ x2 = some o) : Met l yX10_lyingIn wsX10_lyingIn rmX10_lyingIn (va_Pc [.ref (ad 1), .ref (ad 19), .int x2] (PW D cI cB cZ (CW cI ad τ σ))) (QcRead o) 0 0 (fun _ => False) := by
  refine Met.ofW (cc := cX10_lyingIn) (maxL := 5) (ret := (some .int)) (by decide) rfl ?_
  intro p e s m args below meth c s₁ B hml hv
  obtain ⟨rfl, hP, hK, hN⟩ := hv
  have C0 : Cx p s m _ meth c cX10_lyingIn 5 (some .int) RX10 wsX10_lyingIn := ⟨⟨B.exec, B.bytes, hml, findClass_of_methodNamed B.named, atoms_spec B.pre⟩, B.returns, B.notSynchronized⟩
  obtain ⟨⟨hx, hb, -, hown, hts⟩, hr, hlk⟩ := id C0
  have hl := lv_entry ([.ref (ad 1), .ref (ad 19), .int x2]) (n := 5) (Nat.le_of_ble_eq_true rfl)
  rw [lg_entry_eq]
  generalize (lg_sl ([.ref (ad 1), .ref (ad 19), .int x2]) ++ List.replicate (5 - (lg_sl ([.ref (ad 1), .ref (ad 19), .int x2])).length) Slot.unset).toArray = ls at hl ⊢
  have hl : lv_has ls 5 [(0, .ref (ad 1)), (1, .ref (ad 19)), (2, .int x2)] := hl
  rw [pX10_lyingIn] at h
  refine lv_iconst (v := 0) hx hb dX10_lyingIn_0 (by decide) ?_
  refine lv_istore_n (lv' := [(3, .int 0), (0, .ref (ad 1)), (1, .ref (ad 19)), (2, .int x2)]) hx hb dX10_lyingIn_1 rfl hl (by decide) rfl (fun ls hl => ?_)
  refine lv_iconst (v := 0) hx hb dX10_lyingIn_2 (by decide) ?_
  refine lv_istore (lv' := [(4, .int 0), (3, .int 0), (0, .ref (ad 1)), (1, .ref (ad 19)), (2, .int x2)]) hx hb dX10_lyingIn_3 hl (by decide) rfl (fun ls hl => ?_)
  obtain ⟨w3, e4, h⟩ := k_bd h
  refine bX10_lyingIn_L5_20 C0 hK hN hP x2 2000 0 0 _ ls (lv_sub hl [2, 3, 4, 1, 0] rfl) e4 (fun ls hl => ?_)
  refine lv_iload_n hx hb dX10_lyingIn_48 rfl (lv_at hl 0 rfl) ?_
  obtain rfl := k_sm h
  exact W.iret hx hb hr (fun t ht hW => ⟨rfl, ht⟩) (fun _ h => by cases h) dX10_lyingIn_49
set_option maxHeartbeats 4000000 in
set_option maxRecDepth 100000 in
theorem kX10_isNoRaft (l : Launch) {D : va_G} {cI cB cZ : ClassId} {ad : Nat → Nat} {τ : Int64} (σ : Sg) (x1 : Int32) : Met l yX10_isNoRaft wsX10_isNoRaft rmX10_isNoRaft (va_Pc [.ref (ad 0), .int x1] (PW D cI cB cZ (CW cI ad τ σ))) (QcRead (pX10_isNoRaft σ x1)) 0 0 (fun _ => False) := by
  obtain ⟨o, h⟩ : ∃ o, pX10_isNoRaft σ x1 = o := ⟨_, rfl⟩
  rw [h]
  refine Met.ofW (cc := cX10_isNoRaft) (maxL := 2) (ret := (some .boolean)) (by decide) rfl ?_
  intro p e s m args below meth c s₁ B hml hv
  obtain ⟨rfl, hP, hK, hN⟩ := hv
  have C0 : Cx p s m _ meth c cX10_isNoRaft 2 (some .boolean) RX10 wsX10_isNoRaft := ⟨⟨B.exec, B.bytes, hml, findClass_of_methodNamed B.named, atoms_spec B.pre⟩, B.returns, B.notSynchronized⟩
  obtain ⟨⟨hx, hb, -, hown, hts⟩, hr, hlk⟩ := id C0
  have hl := lv_entry ([.ref (ad 0), .int x1]) (n := 2) (Nat.le_of_ble_eq_true rfl)
  rw [lg_entry_eq]
  generalize (lg_sl ([.ref (ad 0), .int x1]) ++ List.replicate (2 - (lg_sl ([.ref (ad 0), .int x1])).length) Slot.unset).toArray = ls at hl ⊢
  have hl : lv_has ls 2 [(0, .ref (ad 0)), (1, .int x1)] := hl
  rw [pX10_isNoRaft] at h
  refine lv_iload_n hx hb dX10_isNoRaft_0 rfl (lv_at hl 1 rfl) ?_
  refine lv_iconst (v := 0) hx hb dX10_isNoRaft_1 (by decide) ?_
  refine lv_aload_n hx hb dX10_isNoRaft_2 rfl (lv_at hl 0 rfl) ?_
  refine va_get (D := D) (ci := 10) (v := .ref (ad 1)) (C := RX10) (T := TX10) (N := 12) hx hb hts iX10_isNoRaft_X10 hown hK hP 0 cw_0 rfl 0 (by decide) (hts (.fieldLink RX10 10 RX10 "told" "LAnchorWills$Told;") (by decide +kernel)) (fun _ h9 => h9) rfl dX10_isNoRaft_3 ?_
  refine va_getN (D := D) (ci := 9) (v := .int (σ 1 7)) (C := RX9) (T := TX9) (N := 10) hx hb hts iX10_isNoRaft_X9 hown hK hP 1 cw_1 rfl 7 (by decide) (va_Nw.use rfl (nf_X10_280 hN)) (fun _ h9 => h9) rfl dX10_isNoRaft_6 ?_
  refine lv_iconst (v := 1) hx hb dX10_isNoRaft_9 (by decide) ?_
  refine lv_isub hx hb dX10_isNoRaft_10 ?_
  refine rd_calli (va_runS (As := [.int x1, .int 0, .int ((σ 1 7) - 1)]) (rest := []) C0.1 (kX10_isOutside l x1 0 ((σ 1 7) - 1)) (wX10_isNoRaft_X10_isOutside hts ⟨Nat.le_of_ble_eq_true rfl, Nat.le_of_ble_eq_true rfl⟩) ⟨PT.blind, fun _ _ _ => ⟨rfl, trivial⟩⟩ rfl rfl hl.1 rfl (lv_room (Nat.le_of_ble_eq_true rfl)) dX10_isNoRaft_11 ⟨Nat.zero_le _, Nat.zero_le _⟩) ?_
  subst h
  exact W.zret hx hb hr (k_01 (z_pX10_isOutside x1 0 ((σ 1 7) - 1))) (fun t ht hW => ⟨rfl, ht⟩) (fun _ h => by cases h) dX10_isNoRaft_14
set_option maxHeartbeats 4000000 in
set_option maxRecDepth 100000 in
theorem kX5_goneRafts_20 (l : Launch) {D : va_G} {cI cB cZ : ClassId} {ad : Nat → Nat} {τ : Int64} (σ : Sg) : Met l yX5_goneRafts wsX5_goneRafts rmX5_goneRafts (va_Pc [.ref (ad 19)] (PW D cI cB cZ (CW cI ad τ σ))) (QcRead (pX5_goneRafts 20 σ)) 0 0 (fun _ => False) := by
  obtain ⟨o, h⟩ : ∃ o, pX5_goneRafts 20 σ = o := ⟨_, rfl⟩
  rw [h]
  refine Met.ofW (cc := cX5_goneRafts) (maxL := 1) (ret := (some .int)) (by decide) rfl ?_
  intro p e s m args below meth c s₁ B hml hv
  obtain ⟨rfl, hP, hK, hN⟩ := hv
  have C0 : Cx p s m _ meth c cX5_goneRafts 1 (some .int) RX5 wsX5_goneRafts := ⟨⟨B.exec, B.bytes, hml, findClass_of_methodNamed B.named, atoms_spec B.pre⟩, B.returns, B.notSynchronized⟩
  obtain ⟨⟨hx, hb, -, hown, hts⟩, hr, hlk⟩ := id C0
  have hl := lv_entry ([.ref (ad 19)]) (n := 1) (Nat.le_of_ble_eq_true rfl)
  rw [lg_entry_eq]
  generalize (lg_sl ([.ref (ad 19)]) ++ List.replicate (1 - (lg_sl ([.ref (ad 19)])).length) Slot.unset).toArray = ls at hl ⊢
  have hl : lv_has ls 1 [(0, .ref (ad 19))] := hl
  rw [pX5_goneRafts] at h
  refine lv_aload_n hx hb dX5_goneRafts_0 rfl (lv_at hl 0 rfl) ?_
  refine lv_bipush (v := 44) hx hb dX5_goneRafts_1 (by decide) ?_
  refine lv_iconst (v := 0) hx hb dX5_goneRafts_3 (by decide) ?_
  refine rd_calli (va_runV (As := [.int 44, .int 0]) (rest := []) C0.1 (kX5_get_20 l (D := D) (cI := cI) (cB := cB) (cZ := cZ) (ad := ad) (τ := τ) σ 44 0) (wX5_goneRafts_X5_get hts ⟨Nat.le_of_ble_eq_true rfl, Nat.le_of_ble_eq_true rfl⟩) ⟨PW.blind, cw_r19 hK hP, PW.mk hP hK hN⟩ rfl rfl hl.1 rfl (lv_room (Nat.le_of_ble_eq_true rfl)) dX5_goneRafts_4 ⟨Nat.zero_le _, Nat.zero_le _⟩) ?_
  subst h
  exact W.iret hx hb hr (fun t ht hW => ⟨rfl, ht⟩) (fun _ h => by cases h) dX5_goneRafts_7
set_option maxHeartbeats 4000000 in
set_option maxRecDepth 100000 in
theorem kX5_isGone_20 (l : Launch) {D : va_G} {cI cB cZ : ClassId} {ad : Nat → Nat} {τ : Int64} (σ : Sg) (x1 : Int32) : Met l yX5_isGone wsX5_isGone rmX5_isGone (va_Pc [.ref (ad 19), .int x1] (PW D cI cB cZ (CW cI ad τ σ))) (QcRead (pX5_isGone 20 σ x1)) 0 0 (fun _ => False) := by
  obtain ⟨o, h⟩ : ∃ o, pX5_isGone 20 σ x1 = o := ⟨_, rfl⟩
  rw [h]
  refine Met.ofW (cc := cX5_isGone) (maxL := 2) (ret := (some .boolean)) (by decide) rfl ?_
  intro p e s m args below meth c s₁ B hml hv
  obtain ⟨rfl, hP, hK, hN⟩ := hv
  have C0 : Cx p s m _ meth c cX5_isGone 2 (some .boolean) RX5 wsX5_isGone := ⟨⟨B.exec, B.bytes, hml, findClass_of_methodNamed B.named, atoms_spec B.pre⟩, B.returns, B.notSynchronized⟩
  obtain ⟨⟨hx, hb, -, hown, hts⟩, hr, hlk⟩ := id C0
  have hl := lv_entry ([.ref (ad 19), .int x1]) (n := 2) (Nat.le_of_ble_eq_true rfl)
  rw [lg_entry_eq]
  generalize (lg_sl ([.ref (ad 19), .int x1]) ++ List.replicate (2 - (lg_sl ([.ref (ad 19), .int x1])).length) Slot.unset).toArray = ls at hl ⊢
  have hl : lv_has ls 2 [(0, .ref (ad 19)), (1, .int x1)] := hl
  rw [pX5_isGone] at h
  refine lv_aload_n hx hb dX5_isGone_0 rfl (lv_at hl 0 rfl) ?_
  refine rd_calli (va_runV (As := []) (rest := []) C0.1 (kX5_goneRafts_20 l (D := D) (cI := cI) (cB := cB) (cZ := cZ) (ad := ad) (τ := τ) σ ) (wX5_isGone_X5_goneRafts hts ⟨Nat.le_of_ble_eq_true rfl, Nat.le_of_ble_eq_true rfl⟩) ⟨PW.blind, cw_r19 hK hP, PW.mk hP hK hN⟩ rfl rfl hl.1 rfl (lv_room (Nat.le_of_ble_eq_true rfl)) dX5_isGone_1 ⟨Nat.zero_le _, Nat.zero_le _⟩) ?_
  refine lv_iload_n hx hb dX5_isGone_4 rfl (lv_at hl 1 rfl) ?_
  refine rd_calli (va_runSN (As := [.int (pX5_goneRafts 20 σ), .int x1]) (rest := []) C0.1 (kX10_has l (pX5_goneRafts 20 σ) x1) (wX5_isGone_X10_has hts hN ⟨Nat.le_of_ble_eq_true rfl, Nat.le_of_ble_eq_true rfl⟩) ⟨PT.blind, fun _ _ _ => ⟨rfl, trivial⟩⟩ rfl rfl hl.1 rfl (lv_room (Nat.le_of_ble_eq_true rfl)) dX5_isGone_5 ⟨Nat.zero_le _, Nat.zero_le _⟩) ?_
  subst h
  exact W.zret hx hb hr (k_01 (z_pX10_has (pX5_goneRafts 20 σ) x1)) (fun t ht hW => ⟨rfl, ht⟩) (fun _ h => by cases h) dX5_isGone_8
set_option maxHeartbeats 4000000 in
set_option maxRecDepth 100000 in
theorem kX10_divided (l : Launch) (x0 : Int32) (x1 : Int32) (o : Int32) (h : pX10_divided x0 x1 = some o) : Met l yX10_divided wsX10_divided rmX10_divided (va_Pc [.int x0, .int x1] (fun _ => True)) (QcRead o) 0 0 (fun _ => False) := by
  refine Met.ofW (cc := cX10_divided) (maxL := 2) (ret := (some .int)) (by decide) rfl ?_
  intro p e s m args below meth c s₁ B hml hv
  obtain ⟨rfl, -⟩ := hv
  have C0 : Cx p s m _ meth c cX10_divided 2 (some .int) RX10 wsX10_divided := ⟨⟨B.exec, B.bytes, hml, findClass_of_methodNamed B.named, atoms_spec B.pre⟩, B.returns, B.notSynchronized⟩
  obtain ⟨⟨hx, hb, -, hown, hts⟩, hr, hlk⟩ := id C0
  have hl := lv_entry ([.int x0, .int x1]) (n := 2) (Nat.le_of_ble_eq_true rfl)
  rw [lg_entry_eq]
  generalize (lg_sl ([.int x0, .int x1]) ++ List.replicate (2 - (lg_sl ([.int x0, .int x1])).length) Slot.unset).toArray = ls at hl ⊢
  have hl : lv_has ls 2 [(0, .int x0), (1, .int x1)] := hl
  rw [pX10_divided] at h
  refine lv_iload_n hx hb dX10_divided_0 rfl (lv_at hl 1 rfl) ?_
  refine lv_if_le (tgt := 10) hx hb dX10_divided_1 (by decide) (fun c1 => ?_) (fun c1 => ?_)
  · replace h := k_ip c1 h
    refine lv_iconst (v := 0) hx hb dX10_divided_10 (by decide) ?_
    obtain rfl := k_sm h
    exact W.iret hx hb hr (fun t ht hW => ⟨rfl, ht⟩) (fun _ h => by cases h) dX10_divided_11
  · replace h := k_in c1 h
    refine lv_iload_n hx hb dX10_divided_4 rfl (lv_at hl 0 rfl) ?_
    refine lv_iload_n hx hb dX10_divided_5 rfl (lv_at hl 1 rfl) ?_
    obtain ⟨v1, e2, h⟩ := k_bd h
    refine lv_idiv hx hb dX10_divided_6 (k_dv e2).1 ?_
    refine lv_nmi (k_dv e2).2 ?_
    refine lv_goto (tgt := 11) hx hb dX10_divided_7 (by decide) ?_
    obtain rfl := k_sm h
    exact W.iret hx hb hr (fun t ht hW => ⟨rfl, ht⟩) (fun _ h => by cases h) dX10_divided_11
set_option maxHeartbeats 4000000 in
set_option maxRecDepth 100000 in
theorem kX9_strengthIn (l : Launch) {D : va_G} {cI cB cZ : ClassId} {ad : Nat → Nat} {τ : Int64} (σ : Sg) (x1 : Int32) (x2 : Int32) (x3 : Int32) (o : Int32) (h : pX9_strengthIn σ x1 x2 x3 = some o) : Met l yX9_strengthIn wsX9_strengthIn rmX9_strengthIn (va_Pc [.ref (ad 1), .int x1, .int x2, .int x3] (PW D cI cB cZ (CW cI ad τ σ))) (QcRead o) 0 0 (fun _ => False) := by
  refine Met.ofW (cc := cX9_strengthIn) (maxL := 4) (ret := (some .int)) (by decide) rfl ?_
  intro p e s m args below meth c s₁ B hml hv
  obtain ⟨rfl, hP, hK, hN⟩ := hv
  have C0 : Cx p s m _ meth c cX9_strengthIn 4 (some .int) RX9 wsX9_strengthIn := ⟨⟨B.exec, B.bytes, hml, findClass_of_methodNamed B.named, atoms_spec B.pre⟩, B.returns, B.notSynchronized⟩
  obtain ⟨⟨hx, hb, -, hown, hts⟩, hr, hlk⟩ := id C0
  have hl := lv_entry ([.ref (ad 1), .int x1, .int x2, .int x3]) (n := 4) (Nat.le_of_ble_eq_true rfl)
  rw [lg_entry_eq]
  generalize (lg_sl ([.ref (ad 1), .int x1, .int x2, .int x3]) ++ List.replicate (4 - (lg_sl ([.ref (ad 1), .int x1, .int x2, .int x3])).length) Slot.unset).toArray = ls at hl ⊢
  have hl : lv_has ls 4 [(0, .ref (ad 1)), (1, .int x1), (2, .int x2), (3, .int x3)] := hl
  rw [pX9_strengthIn] at h
  refine lv_aload_n hx hb dX9_strengthIn_0 rfl (lv_at hl 0 rfl) ?_
  refine va_get (D := D) (ci := 9) (v := .ref (ad 5)) (C := RX9) (T := TX9) (N := 10) hx hb hts iX9_strengthIn_X9 hown hK hP 1 cw_1 rfl 3 (by decide) (hts (.fieldLink RX9 21 RX9 "weight" "[I") (by decide +kernel)) (fun _ h9 => h9) rfl dX9_strengthIn_1 ?_
  refine lv_iload_n hx hb dX9_strengthIn_4 rfl (lv_at hl 2 rfl) ?_
  refine rd_calli (va_runSN (As := [.ref (ad 5), .int x2]) (rest := []) C0.1 (kX10_at l (ad 5) 8 (σ 5) x2 (by decide)) (wX9_strengthIn_X10_at hts hN ⟨Nat.le_of_ble_eq_true rfl, Nat.le_of_ble_eq_true rfl⟩) ⟨PAt.blind, PAt.mk (cw_t5 hK hP)⟩ rfl rfl hl.1 rfl (lv_room (Nat.le_of_ble_eq_true rfl)) dX9_strengthIn_5 ⟨Nat.zero_le _, Nat.zero_le _⟩) ?_
  refine lv_aload_n hx hb dX9_strengthIn_8 rfl (lv_at hl 0 rfl) ?_
  refine va_get (D := D) (ci := 9) (v := .ref (ad 3)) (C := RX9) (T := TX9) (N := 10) hx hb hts iX9_strengthIn_X9 hown hK hP 1 cw_1 rfl 1 (by decide) (hts (.fieldLink RX9 15 RX9 "grip" "[I") (by decide +kernel)) (fun _ h9 => h9) rfl dX9_strengthIn_9 ?_
  refine lv_iload_n hx hb dX9_strengthIn_12 rfl (lv_at hl 1 rfl) ?_
  refine rd_calli (va_runSN (As := [.ref (ad 3), .int x1]) (rest := [.int (pX10_at (σ 5) 8 x2)]) C0.1 (kX10_at l (ad 3) 10 (σ 3) x1 (by decide)) (wX9_strengthIn_X10_at hts hN ⟨Nat.le_of_ble_eq_true rfl, Nat.le_of_ble_eq_true rfl⟩) ⟨PAt.blind, PAt.mk (cw_t3 hK hP)⟩ rfl rfl hl.1 rfl (lv_room (Nat.le_of_ble_eq_true rfl)) dX9_strengthIn_13 ⟨Nat.zero_le _, Nat.zero_le _⟩) ?_
  refine lv_iconst (v := 1) hx hb dX9_strengthIn_16 (by decide) ?_
  refine lv_iadd hx hb dX9_strengthIn_17 ?_
  refine lv_imul hx hb dX9_strengthIn_18 ?_
  refine lv_iload_n hx hb dX9_strengthIn_19 rfl (lv_at hl 3 rfl) ?_
  refine lv_aload_n hx hb dX9_strengthIn_20 rfl (lv_at hl 0 rfl) ?_
  refine va_get (D := D) (ci := 9) (v := .ref (ad 2)) (C := RX9) (T := TX9) (N := 10) hx hb hts iX9_strengthIn_X9 hown hK hP 1 cw_1 rfl 0 (by decide) (hts (.fieldLink RX9 9 RX9 "deep" "[I") (by decide +kernel)) (fun _ h9 => h9) rfl dX9_strengthIn_21 ?_
  refine lv_iload_n hx hb dX9_strengthIn_24 rfl (lv_at hl 1 rfl) ?_
  refine rd_calli (va_runSN (As := [.ref (ad 2), .int x1]) (rest := [.int x3, .int ((pX10_at (σ 5) 8 x2) * ((pX10_at (σ 3) 10 x1) + 1))]) C0.1 (kX10_at l (ad 2) 10 (σ 2) x1 (by decide)) (wX9_strengthIn_X10_at hts hN ⟨Nat.le_of_ble_eq_true rfl, Nat.le_of_ble_eq_true rfl⟩) ⟨PAt.blind, PAt.mk (cw_t2 hK hP)⟩ rfl rfl hl.1 rfl (lv_room (Nat.le_of_ble_eq_true rfl)) dX9_strengthIn_25 ⟨Nat.zero_le _, Nat.zero_le _⟩) ?_
  obtain ⟨v1, e2, h⟩ := k_bd h
  refine rd_calli (va_runSN (As := [.int x3, .int (pX10_at (σ 2) 10 x1)]) (rest := [.int ((pX10_at (σ 5) 8 x2) * ((pX10_at (σ 3) 10 x1) + 1))]) C0.1 (kX10_divided l x3 (pX10_at (σ 2) 10 x1) _ e2) (wX9_strengthIn_X10_divided hts hN ⟨Nat.le_of_ble_eq_true rfl, Nat.le_of_ble_eq_true rfl⟩) ⟨PT.blind, fun _ _ _ => ⟨rfl, trivial⟩⟩ rfl rfl hl.1 rfl (lv_room (Nat.le_of_ble_eq_true rfl)) dX9_strengthIn_28 ⟨Nat.zero_le _, Nat.zero_le _⟩) ?_
  refine lv_iadd hx hb dX9_strengthIn_31 ?_
  obtain rfl := k_sm h
  exact W.iret hx hb hr (fun t ht hW => ⟨rfl, ht⟩) (fun _ h => by cases h) dX9_strengthIn_32
set_option maxHeartbeats 4000000 in
set_option maxRecDepth 100000 in
theorem kX9_strengthOf_20 (l : Launch) {D : va_G} {cI cB cZ : ClassId} {ad : Nat → Nat} {τ : Int64} (σ : Sg) (x2 : Int32) (o : Int32) (h : pX9_strengthOf 20 σ x2 = some o) : Met l yX9_strengthOf wsX9_strengthOf rmX9_strengthOf (va_Pc [.ref (ad 1), .ref (ad 19), .int x2] (PW D cI cB cZ (CW cI ad τ σ))) (QcRead o) 0 0 (fun _ => False) := by
  refine Met.ofW (cc := cX9_strengthOf) (maxL := 3) (ret := (some .int)) (by decide) rfl ?_
  intro p e s m args below meth c s₁ B hml hv
  obtain ⟨rfl, hP, hK, hN⟩ := hv
  have C0 : Cx p s m _ meth c cX9_strengthOf 3 (some .int) RX9 wsX9_strengthOf := ⟨⟨B.exec, B.bytes, hml, findClass_of_methodNamed B.named, atoms_spec B.pre⟩, B.returns, B.notSynchronized⟩
  obtain ⟨⟨hx, hb, -, hown, hts⟩, hr, hlk⟩ := id C0
  have hl := lv_entry ([.ref (ad 1), .ref (ad 19), .int x2]) (n := 3) (Nat.le_of_ble_eq_true rfl)
  rw [lg_entry_eq]
  generalize (lg_sl ([.ref (ad 1), .ref (ad 19), .int x2]) ++ List.replicate (3 - (lg_sl ([.ref (ad 1), .ref (ad 19), .int x2])).length) Slot.unset).toArray = ls at hl ⊢
  have hl : lv_has ls 3 [(0, .ref (ad 1)), (1, .ref (ad 19)), (2, .int x2)] := hl
  rw [pX9_strengthOf] at h
  refine lv_aload_n hx hb dX9_strengthOf_0 rfl (lv_at hl 0 rfl) ?_
  refine lv_aload_n hx hb dX9_strengthOf_1 rfl (lv_at hl 1 rfl) ?_
  refine lv_iconst (v := 0) hx hb dX9_strengthOf_2 (by decide) ?_
  refine lv_iload_n hx hb dX9_strengthOf_3 rfl (lv_at hl 2 rfl) ?_
  refine rd_calli (va_runVN (As := [.int 0, .int x2]) (rest := [.ref (ad 1)]) C0.1 (kX5_get_20 l (D := D) (cI := cI) (cB := cB) (cZ := cZ) (ad := ad) (τ := τ) σ 0 x2) (wX9_strengthOf_X5_get hts hN ⟨Nat.le_of_ble_eq_true rfl, Nat.le_of_ble_eq_true rfl⟩) ⟨PW.blind, cw_r19 hK hP, PW.mk hP hK hN⟩ rfl rfl hl.1 rfl (lv_room (Nat.le_of_ble_eq_true rfl)) dX9_strengthOf_4 ⟨Nat.zero_le _, Nat.zero_le _⟩) ?_
  refine lv_iload_n hx hb dX9_strengthOf_7 rfl (lv_at hl 2 rfl) ?_
  refine lv_aload_n hx hb dX9_strengthOf_8 rfl (lv_at hl 1 rfl) ?_
  refine lv_bipush (v := 8) hx hb dX9_strengthOf_9 (by decide) ?_
  refine lv_iload_n hx hb dX9_strengthOf_11 rfl (lv_at hl 2 rfl) ?_
  refine rd_calli (va_runVN (As := [.int 8, .int x2]) (rest := [.int x2, .int (pX5_get 20 σ 0 x2), .ref (ad 1)]) C0.1 (kX5_get_20 l (D := D) (cI := cI) (cB := cB) (cZ := cZ) (ad := ad) (τ := τ) σ 8 x2) (wX9_strengthOf_X5_get hts hN ⟨Nat.le_of_ble_eq_true rfl, Nat.le_of_ble_eq_true rfl⟩) ⟨PW.blind, cw_r19 hK hP, PW.mk hP hK hN⟩ rfl rfl hl.1 rfl (lv_room (Nat.le_of_ble_eq_true rfl)) dX9_strengthOf_12 ⟨Nat.zero_le _, Nat.zero_le _⟩) ?_
  obtain ⟨v1, e2, h⟩ := k_bd h
  refine rd_calli (va_runV (As := [.int (pX5_get 20 σ 0 x2), .int x2, .int (pX5_get 20 σ 8 x2)]) (rest := []) C0.1 (kX9_strengthIn l (D := D) (cI := cI) (cB := cB) (cZ := cZ) (ad := ad) (τ := τ) σ (pX5_get 20 σ 0 x2) x2 (pX5_get 20 σ 8 x2) _ e2) (wX9_strengthOf_X9_strengthIn hts ⟨Nat.le_of_ble_eq_true rfl, Nat.le_of_ble_eq_true rfl⟩) ⟨PW.blind, cw_r1 hK hP, PW.mk hP hK hN⟩ rfl rfl hl.1 rfl (lv_room (Nat.le_of_ble_eq_true rfl)) dX9_strengthOf_15 ⟨Nat.zero_le _, Nat.zero_le _⟩) ?_
  obtain rfl := k_sm h
  exact W.iret hx hb hr (fun t ht hW => ⟨rfl, ht⟩) (fun _ h => by cases h) dX9_strengthOf_18
set_option maxHeartbeats 4000000 in
set_option maxRecDepth 100000 in
theorem kX9_strengthOf_37 (l : Launch) {D : va_G} {cI cB cZ : ClassId} {ad : Nat → Nat} {τ : Int64} (σ : Sg) (x2 : Int32) (o : Int32) (h : pX9_strengthOf 37 σ x2 = some o) : Met l yX9_strengthOf wsX9_strengthOf rmX9_strengthOf (va_Pc [.ref (ad 1), .ref (ad 36), .int x2] (PW D cI cB cZ (CW cI ad τ σ))) (QcRead o) 0 0 (fun _ => False) := by
  refine Met.ofW (cc := cX9_strengthOf) (maxL := 3) (ret := (some .int)) (by decide) rfl ?_
  intro p e s m args below meth c s₁ B hml hv
  obtain ⟨rfl, hP, hK, hN⟩ := hv
  have C0 : Cx p s m _ meth c cX9_strengthOf 3 (some .int) RX9 wsX9_strengthOf := ⟨⟨B.exec, B.bytes, hml, findClass_of_methodNamed B.named, atoms_spec B.pre⟩, B.returns, B.notSynchronized⟩
  obtain ⟨⟨hx, hb, -, hown, hts⟩, hr, hlk⟩ := id C0
  have hl := lv_entry ([.ref (ad 1), .ref (ad 36), .int x2]) (n := 3) (Nat.le_of_ble_eq_true rfl)
  rw [lg_entry_eq]
  generalize (lg_sl ([.ref (ad 1), .ref (ad 36), .int x2]) ++ List.replicate (3 - (lg_sl ([.ref (ad 1), .ref (ad 36), .int x2])).length) Slot.unset).toArray = ls at hl ⊢
  have hl : lv_has ls 3 [(0, .ref (ad 1)), (1, .ref (ad 36)), (2, .int x2)] := hl
  rw [pX9_strengthOf] at h
  refine lv_aload_n hx hb dX9_strengthOf_0 rfl (lv_at hl 0 rfl) ?_
  refine lv_aload_n hx hb dX9_strengthOf_1 rfl (lv_at hl 1 rfl) ?_
  refine lv_iconst (v := 0) hx hb dX9_strengthOf_2 (by decide) ?_
  refine lv_iload_n hx hb dX9_strengthOf_3 rfl (lv_at hl 2 rfl) ?_
  refine rd_calli (va_runVN (As := [.int 0, .int x2]) (rest := [.ref (ad 1)]) C0.1 (kX5_get_37 l (D := D) (cI := cI) (cB := cB) (cZ := cZ) (ad := ad) (τ := τ) σ 0 x2) (wX9_strengthOf_X5_get hts hN ⟨Nat.le_of_ble_eq_true rfl, Nat.le_of_ble_eq_true rfl⟩) ⟨PW.blind, cw_r36 hK hP, PW.mk hP hK hN⟩ rfl rfl hl.1 rfl (lv_room (Nat.le_of_ble_eq_true rfl)) dX9_strengthOf_4 ⟨Nat.zero_le _, Nat.zero_le _⟩) ?_
  refine lv_iload_n hx hb dX9_strengthOf_7 rfl (lv_at hl 2 rfl) ?_
  refine lv_aload_n hx hb dX9_strengthOf_8 rfl (lv_at hl 1 rfl) ?_
  refine lv_bipush (v := 8) hx hb dX9_strengthOf_9 (by decide) ?_
  refine lv_iload_n hx hb dX9_strengthOf_11 rfl (lv_at hl 2 rfl) ?_
  refine rd_calli (va_runVN (As := [.int 8, .int x2]) (rest := [.int x2, .int (pX5_get 37 σ 0 x2), .ref (ad 1)]) C0.1 (kX5_get_37 l (D := D) (cI := cI) (cB := cB) (cZ := cZ) (ad := ad) (τ := τ) σ 8 x2) (wX9_strengthOf_X5_get hts hN ⟨Nat.le_of_ble_eq_true rfl, Nat.le_of_ble_eq_true rfl⟩) ⟨PW.blind, cw_r36 hK hP, PW.mk hP hK hN⟩ rfl rfl hl.1 rfl (lv_room (Nat.le_of_ble_eq_true rfl)) dX9_strengthOf_12 ⟨Nat.zero_le _, Nat.zero_le _⟩) ?_
  obtain ⟨v1, e2, h⟩ := k_bd h
  refine rd_calli (va_runV (As := [.int (pX5_get 37 σ 0 x2), .int x2, .int (pX5_get 37 σ 8 x2)]) (rest := []) C0.1 (kX9_strengthIn l (D := D) (cI := cI) (cB := cB) (cZ := cZ) (ad := ad) (τ := τ) σ (pX5_get 37 σ 0 x2) x2 (pX5_get 37 σ 8 x2) _ e2) (wX9_strengthOf_X9_strengthIn hts ⟨Nat.le_of_ble_eq_true rfl, Nat.le_of_ble_eq_true rfl⟩) ⟨PW.blind, cw_r1 hK hP, PW.mk hP hK hN⟩ rfl rfl hl.1 rfl (lv_room (Nat.le_of_ble_eq_true rfl)) dX9_strengthOf_15 ⟨Nat.zero_le _, Nat.zero_le _⟩) ?_
  obtain rfl := k_sm h
  exact W.iret hx hb hr (fun t ht hW => ⟨rfl, ht⟩) (fun _ h => by cases h) dX9_strengthOf_18
set_option maxHeartbeats 4000000 in
set_option maxRecDepth 100000 in
theorem kX10_isNoAnchor (l : Launch) {D : va_G} {cI cB cZ : ClassId} {ad : Nat → Nat} {τ : Int64} (σ : Sg) (x1 : Int32) : Met l yX10_isNoAnchor wsX10_isNoAnchor rmX10_isNoAnchor (va_Pc [.ref (ad 0), .int x1] (PW D cI cB cZ (CW cI ad τ σ))) (QcRead (pX10_isNoAnchor σ x1)) 0 0 (fun _ => False) := by
  obtain ⟨o, h⟩ : ∃ o, pX10_isNoAnchor σ x1 = o := ⟨_, rfl⟩
  rw [h]
  refine Met.ofW (cc := cX10_isNoAnchor) (maxL := 2) (ret := (some .boolean)) (by decide) rfl ?_
  intro p e s m args below meth c s₁ B hml hv
  obtain ⟨rfl, hP, hK, hN⟩ := hv
  have C0 : Cx p s m _ meth c cX10_isNoAnchor 2 (some .boolean) RX10 wsX10_isNoAnchor := ⟨⟨B.exec, B.bytes, hml, findClass_of_methodNamed B.named, atoms_spec B.pre⟩, B.returns, B.notSynchronized⟩
  obtain ⟨⟨hx, hb, -, hown, hts⟩, hr, hlk⟩ := id C0
  have hl := lv_entry ([.ref (ad 0), .int x1]) (n := 2) (Nat.le_of_ble_eq_true rfl)
  rw [lg_entry_eq]
  generalize (lg_sl ([.ref (ad 0), .int x1]) ++ List.replicate (2 - (lg_sl ([.ref (ad 0), .int x1])).length) Slot.unset).toArray = ls at hl ⊢
  have hl : lv_has ls 2 [(0, .ref (ad 0)), (1, .int x1)] := hl
  rw [pX10_isNoAnchor] at h
  refine lv_iload_n hx hb dX10_isNoAnchor_0 rfl (lv_at hl 1 rfl) ?_
  refine lv_iconst (v := 0) hx hb dX10_isNoAnchor_1 (by decide) ?_
  refine lv_aload_n hx hb dX10_isNoAnchor_2 rfl (lv_at hl 0 rfl) ?_
  refine va_get (D := D) (ci := 10) (v := .ref (ad 1)) (C := RX10) (T := TX10) (N := 12) hx hb hts iX10_isNoAnchor_X10 hown hK hP 0 cw_0 rfl 0 (by decide) (hts (.fieldLink RX10 10 RX10 "told" "LAnchorWills$Told;") (by decide +kernel)) (fun _ h9 => h9) rfl dX10_isNoAnchor_3 ?_
  refine va_getN (D := D) (ci := 9) (v := .int (σ 1 8)) (C := RX9) (T := TX9) (N := 10) hx hb hts iX10_isNoAnchor_X9 hown hK hP 1 cw_1 rfl 8 (by decide) (va_Nw.use rfl (nf_X10_203 hN)) (fun _ h9 => h9) rfl dX10_isNoAnchor_6 ?_
  refine lv_iconst (v := 1) hx hb dX10_isNoAnchor_9 (by decide) ?_
  refine lv_isub hx hb dX10_isNoAnchor_10 ?_
  refine rd_calli (va_runS (As := [.int x1, .int 0, .int ((σ 1 8) - 1)]) (rest := []) C0.1 (kX10_isOutside l x1 0 ((σ 1 8) - 1)) (wX10_isNoAnchor_X10_isOutside hts ⟨Nat.le_of_ble_eq_true rfl, Nat.le_of_ble_eq_true rfl⟩) ⟨PT.blind, fun _ _ _ => ⟨rfl, trivial⟩⟩ rfl rfl hl.1 rfl (lv_room (Nat.le_of_ble_eq_true rfl)) dX10_isNoAnchor_11 ⟨Nat.zero_le _, Nat.zero_le _⟩) ?_
  subst h
  exact W.zret hx hb hr (k_01 (z_pX10_isOutside x1 0 ((σ 1 8) - 1))) (fun t ht hW => ⟨rfl, ht⟩) (fun _ h => by cases h) dX10_isNoAnchor_14
set_option maxHeartbeats 4000000 in
set_option maxRecDepth 100000 in
theorem kX10_isNoForce (l : Launch) (x0 : Int32) : Met l yX10_isNoForce wsX10_isNoForce rmX10_isNoForce (va_Pc [.int x0] (fun _ => True)) (QcRead (pX10_isNoForce x0)) 0 0 (fun _ => False) := by
  obtain ⟨o, h⟩ : ∃ o, pX10_isNoForce x0 = o := ⟨_, rfl⟩
  rw [h]
  refine Met.ofW (cc := cX10_isNoForce) (maxL := 1) (ret := (some .boolean)) (by decide) rfl ?_
  intro p e s m args below meth c s₁ B hml hv
  obtain ⟨rfl, -⟩ := hv
  have C0 : Cx p s m _ meth c cX10_isNoForce 1 (some .boolean) RX10 wsX10_isNoForce := ⟨⟨B.exec, B.bytes, hml, findClass_of_methodNamed B.named, atoms_spec B.pre⟩, B.returns, B.notSynchronized⟩
  obtain ⟨⟨hx, hb, -, hown, hts⟩, hr, hlk⟩ := id C0
  have hl := lv_entry ([.int x0]) (n := 1) (Nat.le_of_ble_eq_true rfl)
  rw [lg_entry_eq]
  generalize (lg_sl ([.int x0]) ++ List.replicate (1 - (lg_sl ([.int x0])).length) Slot.unset).toArray = ls at hl ⊢
  have hl : lv_has ls 1 [(0, .int x0)] := hl
  rw [pX10_isNoForce] at h
  refine lv_iload_n hx hb dX10_isNoForce_0 rfl (lv_at hl 0 rfl) ?_
  refine lv_iconst (v := 1) hx hb dX10_isNoForce_1 (by decide) ?_
  refine lv_bipush (v := 99) hx hb dX10_isNoForce_2 (by decide) ?_
  refine rd_calli (va_runS (As := [.int x0, .int 1, .int 99]) (rest := []) C0.1 (kX10_isOutside l x0 1 99) (wX10_isNoForce_X10_isOutside hts ⟨Nat.le_of_ble_eq_true rfl, Nat.le_of_ble_eq_true rfl⟩) ⟨PT.blind, fun _ _ _ => ⟨rfl, trivial⟩⟩ rfl rfl hl.1 rfl (lv_room (Nat.le_of_ble_eq_true rfl)) dX10_isNoForce_4 ⟨Nat.zero_le _, Nat.zero_le _⟩) ?_
  subst h
  exact W.zret hx hb hr (k_01 (z_pX10_isOutside x0 1 99)) (fun t ht hW => ⟨rfl, ht⟩) (fun _ h => by cases h) dX10_isNoForce_7
set_option maxHeartbeats 4000000 in
set_option maxRecDepth 100000 in
theorem kX6_remembers_20 (l : Launch) {D : va_G} {cI cB cZ : ClassId} {ad : Nat → Nat} {τ : Int64} (hap : cwX ad) (σ : Sg) (o : Sg) (h : pX6_remembers 20 σ = some o) : Met l yX6_remembers wsX6_remembers rmX6_remembers (va_Pc [.ref (ad 21), .ref (ad 19)] (PW D cI cB cZ (CW cI ad τ σ))) (QV D (CW cI ad τ) (cwA ad) o) 0 0 (cwA ad) := by
  refine Met.ofW (cc := cX6_remembers) (maxL := 2) (ret := none) (by decide) rfl ?_
  intro p e s m args below meth c s₁ B hml hv
  obtain ⟨rfl, hP, hK, hN⟩ := hv
  have C0 : Cx p s m _ meth c cX6_remembers 2 none RX6 wsX6_remembers := ⟨⟨B.exec, B.bytes, hml, findClass_of_methodNamed B.named, atoms_spec B.pre⟩, B.returns, B.notSynchronized⟩
  obtain ⟨⟨hx, hb, -, hown, hts⟩, hr, hlk⟩ := id C0
  have hS : va_S (cwA ad) s.heap s.heap [] := va_S.rf
  have hl := lv_entry ([.ref (ad 21), .ref (ad 19)]) (n := 2) (Nat.le_of_ble_eq_true rfl)
  rw [lg_entry_eq]
  generalize (lg_sl ([.ref (ad 21), .ref (ad 19)]) ++ List.replicate (2 - (lg_sl ([.ref (ad 21), .ref (ad 19)])).length) Slot.unset).toArray = ls at hl ⊢
  have hl : lv_has ls 2 [(0, .ref (ad 21)), (1, .ref (ad 19))] := hl
  rw [pX6_remembers] at h
  refine lv_aload_n hx hb dX6_remembers_0 rfl (lv_at hl 0 rfl) ?_
  refine va_get (D := D) (ci := 6) (v := .int (σ 21 1)) (C := RX6) (T := TX6) (N := 2) hx hb hts iX6_remembers_X6 hown hK hP 21 cw_21 rfl 1 (by decide) (hts (.fieldLink RX6 15 RX6 "known" "I") (by decide +kernel)) (fun _ h9 => h9) rfl dX6_remembers_1 ?_
  refine lv_bipush (v := 10) hx hb dX6_remembers_4 (by decide) ?_
  obtain ⟨j1, e6, h⟩ := k_bd h
  have key : ∀ (H : Heap) (locs : List Loc) (ls : Array Slot), va_P D vwCl (CW cI ad τ j1) H → va_S (cwA ad) s.heap H locs → lv_has ls 2 [(0, .ref (ad 21)), (1, .ref (ad 19))] → W p l e rmX6_remembers s m ([.ref (ad 21), .ref (ad 19)] : List Value).toArray below meth c H locs 0 0 (MQ below (QV D (CW cI ad τ) (cwA ad) o) ([.ref (ad 21), .ref (ad 19)] : List Value).toArray s 0 0 (cwA ad)) (F0 m 36 ls []) := by
    intro H locs ls hP hS hl
    refine lv_aload_n hx hb dX6_remembers_36 rfl (lv_at hl 1 rfl) ?_
    refine va_getN (D := D) (ci := 5) (v := .ref (ad 20)) (C := RX5) (T := TX5) (N := 1) hx hb hts iX6_remembers_X5 hown hK hP 19 cw_19 rfl 0 (by decide) (va_Nw.use rfl (nf_X6_25 hN)) (fun _ h9 => h9) rfl dX6_remembers_37 ?_
    refine lv_iconst (v := 0) hx hb dX6_remembers_40 (by decide) ?_
    refine lv_aload_n hx hb dX6_remembers_41 rfl (lv_at hl 0 rfl) ?_
    refine va_get (D := D) (ci := 6) (v := .ref (ad 22)) (C := RX6) (T := TX6) (N := 2) hx hb hts iX6_remembers_X6 hown hK hP 21 cw_21 rfl 0 (by decide) (hts (.fieldLink RX6 11 RX6 "rows" "[I") (by decide +kernel)) (fun _ h9 => h9) rfl dX6_remembers_42 ?_
    refine lv_aload_n hx hb dX6_remembers_45 rfl (lv_at hl 0 rfl) ?_
    refine va_get (D := D) (ci := 6) (v := .int (j1 21 1)) (C := RX6) (T := TX6) (N := 2) hx hb hts iX6_remembers_X6 hown hK hP 21 cw_21 rfl 1 (by decide) (hts (.fieldLink RX6 15 RX6 "known" "I") (by decide +kernel)) (fun _ h9 => h9) rfl dX6_remembers_46 ?_
    refine lv_bipush (v := 45) hx hb dX6_remembers_49 (by decide) ?_
    refine lv_imul hx hb dX6_remembers_51 ?_
    refine lv_bipush (v := 45) hx hb dX6_remembers_52 (by decide) ?_
    refine wr_callv (va_runSN (As := [.ref (ad 20), .int 0, .ref (ad 22), .int ((j1 21 1) * 45), .int 45]) (rest := []) C0.1 (kX10_copy l (cw_D hap) 20 22 cw_20 cw_22 (by decide) (by decide) 0 ((j1 21 1) * 45) 45) (wX6_remembers_X10_copy hts hN ⟨Nat.le_of_ble_eq_true rfl, Nat.le_of_ble_eq_true rfl⟩) ⟨PW.blind, PW.mk hP hK hN⟩ rfl rfl hl.1 rfl (lv_room (Nat.le_of_ble_eq_true rfl)) dX6_remembers_54 ⟨Nat.zero_le _, Nat.zero_le _⟩) hS (fun _ h => h) (fun H locs hP hS => ?_)
    have hP := cw_s22 hP
    obtain ⟨σ7, e8, h⟩ := k_bd h
    rw [k_sm e8] at hP
    refine lv_aload_n hx hb dX6_remembers_57 rfl (lv_at hl 0 rfl) ?_
    refine lv_dup hx hb dX6_remembers_58 rfl ?_
    refine va_get (D := D) (ci := 6) (v := .int (σ7 21 1)) (C := RX6) (T := TX6) (N := 2) hx hb hts iX6_remembers_X6 hown hK hP 21 cw_21 rfl 1 (by decide) (hts (.fieldLink RX6 15 RX6 "known" "I") (by decide +kernel)) (fun _ h9 => h9) rfl dX6_remembers_59 ?_
    refine lv_iconst (v := 1) hx hb dX6_remembers_62 (by decide) ?_
    refine lv_iadd hx hb dX6_remembers_63 ?_
    refine va_put (D := D) (ci := 6) (v := .int ((σ7 21 1) + 1)) (ty := .int) (C := RX6) (T := TX6) (N := 2) hx hb hts iX6_remembers_X6 tyX6 tyX6_ok nmX6 hown hK hP (cw_D hap) hS 21 cw_21 rfl 1 (by decide) (hts (.fieldLink RX6 15 RX6 "known" "I") (by decide +kernel)) (fun _ h9 => h9) rfl (by decide +kernel) rfl rfl (Nat.le_of_ble_eq_true rfl) dX6_remembers_64 (fun H locs hP _ hS => ?_)
    have hP := cw_s21_1 hP
    obtain ⟨σ9, e10, h⟩ := k_bd h
    rw [k_sm e10] at hP
    obtain rfl := k_sm h
    exact W.vret hx hb hr (fun t ht hW => ⟨⟨_, rfl, rfl, pw_end ht hP⟩, hS.F ht⟩) hS.2.2 dX6_remembers_67
  clear h
  have h := e6
  clear e6
  refine lv_icmp_lt (tgt := 36) hx hb dX6_remembers_6 (by decide) (fun c6 => ?_) (fun c6 => ?_)
  · replace h := k_ip c6 h
    obtain rfl := k_sm h
    exact key _ _ _ hP hS (lv_sub hl [0, 1] rfl)
  · replace h := k_in c6 h
    refine lv_aload_n hx hb dX6_remembers_9 rfl (lv_at hl 0 rfl) ?_
    refine lv_bipush (v := 9) hx hb dX6_remembers_10 (by decide) ?_
    refine va_put (D := D) (ci := 6) (v := .int 9) (ty := .int) (C := RX6) (T := TX6) (N := 2) hx hb hts iX6_remembers_X6 tyX6 tyX6_ok nmX6 hown hK hP (cw_D hap) hS 21 cw_21 rfl 1 (by decide) (hts (.fieldLink RX6 15 RX6 "known" "I") (by decide +kernel)) (fun _ h9 => h9) rfl (by decide +kernel) rfl rfl (Nat.le_of_ble_eq_true rfl) dX6_remembers_12 (fun H locs hP _ hS => ?_)
    have hP := cw_s21_1 hP
    obtain ⟨σ2, e3, h⟩ := k_bd h
    rw [k_sm e3] at hP
    refine lv_aload_n hx hb dX6_remembers_15 rfl (lv_at hl 0 rfl) ?_
    refine va_get (D := D) (ci := 6) (v := .ref (ad 22)) (C := RX6) (T := TX6) (N := 2) hx hb hts iX6_remembers_X6 hown hK hP 21 cw_21 rfl 0 (by decide) (hts (.fieldLink RX6 11 RX6 "rows" "[I") (by decide +kernel)) (fun _ h9 => h9) rfl dX6_remembers_16 ?_
    refine lv_bipush (v := 45) hx hb dX6_remembers_19 (by decide) ?_
    refine lv_aload_n hx hb dX6_remembers_21 rfl (lv_at hl 0 rfl) ?_
    refine va_get (D := D) (ci := 6) (v := .ref (ad 22)) (C := RX6) (T := TX6) (N := 2) hx hb hts iX6_remembers_X6 hown hK hP 21 cw_21 rfl 0 (by decide) (hts (.fieldLink RX6 11 RX6 "rows" "[I") (by decide +kernel)) (fun _ h9 => h9) rfl dX6_remembers_22 ?_
    refine lv_iconst (v := 0) hx hb dX6_remembers_25 (by decide) ?_
    refine lv_aload_n hx hb dX6_remembers_26 rfl (lv_at hl 0 rfl) ?_
    refine va_get (D := D) (ci := 6) (v := .int (σ2 21 1)) (C := RX6) (T := TX6) (N := 2) hx hb hts iX6_remembers_X6 hown hK hP 21 cw_21 rfl 1 (by decide) (hts (.fieldLink RX6 15 RX6 "known" "I") (by decide +kernel)) (fun _ h9 => h9) rfl dX6_remembers_27 ?_
    refine lv_bipush (v := 45) hx hb dX6_remembers_30 (by decide) ?_
    refine lv_imul hx hb dX6_remembers_32 ?_
    refine wr_callv (va_runSN (As := [.ref (ad 22), .int 45, .ref (ad 22), .int 0, .int ((σ2 21 1) * 45)]) (rest := []) C0.1 (kX10_copy l (cw_D hap) 22 22 cw_22 cw_22 (by decide) (by decide) 45 0 ((σ2 21 1) * 45)) (wX6_remembers_X10_copy hts hN ⟨Nat.le_of_ble_eq_true rfl, Nat.le_of_ble_eq_true rfl⟩) ⟨PW.blind, PW.mk hP hK hN⟩ rfl rfl hl.1 rfl (lv_room (Nat.le_of_ble_eq_true rfl)) dX6_remembers_33 ⟨Nat.zero_le _, Nat.zero_le _⟩) hS (fun _ h => h) (fun H locs hP hS => ?_)
    have hP := cw_s22 hP
    obtain ⟨σ4, e5, h⟩ := k_bd h
    rw [k_sm e5] at hP
    obtain rfl := k_sm h
    exact key _ _ _ hP hS (lv_sub hl [0, 1] rfl)
set_option maxHeartbeats 4000000 in
set_option maxRecDepth 100000 in
theorem kX6_bringsBack_20 (l : Launch) {D : va_G} {cI cB cZ : ClassId} {ad : Nat → Nat} {τ : Int64} (hap : cwX ad) (σ : Sg) (o : (Int32 × Sg)) (h : pX6_bringsBack 20 σ = some o) : Met l yX6_bringsBack wsX6_bringsBack rmX6_bringsBack (va_Pc [.ref (ad 21), .ref (ad 19)] (PW D cI cB cZ (CW cI ad τ σ))) (QI D (CW cI ad τ) (cwA ad) o.1 o.2) 0 0 (cwA ad) := by
  refine Met.ofW (cc := cX6_bringsBack) (maxL := 2) (ret := (some .boolean)) (by decide) rfl ?_
  intro p e s m args below meth c s₁ B hml hv
  obtain ⟨rfl, hP, hK, hN⟩ := hv
  have C0 : Cx p s m _ meth c cX6_bringsBack 2 (some .boolean) RX6 wsX6_bringsBack := ⟨⟨B.exec, B.bytes, hml, findClass_of_methodNamed B.named, atoms_spec B.pre⟩, B.returns, B.notSynchronized⟩
  obtain ⟨⟨hx, hb, -, hown, hts⟩, hr, hlk⟩ := id C0
  have hS : va_S (cwA ad) s.heap s.heap [] := va_S.rf
  have hl := lv_entry ([.ref (ad 21), .ref (ad 19)]) (n := 2) (Nat.le_of_ble_eq_true rfl)
  rw [lg_entry_eq]
  generalize (lg_sl ([.ref (ad 21), .ref (ad 19)]) ++ List.replicate (2 - (lg_sl ([.ref (ad 21), .ref (ad 19)])).length) Slot.unset).toArray = ls at hl ⊢
  have hl : lv_has ls 2 [(0, .ref (ad 21)), (1, .ref (ad 19))] := hl
  rw [pX6_bringsBack] at h
  refine lv_aload_n hx hb dX6_bringsBack_0 rfl (lv_at hl 0 rfl) ?_
  refine va_get (D := D) (ci := 6) (v := .int (σ 21 1)) (C := RX6) (T := TX6) (N := 2) hx hb hts iX6_bringsBack_X6 hown hK hP 21 cw_21 rfl 1 (by decide) (hts (.fieldLink RX6 15 RX6 "known" "I") (by decide +kernel)) (fun _ h9 => h9) rfl dX6_bringsBack_1 ?_
  refine lv_iconst (v := 1) hx hb dX6_bringsBack_4 (by decide) ?_
  refine lv_icmp_ge (tgt := 10) hx hb dX6_bringsBack_5 (by decide) (fun c5 => ?_) (fun c5 => ?_)
  · replace h := k_ip c5 h
    refine lv_aload_n hx hb dX6_bringsBack_10 rfl (lv_at hl 0 rfl) ?_
    refine lv_dup hx hb dX6_bringsBack_11 rfl ?_
    refine va_get (D := D) (ci := 6) (v := .int (σ 21 1)) (C := RX6) (T := TX6) (N := 2) hx hb hts iX6_bringsBack_X6 hown hK hP 21 cw_21 rfl 1 (by decide) (hts (.fieldLink RX6 15 RX6 "known" "I") (by decide +kernel)) (fun _ h9 => h9) rfl dX6_bringsBack_12 ?_
    refine lv_iconst (v := 1) hx hb dX6_bringsBack_15 (by decide) ?_
    refine lv_isub hx hb dX6_bringsBack_16 ?_
    refine va_put (D := D) (ci := 6) (v := .int ((σ 21 1) - 1)) (ty := .int) (C := RX6) (T := TX6) (N := 2) hx hb hts iX6_bringsBack_X6 tyX6 tyX6_ok nmX6 hown hK hP (cw_D hap) hS 21 cw_21 rfl 1 (by decide) (hts (.fieldLink RX6 15 RX6 "known" "I") (by decide +kernel)) (fun _ h9 => h9) rfl (by decide +kernel) rfl rfl (Nat.le_of_ble_eq_true rfl) dX6_bringsBack_17 (fun H locs hP _ hS => ?_)
    have hP := cw_s21_1 hP
    obtain ⟨σ1, e2, h⟩ := k_bd h
    rw [k_sm e2] at hP
    refine lv_aload_n hx hb dX6_bringsBack_20 rfl (lv_at hl 0 rfl) ?_
    refine va_get (D := D) (ci := 6) (v := .ref (ad 22)) (C := RX6) (T := TX6) (N := 2) hx hb hts iX6_bringsBack_X6 hown hK hP 21 cw_21 rfl 0 (by decide) (hts (.fieldLink RX6 11 RX6 "rows" "[I") (by decide +kernel)) (fun _ h9 => h9) rfl dX6_bringsBack_21 ?_
    refine lv_aload_n hx hb dX6_bringsBack_24 rfl (lv_at hl 0 rfl) ?_
    refine va_get (D := D) (ci := 6) (v := .int (σ1 21 1)) (C := RX6) (T := TX6) (N := 2) hx hb hts iX6_bringsBack_X6 hown hK hP 21 cw_21 rfl 1 (by decide) (hts (.fieldLink RX6 15 RX6 "known" "I") (by decide +kernel)) (fun _ h9 => h9) rfl dX6_bringsBack_25 ?_
    refine lv_bipush (v := 45) hx hb dX6_bringsBack_28 (by decide) ?_
    refine lv_imul hx hb dX6_bringsBack_30 ?_
    refine lv_aload_n hx hb dX6_bringsBack_31 rfl (lv_at hl 1 rfl) ?_
    refine va_getN (D := D) (ci := 5) (v := .ref (ad 20)) (C := RX5) (T := TX5) (N := 1) hx hb hts iX6_bringsBack_X5 hown hK hP 19 cw_19 rfl 0 (by decide) (va_Nw.use rfl (nf_X6_25 hN)) (fun _ h9 => h9) rfl dX6_bringsBack_32 ?_
    refine lv_iconst (v := 0) hx hb dX6_bringsBack_35 (by decide) ?_
    refine lv_bipush (v := 45) hx hb dX6_bringsBack_36 (by decide) ?_
    refine wr_callv (va_runSN (As := [.ref (ad 22), .int ((σ1 21 1) * 45), .ref (ad 20), .int 0, .int 45]) (rest := []) C0.1 (kX10_copy l (cw_D hap) 22 20 cw_22 cw_20 (by decide) (by decide) ((σ1 21 1) * 45) 0 45) (wX6_bringsBack_X10_copy hts hN ⟨Nat.le_of_ble_eq_true rfl, Nat.le_of_ble_eq_true rfl⟩) ⟨PW.blind, PW.mk hP hK hN⟩ rfl rfl hl.1 rfl (lv_room (Nat.le_of_ble_eq_true rfl)) dX6_bringsBack_38 ⟨Nat.zero_le _, Nat.zero_le _⟩) hS (fun _ h => h) (fun H locs hP hS => ?_)
    have hP := cw_s20 hP
    obtain ⟨σ3, e4, h⟩ := k_bd h
    rw [k_sm e4] at hP
    refine lv_iconst (v := 1) hx hb dX6_bringsBack_41 (by decide) ?_
    obtain rfl := k_sm h
    exact W.zret hx hb hr rfl (fun t ht hW => ⟨⟨_, _, rfl, ⟨rfl, rfl⟩, pw_end ht hP⟩, hS.F ht⟩) hS.2.2 dX6_bringsBack_42
  · replace h := k_in c5 h
    refine lv_iconst (v := 0) hx hb dX6_bringsBack_8 (by decide) ?_
    obtain rfl := k_sm h
    exact W.zret hx hb hr rfl (fun t ht hW => ⟨⟨_, _, rfl, ⟨rfl, rfl⟩, pw_end ht hP⟩, hS.F ht⟩) hS.2.2 dX6_bringsBack_9
set_option maxHeartbeats 4000000 in
set_option maxRecDepth 100000 in
theorem bX10_thoseThatAre_L5_20 {p : Program} {l : Launch} {e : Env} {s : State} {m : MethodId} {args : Array Value} {below : List Frame} {meth : Method} {c : Code} {Q : State → Prop} {D : va_G} {cI cB cZ : ClassId} {ad : Nat → Nat} (C0 : Cx p s m args meth c cX10_thoseThatAre 5 (some .int) RX10 wsX10_thoseThatAre) (hK : va_K D vwCl (tysA cI cB cZ) s) (hN : NW s) {τ : Int64} {σ : Sg} (hP : va_P D vwCl (CW cI ad τ σ) s.heap) (x2 : Int32) : ∀ (n : Nat) (x3 : Int32) (x4 : Int32) (v : Int32) (ls : Array Slot), lv_has ls 5 [(0, .ref (ad 1)), (1, .ref (ad 19)), (2, .int x2), (3, .int x3), (4, .int x4)] → pX10_thoseThatAre_L5 20 σ x2 n x3 x4 = some v → (∀ (ls1 : Array Slot), lv_has ls1 5 [(3, .int v)] → W p l e rmX10_thoseThatAre s m args below meth c s.heap [] 0 0 Q (F0 m 40 ls1 [])) → W p l e rmX10_thoseThatAre s m args below meth c s.heap [] 0 0 Q (F0 m 5 ls []) := by
  obtain ⟨⟨hx, hb, hml, hown, hts⟩, hr, hlk⟩ := id C0
  intro n
  induction n with
  | zero =>
    intro x3 x4 v ls hl h kk
    exact absurd h (by simp [pX10_thoseThatAre_L5])
  | succ n ih =>
    intro x3 x4 v ls hl h kk
    rw [pX10_thoseThatAre_L5] at h
    refine lv_iload hx hb dX10_thoseThatAre_5 (lv_at hl 4 rfl) ?_
    refine lv_aload_n hx hb dX10_thoseThatAre_7 rfl (lv_at hl 0 rfl) ?_
    refine va_getN (D := D) (ci := 9) (v := .int (σ 1 8)) (C := RX9) (T := TX9) (N := 10) hx hb hts iX10_thoseThatAre_X9 hown hK hP 1 cw_1 rfl 8 (by decide) (va_Nw.use rfl (nf_X10_203 hN)) (fun _ h9 => h9) rfl dX10_thoseThatAre_8 ?_
    refine lv_icmp_ge (tgt := 40) hx hb dX10_thoseThatAre_11 (by decide) (fun c11 => ?_) (fun c11 => ?_)
    · replace h := k_ip c11 h
      obtain rfl := k_sm h
      exact kk _ (lv_sub hl [3] rfl)
    · replace h := k_in c11 h
      refine lv_aload_n hx hb dX10_thoseThatAre_14 rfl (lv_at hl 1 rfl) ?_
      refine lv_bipush (v := 24) hx hb dX10_thoseThatAre_15 (by decide) ?_
      refine lv_iload hx hb dX10_thoseThatAre_17 (lv_at hl 4 rfl) ?_
      refine rd_calli (va_runVN (As := [.int 24, .int x4]) (rest := []) C0.1 (kX5_get_20 l (D := D) (cI := cI) (cB := cB) (cZ := cZ) (ad := ad) (τ := τ) σ 24 x4) (wX10_thoseThatAre_X5_get hts hN ⟨Nat.le_of_ble_eq_true rfl, Nat.le_of_ble_eq_true rfl⟩) ⟨PW.blind, cw_r19 hK hP, PW.mk hP hK hN⟩ rfl rfl hl.1 rfl (lv_room (Nat.le_of_ble_eq_true rfl)) dX10_thoseThatAre_19 ⟨Nat.zero_le _, Nat.zero_le _⟩) ?_
      refine lv_iload_n hx hb dX10_thoseThatAre_22 rfl (lv_at hl 2 rfl) ?_
      refine lv_icmp_ne (tgt := 34) hx hb dX10_thoseThatAre_23 (by decide) (fun c23 => ?_) (fun c23 => ?_)
      · replace h := k_in c23 h
        refine lv_iinc (v := (x4 + 1)) (lv' := [(4, .int (x4 + 1)), (0, .ref (ad 1)), (1, .ref (ad 19)), (2, .int x2), (3, .int x3)]) hx hb dX10_thoseThatAre_34 hl (k := 4) rfl rfl (by decide) rfl (fun ls hl => ?_)
        refine lv_goto (tgt := 5) hx hb dX10_thoseThatAre_37 (by decide) ?_
        exact ih x3 (x4 + 1) _ ls (lv_sub hl [1, 2, 3, 4, 0] rfl) h kk
      · replace h := k_ip c23 h
        refine lv_iload_n hx hb dX10_thoseThatAre_26 rfl (lv_at hl 3 rfl) ?_
        refine lv_iload hx hb dX10_thoseThatAre_27 (lv_at hl 4 rfl) ?_
        refine rd_calli (va_runS (As := [.int x4]) (rest := [.int x3]) C0.1 (kX10_bit l x4) (wX10_thoseThatAre_X10_bit hts ⟨Nat.le_of_ble_eq_true rfl, Nat.le_of_ble_eq_true rfl⟩) ⟨PT.blind, fun _ _ _ => ⟨rfl, trivial⟩⟩ rfl rfl hl.1 rfl (lv_room (Nat.le_of_ble_eq_true rfl)) dX10_thoseThatAre_29 ⟨Nat.zero_le _, Nat.zero_le _⟩) ?_
        refine lv_ior hx hb dX10_thoseThatAre_32 ?_
        obtain ⟨v1, e2, h⟩ := k_bd h
        refine lv_nmi (k_sm e2) ?_
        refine lv_istore_n (lv' := [(3, .int v1), (0, .ref (ad 1)), (1, .ref (ad 19)), (2, .int x2), (4, .int x4)]) hx hb dX10_thoseThatAre_33 rfl hl (by decide) rfl (fun ls hl => ?_)
        refine lv_iinc (v := (x4 + 1)) (lv' := [(4, .int (x4 + 1)), (3, .int v1), (0, .ref (ad 1)), (1, .ref (ad 19)), (2, .int x2)]) hx hb dX10_thoseThatAre_34 hl (k := 4) rfl rfl (by decide) rfl (fun ls hl => ?_)
        refine lv_goto (tgt := 5) hx hb dX10_thoseThatAre_37 (by decide) ?_
        exact ih v1 (x4 + 1) _ ls (lv_sub hl [2, 3, 4, 1, 0] rfl) h kk
set_option maxHeartbeats 4000000 in
set_option maxRecDepth 100000 in
theorem kX10_thoseThatAre_20 (l : Launch) {D : va_G} {cI cB cZ : ClassId} {ad : Nat → Nat} {τ : Int64} (σ : Sg) (x2 : Int32) (o : Int32) (h : pX10_thoseThatAre 20 σ x2 = some o) : Met l yX10_thoseThatAre wsX10_thoseThatAre rmX10_thoseThatAre (va_Pc [.ref (ad 1), .ref (ad 19), .int x2] (PW D cI cB cZ (CW cI ad τ σ))) (QcRead o) 0 0 (fun _ => False) := by
  refine Met.ofW (cc := cX10_thoseThatAre) (maxL := 5) (ret := (some .int)) (by decide) rfl ?_
  intro p e s m args below meth c s₁ B hml hv
  obtain ⟨rfl, hP, hK, hN⟩ := hv
  have C0 : Cx p s m _ meth c cX10_thoseThatAre 5 (some .int) RX10 wsX10_thoseThatAre := ⟨⟨B.exec, B.bytes, hml, findClass_of_methodNamed B.named, atoms_spec B.pre⟩, B.returns, B.notSynchronized⟩
  obtain ⟨⟨hx, hb, -, hown, hts⟩, hr, hlk⟩ := id C0
  have hl := lv_entry ([.ref (ad 1), .ref (ad 19), .int x2]) (n := 5) (Nat.le_of_ble_eq_true rfl)
  rw [lg_entry_eq]
  generalize (lg_sl ([.ref (ad 1), .ref (ad 19), .int x2]) ++ List.replicate (5 - (lg_sl ([.ref (ad 1), .ref (ad 19), .int x2])).length) Slot.unset).toArray = ls at hl ⊢
  have hl : lv_has ls 5 [(0, .ref (ad 1)), (1, .ref (ad 19)), (2, .int x2)] := hl
  rw [pX10_thoseThatAre] at h
  refine lv_iconst (v := 0) hx hb dX10_thoseThatAre_0 (by decide) ?_
  refine lv_istore_n (lv' := [(3, .int 0), (0, .ref (ad 1)), (1, .ref (ad 19)), (2, .int x2)]) hx hb dX10_thoseThatAre_1 rfl hl (by decide) rfl (fun ls hl => ?_)
  refine lv_iconst (v := 0) hx hb dX10_thoseThatAre_2 (by decide) ?_
  refine lv_istore (lv' := [(4, .int 0), (3, .int 0), (0, .ref (ad 1)), (1, .ref (ad 19)), (2, .int x2)]) hx hb dX10_thoseThatAre_3 hl (by decide) rfl (fun ls hl => ?_)
  obtain ⟨w3, e4, h⟩ := k_bd h
  refine bX10_thoseThatAre_L5_20 C0 hK hN hP x2 2000 0 0 _ ls (lv_sub hl [2, 3, 4, 1, 0] rfl) e4 (fun ls hl => ?_)
  refine lv_iload_n hx hb dX10_thoseThatAre_40 rfl (lv_at hl 0 rfl) ?_
  obtain rfl := k_sm h
  exact W.iret hx hb hr (fun t ht hW => ⟨rfl, ht⟩) (fun _ h => by cases h) dX10_thoseThatAre_41
set_option maxHeartbeats 4000000 in
set_option maxRecDepth 100000 in
theorem bX10_commonPart_L15 {p : Program} {l : Launch} {e : Env} {s : State} {m : MethodId} {args : Array Value} {below : List Frame} {meth : Method} {c : Code} {Q : State → Prop} (C0 : Cx p s m args meth c cX10_commonPart 6 (some .int) RX10 wsX10_commonPart)  : ∀ (n : Nat) (x2 : Int32) (x3 : Int32) (x4 : Int32) (v : Int32) (ls : Array Slot), lv_has ls 6 [(2, .int x2), (3, .int x3), (4, .int x4)] → pX10_commonPart_L15  n x2 x3 x4 = some v → (∀ (ls1 : Array Slot), lv_has ls1 6 [(2, .int v)] → W p l e rmX10_commonPart s m args below meth c s.heap [] 0 0 Q (F0 m 42 ls1 [])) → W p l e rmX10_commonPart s m args below meth c s.heap [] 0 0 Q (F0 m 15 ls []) := by
  obtain ⟨⟨hx, hb, hml, hown, hts⟩, hr, hlk⟩ := id C0
  intro n
  induction n with
  | zero =>
    intro x2 x3 x4 v ls hl h kk
    exact absurd h (by simp [pX10_commonPart_L15])
  | succ n ih =>
    intro x2 x3 x4 v ls hl h kk
    rw [pX10_commonPart_L15] at h
    refine lv_iload hx hb dX10_commonPart_15 (lv_at hl 2 rfl) ?_
    refine lv_bipush (v := 99) hx hb dX10_commonPart_17 (by decide) ?_
    refine lv_icmp_ge (tgt := 42) hx hb dX10_commonPart_19 (by decide) (fun c19 => ?_) (fun c19 => ?_)
    · replace h := k_ip c19 h
      obtain rfl := k_sm h
      exact kk _ (lv_sub hl [0] rfl)
    · replace h := k_in c19 h
      refine lv_iload_n hx hb dX10_commonPart_22 rfl (lv_at hl 1 rfl) ?_
      refine lv_if_le (tgt := 42) hx hb dX10_commonPart_23 (by decide) (fun c23 => ?_) (fun c23 => ?_)
      · replace h := k_ip c23 h
        obtain rfl := k_sm h
        exact kk _ (lv_sub hl [0] rfl)
      · replace h := k_in c23 h
        refine lv_iload_n hx hb dX10_commonPart_26 rfl (lv_at hl 0 rfl) ?_
        refine lv_iload_n hx hb dX10_commonPart_27 rfl (lv_at hl 1 rfl) ?_
        obtain ⟨v5, e6, h⟩ := k_bd h
        refine lv_irem hx hb dX10_commonPart_28 (k_rm e6).1 ?_
        refine lv_nmi (k_rm e6).2 ?_
        refine lv_istore (lv' := [(5, .int v5), (2, .int x2), (3, .int x3), (4, .int x4)]) hx hb dX10_commonPart_29 hl (by decide) rfl (fun ls hl => ?_)
        refine lv_iload_n hx hb dX10_commonPart_31 rfl (lv_at hl 2 rfl) ?_
        refine lv_istore_n (lv' := [(2, .int x3), (5, .int v5), (3, .int x3), (4, .int x4)]) hx hb dX10_commonPart_32 rfl hl (by decide) rfl (fun ls hl => ?_)
        refine lv_iload hx hb dX10_commonPart_33 (lv_at hl 1 rfl) ?_
        refine lv_istore_n (lv' := [(3, .int v5), (2, .int x3), (5, .int v5), (4, .int x4)]) hx hb dX10_commonPart_35 rfl hl (by decide) rfl (fun ls hl => ?_)
        refine lv_iinc (v := (x4 + 1)) (lv' := [(4, .int (x4 + 1)), (3, .int v5), (2, .int x3), (5, .int v5)]) hx hb dX10_commonPart_36 hl (k := 3) rfl rfl (by decide) rfl (fun ls hl => ?_)
        refine lv_goto (tgt := 15) hx hb dX10_commonPart_39 (by decide) ?_
        exact ih x3 v5 (x4 + 1) _ ls (lv_sub hl [2, 1, 0] rfl) h kk
set_option maxHeartbeats 4000000 in
set_option maxRecDepth 100000 in
theorem kX10_commonPart (l : Launch) (x0 : Int32) (x1 : Int32) (o : Int32) (h : pX10_commonPart x0 x1 = some o) : Met l yX10_commonPart wsX10_commonPart rmX10_commonPart (va_Pc [.int x0, .int x1] (fun _ => True)) (QcRead o) 0 0 (fun _ => False) := by
  refine Met.ofW (cc := cX10_commonPart) (maxL := 6) (ret := (some .int)) (by decide) rfl ?_
  intro p e s m args below meth c s₁ B hml hv
  obtain ⟨rfl, -⟩ := hv
  have C0 : Cx p s m _ meth c cX10_commonPart 6 (some .int) RX10 wsX10_commonPart := ⟨⟨B.exec, B.bytes, hml, findClass_of_methodNamed B.named, atoms_spec B.pre⟩, B.returns, B.notSynchronized⟩
  obtain ⟨⟨hx, hb, -, hown, hts⟩, hr, hlk⟩ := id C0
  have hl := lv_entry ([.int x0, .int x1]) (n := 6) (Nat.le_of_ble_eq_true rfl)
  rw [lg_entry_eq]
  generalize (lg_sl ([.int x0, .int x1]) ++ List.replicate (6 - (lg_sl ([.int x0, .int x1])).length) Slot.unset).toArray = ls at hl ⊢
  have hl : lv_has ls 6 [(0, .int x0), (1, .int x1)] := hl
  rw [pX10_commonPart] at h
  refine lv_iload_n hx hb dX10_commonPart_0 rfl (lv_at hl 0 rfl) ?_
  refine lv_iload_n hx hb dX10_commonPart_1 rfl (lv_at hl 1 rfl) ?_
  refine va_mmax hx hb (hml.trans hl.1.symm) hown (hts (.methodLink RX10 296 Lib.Math.max.name) (by decide +kernel)) (hts (.static Lib.Math.max.name) (by decide +kernel)) (hts (.initialized "java/lang/Math") (by decide +kernel)) (hts (.code Lib.Math.max.name Lib.Math.max.code 2 (some .int)) (by decide +kernel)) (Nat.le_of_ble_eq_true rfl) (Nat.le_of_ble_eq_true rfl) (Nat.zero_le _) (Nat.zero_le _) dX10_commonPart_2 ?_
  obtain ⟨v1, e2, h⟩ := k_bd h
  refine lv_nmi (k_sm e2) ?_
  refine lv_istore_n (lv' := [(2, .int v1), (0, .int x0), (1, .int x1)]) hx hb dX10_commonPart_5 rfl hl (by decide) rfl (fun ls hl => ?_)
  refine lv_iload_n hx hb dX10_commonPart_6 rfl (lv_at hl 1 rfl) ?_
  refine lv_iload_n hx hb dX10_commonPart_7 rfl (lv_at hl 2 rfl) ?_
  refine va_mmin hx hb (hml.trans hl.1.symm) hown (hts (.methodLink RX10 206 Lib.Math.min.name) (by decide +kernel)) (hts (.static Lib.Math.min.name) (by decide +kernel)) (hts (.initialized "java/lang/Math") (by decide +kernel)) (hts (.code Lib.Math.min.name Lib.Math.min.code 2 (some .int)) (by decide +kernel)) (Nat.le_of_ble_eq_true rfl) (Nat.le_of_ble_eq_true rfl) (Nat.zero_le _) (Nat.zero_le _) dX10_commonPart_8 ?_
  obtain ⟨v3, e4, h⟩ := k_bd h
  refine lv_nmi (k_sm e4) ?_
  refine lv_istore_n (lv' := [(3, .int v3), (2, .int v1), (0, .int x0), (1, .int x1)]) hx hb dX10_commonPart_11 rfl hl (by decide) rfl (fun ls hl => ?_)
  refine lv_iconst (v := 0) hx hb dX10_commonPart_12 (by decide) ?_
  refine lv_istore (lv' := [(4, .int 0), (3, .int v3), (2, .int v1), (0, .int x0), (1, .int x1)]) hx hb dX10_commonPart_13 hl (by decide) rfl (fun ls hl => ?_)
  obtain ⟨w7, e8, h⟩ := k_bd h
  refine bX10_commonPart_L15 C0  2000 v1 v3 0 _ ls (lv_sub hl [2, 1, 0] rfl) e8 (fun ls hl => ?_)
  refine lv_iload_n hx hb dX10_commonPart_42 rfl (lv_at hl 0 rfl) ?_
  obtain rfl := k_sm h
  exact W.iret hx hb hr (fun t ht hW => ⟨rfl, ht⟩) (fun _ h => by cases h) dX10_commonPart_43
set_option maxHeartbeats 4000000 in
set_option maxRecDepth 100000 in
theorem bX10_power_L4 {p : Program} {l : Launch} {e : Env} {s : State} {m : MethodId} {args : Array Value} {below : List Frame} {meth : Method} {c : Code} {Q : State → Prop} (C0 : Cx p s m args meth c cX10_power 4 (some .int) RX10 wsX10_power) (x0 : Int32) (x1 : Int32) : ∀ (n : Nat) (x2 : Int32) (x3 : Int32) (v : Int32) (ls : Array Slot), lv_has ls 4 [(0, .int x0), (1, .int x1), (2, .int x2), (3, .int x3)] → pX10_power_L4 x0 x1 n x2 x3 = some v → (∀ (ls1 : Array Slot), lv_has ls1 4 [(2, .int v)] → W p l e rmX10_power s m args below meth c s.heap [] 0 0 Q (F0 m 19 ls1 [])) → W p l e rmX10_power s m args below meth c s.heap [] 0 0 Q (F0 m 4 ls []) := by
  obtain ⟨⟨hx, hb, hml, hown, hts⟩, hr, hlk⟩ := id C0
  intro n
  induction n with
  | zero =>
    intro x2 x3 v ls hl h kk
    exact absurd h (by simp [pX10_power_L4])
  | succ n ih =>
    intro x2 x3 v ls hl h kk
    rw [pX10_power_L4] at h
    refine lv_iload_n hx hb dX10_power_4 rfl (lv_at hl 3 rfl) ?_
    refine lv_iload_n hx hb dX10_power_5 rfl (lv_at hl 1 rfl) ?_
    refine lv_icmp_ge (tgt := 19) hx hb dX10_power_6 (by decide) (fun c6 => ?_) (fun c6 => ?_)
    · replace h := k_ip c6 h
      obtain rfl := k_sm h
      exact kk _ (lv_sub hl [2] rfl)
    · replace h := k_in c6 h
      refine lv_iload_n hx hb dX10_power_9 rfl (lv_at hl 2 rfl) ?_
      refine lv_iload_n hx hb dX10_power_10 rfl (lv_at hl 0 rfl) ?_
      refine lv_imul hx hb dX10_power_11 ?_
      obtain ⟨v1, e2, h⟩ := k_bd h
      refine lv_nmi (k_sm e2) ?_
      refine lv_istore_n (lv' := [(2, .int v1), (0, .int x0), (1, .int x1), (3, .int x3)]) hx hb dX10_power_12 rfl hl (by decide) rfl (fun ls hl => ?_)
      refine lv_iinc (v := (x3 + 1)) (lv' := [(3, .int (x3 + 1)), (2, .int v1), (0, .int x0), (1, .int x1)]) hx hb dX10_power_13 hl (k := 3) rfl rfl (by decide) rfl (fun ls hl => ?_)
      refine lv_goto (tgt := 4) hx hb dX10_power_16 (by decide) ?_
      exact ih v1 (x3 + 1) _ ls (lv_sub hl [2, 3, 1, 0] rfl) h kk
set_option maxHeartbeats 4000000 in
set_option maxRecDepth 100000 in
theorem kX10_power (l : Launch) (x0 : Int32) (x1 : Int32) (o : Int32) (h : pX10_power x0 x1 = some o) : Met l yX10_power wsX10_power rmX10_power (va_Pc [.int x0, .int x1] (fun _ => True)) (QcRead o) 0 0 (fun _ => False) := by
  refine Met.ofW (cc := cX10_power) (maxL := 4) (ret := (some .int)) (by decide) rfl ?_
  intro p e s m args below meth c s₁ B hml hv
  obtain ⟨rfl, -⟩ := hv
  have C0 : Cx p s m _ meth c cX10_power 4 (some .int) RX10 wsX10_power := ⟨⟨B.exec, B.bytes, hml, findClass_of_methodNamed B.named, atoms_spec B.pre⟩, B.returns, B.notSynchronized⟩
  obtain ⟨⟨hx, hb, -, hown, hts⟩, hr, hlk⟩ := id C0
  have hl := lv_entry ([.int x0, .int x1]) (n := 4) (Nat.le_of_ble_eq_true rfl)
  rw [lg_entry_eq]
  generalize (lg_sl ([.int x0, .int x1]) ++ List.replicate (4 - (lg_sl ([.int x0, .int x1])).length) Slot.unset).toArray = ls at hl ⊢
  have hl : lv_has ls 4 [(0, .int x0), (1, .int x1)] := hl
  rw [pX10_power] at h
  refine lv_iconst (v := 1) hx hb dX10_power_0 (by decide) ?_
  refine lv_istore_n (lv' := [(2, .int 1), (0, .int x0), (1, .int x1)]) hx hb dX10_power_1 rfl hl (by decide) rfl (fun ls hl => ?_)
  refine lv_iconst (v := 0) hx hb dX10_power_2 (by decide) ?_
  refine lv_istore_n (lv' := [(3, .int 0), (2, .int 1), (0, .int x0), (1, .int x1)]) hx hb dX10_power_3 rfl hl (by decide) rfl (fun ls hl => ?_)
  obtain ⟨w3, e4, h⟩ := k_bd h
  refine bX10_power_L4 C0 x0 x1 2000 1 0 _ ls (lv_sub hl [2, 3, 1, 0] rfl) e4 (fun ls hl => ?_)
  refine lv_iload_n hx hb dX10_power_19 rfl (lv_at hl 0 rfl) ?_
  obtain rfl := k_sm h
  exact W.iret hx hb hr (fun t ht hW => ⟨rfl, ht⟩) (fun _ h => by cases h) dX10_power_20
set_option maxHeartbeats 4000000 in
set_option maxRecDepth 100000 in
theorem kX10_imageOf (l : Launch) {D : va_G} {cI cB cZ : ClassId} {ad : Nat → Nat} {τ : Int64} (σ : Sg) (x1 : Int32) : Met l yX10_imageOf wsX10_imageOf rmX10_imageOf (va_Pc [.ref (ad 0), .int x1] (PW D cI cB cZ (CW cI ad τ σ))) (QcReadR (ad (pX10_imageOf σ x1))) 0 0 (fun _ => False) := by
  obtain ⟨o, h⟩ : ∃ o, pX10_imageOf σ x1 = o := ⟨_, rfl⟩
  rw [h]
  refine Met.ofW (cc := cX10_imageOf) (maxL := 2) (ret := (some (.object "AnchorWills$Image"))) (by decide) rfl ?_
  intro p e s m args below meth c s₁ B hml hv
  obtain ⟨rfl, hP, hK, hN⟩ := hv
  have C0 : Cx p s m _ meth c cX10_imageOf 2 (some (.object "AnchorWills$Image")) RX10 wsX10_imageOf := ⟨⟨B.exec, B.bytes, hml, findClass_of_methodNamed B.named, atoms_spec B.pre⟩, B.returns, B.notSynchronized⟩
  obtain ⟨⟨hx, hb, -, hown, hts⟩, hr, hlk⟩ := id C0
  have hl := lv_entry ([.ref (ad 0), .int x1]) (n := 2) (Nat.le_of_ble_eq_true rfl)
  rw [lg_entry_eq]
  generalize (lg_sl ([.ref (ad 0), .int x1]) ++ List.replicate (2 - (lg_sl ([.ref (ad 0), .int x1])).length) Slot.unset).toArray = ls at hl ⊢
  have hl : lv_has ls 2 [(0, .ref (ad 0)), (1, .int x1)] := hl
  rw [pX10_imageOf] at h
  refine lv_iload_n hx hb dX10_imageOf_0 rfl (lv_at hl 1 rfl) ?_
  refine lv_if_ne (tgt := 11) hx hb dX10_imageOf_1 (by decide) (fun c1 => ?_) (fun c1 => ?_)
  · replace h := k_in c1 h
    refine lv_aload_n hx hb dX10_imageOf_11 rfl (lv_at hl 0 rfl) ?_
    refine va_get (D := D) (ci := 10) (v := .ref (ad 28)) (C := RX10) (T := TX10) (N := 12) hx hb hts iX10_imageOf_X10 hown hK hP 0 cw_0 rfl 5 (by decide) (hts (.fieldLink RX10 40 RX10 "secondImage" "LAnchorWills$Image;") (by decide +kernel)) (fun _ h9 => h9) rfl dX10_imageOf_12 ?_
    subst h
    exact W.aret hx hb hr (Or.inl ⟨_, rfl⟩) (Or.inr ⟨_, rfl⟩) (fun t ht hW => ⟨rfl, ht⟩) (fun _ h => by cases h) dX10_imageOf_15
  · replace h := k_ip c1 h
    refine lv_aload_n hx hb dX10_imageOf_4 rfl (lv_at hl 0 rfl) ?_
    refine va_get (D := D) (ci := 10) (v := .ref (ad 23)) (C := RX10) (T := TX10) (N := 12) hx hb hts iX10_imageOf_X10 hown hK hP 0 cw_0 rfl 4 (by decide) (hts (.fieldLink RX10 36 RX10 "firstImage" "LAnchorWills$Image;") (by decide +kernel)) (fun _ h9 => h9) rfl dX10_imageOf_5 ?_
    refine lv_goto (tgt := 15) hx hb dX10_imageOf_8 (by decide) ?_
    subst h
    exact W.aret hx hb hr (Or.inl ⟨_, rfl⟩) (Or.inr ⟨_, rfl⟩) (fun t ht hW => ⟨rfl, ht⟩) (fun _ h => by cases h) dX10_imageOf_15
set_option maxHeartbeats 4000000 in
set_option maxRecDepth 100000 in
theorem kX6_becomes_26_21 (l : Launch) {D : va_G} {cI cB cZ : ClassId} {ad : Nat → Nat} {τ : Int64} (hap : cwX ad) (σ : Sg) (o : Sg) (h : pX6_becomes_26_21 σ = some o) : Met l yX6_becomes wsX6_becomes rmX6_becomes (va_Pc [.ref (ad 26), .ref (ad 21)] (PW D cI cB cZ (CW cI ad τ σ))) (QV D (CW cI ad τ) (cwA ad) o) 0 0 (cwA ad) := by
  refine Met.ofW (cc := cX6_becomes) (maxL := 2) (ret := none) (by decide) rfl ?_
  intro p e s m args below meth c s₁ B hml hv
  obtain ⟨rfl, hP, hK, hN⟩ := hv
  have C0 : Cx p s m _ meth c cX6_becomes 2 none RX6 wsX6_becomes := ⟨⟨B.exec, B.bytes, hml, findClass_of_methodNamed B.named, atoms_spec B.pre⟩, B.returns, B.notSynchronized⟩
  obtain ⟨⟨hx, hb, -, hown, hts⟩, hr, hlk⟩ := id C0
  have hS : va_S (cwA ad) s.heap s.heap [] := va_S.rf
  have hl := lv_entry ([.ref (ad 26), .ref (ad 21)]) (n := 2) (Nat.le_of_ble_eq_true rfl)
  rw [lg_entry_eq]
  generalize (lg_sl ([.ref (ad 26), .ref (ad 21)]) ++ List.replicate (2 - (lg_sl ([.ref (ad 26), .ref (ad 21)])).length) Slot.unset).toArray = ls at hl ⊢
  have hl : lv_has ls 2 [(0, .ref (ad 26)), (1, .ref (ad 21))] := hl
  rw [pX6_becomes_26_21] at h
  refine lv_aload_n hx hb dX6_becomes_0 rfl (lv_at hl 1 rfl) ?_
  refine va_get (D := D) (ci := 6) (v := .ref (ad 22)) (C := RX6) (T := TX6) (N := 2) hx hb hts iX6_becomes_X6 hown hK hP 21 cw_21 rfl 0 (by decide) (hts (.fieldLink RX6 11 RX6 "rows" "[I") (by decide +kernel)) (fun _ h9 => h9) rfl dX6_becomes_1 ?_
  refine lv_iconst (v := 0) hx hb dX6_becomes_4 (by decide) ?_
  refine lv_aload_n hx hb dX6_becomes_5 rfl (lv_at hl 0 rfl) ?_
  refine va_get (D := D) (ci := 6) (v := .ref (ad 27)) (C := RX6) (T := TX6) (N := 2) hx hb hts iX6_becomes_X6 hown hK hP 26 cw_26 rfl 0 (by decide) (hts (.fieldLink RX6 11 RX6 "rows" "[I") (by decide +kernel)) (fun _ h9 => h9) rfl dX6_becomes_6 ?_
  refine lv_iconst (v := 0) hx hb dX6_becomes_9 (by decide) ?_
  refine lv_sipush (v := 450) hx hb dX6_becomes_10 (by decide) ?_
  refine wr_callv (va_runSN (As := [.ref (ad 22), .int 0, .ref (ad 27), .int 0, .int 450]) (rest := []) C0.1 (kX10_copy l (cw_D hap) 22 27 cw_22 cw_27 (by decide) (by decide) 0 0 450) (wX6_becomes_X10_copy hts hN ⟨Nat.le_of_ble_eq_true rfl, Nat.le_of_ble_eq_true rfl⟩) ⟨PW.blind, PW.mk hP hK hN⟩ rfl rfl hl.1 rfl (lv_room (Nat.le_of_ble_eq_true rfl)) dX6_becomes_13 ⟨Nat.zero_le _, Nat.zero_le _⟩) hS (fun _ h => h) (fun H locs hP hS => ?_)
  have hP := cw_s27 hP
  obtain ⟨σ1, e2, h⟩ := k_bd h
  rw [k_sm e2] at hP
  refine lv_aload_n hx hb dX6_becomes_16 rfl (lv_at hl 0 rfl) ?_
  refine lv_aload_n hx hb dX6_becomes_17 rfl (lv_at hl 1 rfl) ?_
  refine va_get (D := D) (ci := 6) (v := .int (σ1 21 1)) (C := RX6) (T := TX6) (N := 2) hx hb hts iX6_becomes_X6 hown hK hP 21 cw_21 rfl 1 (by decide) (hts (.fieldLink RX6 15 RX6 "known" "I") (by decide +kernel)) (fun _ h9 => h9) rfl dX6_becomes_18 ?_
  refine va_put (D := D) (ci := 6) (v := .int (σ1 21 1)) (ty := .int) (C := RX6) (T := TX6) (N := 2) hx hb hts iX6_becomes_X6 tyX6 tyX6_ok nmX6 hown hK hP (cw_D hap) hS 26 cw_26 rfl 1 (by decide) (hts (.fieldLink RX6 15 RX6 "known" "I") (by decide +kernel)) (fun _ h9 => h9) rfl (by decide +kernel) rfl rfl (Nat.le_of_ble_eq_true rfl) dX6_becomes_21 (fun H locs hP _ hS => ?_)
  have hP := cw_s26_1 hP
  obtain ⟨σ3, e4, h⟩ := k_bd h
  rw [k_sm e4] at hP
  obtain rfl := k_sm h
  exact W.vret hx hb hr (fun t ht hW => ⟨⟨_, rfl, rfl, pw_end ht hP⟩, hS.F ht⟩) hS.2.2 dX6_becomes_24
set_option maxHeartbeats 4000000 in
set_option maxRecDepth 100000 in
theorem kX6_becomes_31_21 (l : Launch) {D : va_G} {cI cB cZ : ClassId} {ad : Nat → Nat} {τ : Int64} (hap : cwX ad) (σ : Sg) (o : Sg) (h : pX6_becomes_31_21 σ = some o) : Met l yX6_becomes wsX6_becomes rmX6_becomes (va_Pc [.ref (ad 31), .ref (ad 21)] (PW D cI cB cZ (CW cI ad τ σ))) (QV D (CW cI ad τ) (cwA ad) o) 0 0 (cwA ad) := by
  refine Met.ofW (cc := cX6_becomes) (maxL := 2) (ret := none) (by decide) rfl ?_
  intro p e s m args below meth c s₁ B hml hv
  obtain ⟨rfl, hP, hK, hN⟩ := hv
  have C0 : Cx p s m _ meth c cX6_becomes 2 none RX6 wsX6_becomes := ⟨⟨B.exec, B.bytes, hml, findClass_of_methodNamed B.named, atoms_spec B.pre⟩, B.returns, B.notSynchronized⟩
  obtain ⟨⟨hx, hb, -, hown, hts⟩, hr, hlk⟩ := id C0
  have hS : va_S (cwA ad) s.heap s.heap [] := va_S.rf
  have hl := lv_entry ([.ref (ad 31), .ref (ad 21)]) (n := 2) (Nat.le_of_ble_eq_true rfl)
  rw [lg_entry_eq]
  generalize (lg_sl ([.ref (ad 31), .ref (ad 21)]) ++ List.replicate (2 - (lg_sl ([.ref (ad 31), .ref (ad 21)])).length) Slot.unset).toArray = ls at hl ⊢
  have hl : lv_has ls 2 [(0, .ref (ad 31)), (1, .ref (ad 21))] := hl
  rw [pX6_becomes_31_21] at h
  refine lv_aload_n hx hb dX6_becomes_0 rfl (lv_at hl 1 rfl) ?_
  refine va_get (D := D) (ci := 6) (v := .ref (ad 22)) (C := RX6) (T := TX6) (N := 2) hx hb hts iX6_becomes_X6 hown hK hP 21 cw_21 rfl 0 (by decide) (hts (.fieldLink RX6 11 RX6 "rows" "[I") (by decide +kernel)) (fun _ h9 => h9) rfl dX6_becomes_1 ?_
  refine lv_iconst (v := 0) hx hb dX6_becomes_4 (by decide) ?_
  refine lv_aload_n hx hb dX6_becomes_5 rfl (lv_at hl 0 rfl) ?_
  refine va_get (D := D) (ci := 6) (v := .ref (ad 32)) (C := RX6) (T := TX6) (N := 2) hx hb hts iX6_becomes_X6 hown hK hP 31 cw_31 rfl 0 (by decide) (hts (.fieldLink RX6 11 RX6 "rows" "[I") (by decide +kernel)) (fun _ h9 => h9) rfl dX6_becomes_6 ?_
  refine lv_iconst (v := 0) hx hb dX6_becomes_9 (by decide) ?_
  refine lv_sipush (v := 450) hx hb dX6_becomes_10 (by decide) ?_
  refine wr_callv (va_runSN (As := [.ref (ad 22), .int 0, .ref (ad 32), .int 0, .int 450]) (rest := []) C0.1 (kX10_copy l (cw_D hap) 22 32 cw_22 cw_32 (by decide) (by decide) 0 0 450) (wX6_becomes_X10_copy hts hN ⟨Nat.le_of_ble_eq_true rfl, Nat.le_of_ble_eq_true rfl⟩) ⟨PW.blind, PW.mk hP hK hN⟩ rfl rfl hl.1 rfl (lv_room (Nat.le_of_ble_eq_true rfl)) dX6_becomes_13 ⟨Nat.zero_le _, Nat.zero_le _⟩) hS (fun _ h => h) (fun H locs hP hS => ?_)
  have hP := cw_s32 hP
  obtain ⟨σ1, e2, h⟩ := k_bd h
  rw [k_sm e2] at hP
  refine lv_aload_n hx hb dX6_becomes_16 rfl (lv_at hl 0 rfl) ?_
  refine lv_aload_n hx hb dX6_becomes_17 rfl (lv_at hl 1 rfl) ?_
  refine va_get (D := D) (ci := 6) (v := .int (σ1 21 1)) (C := RX6) (T := TX6) (N := 2) hx hb hts iX6_becomes_X6 hown hK hP 21 cw_21 rfl 1 (by decide) (hts (.fieldLink RX6 15 RX6 "known" "I") (by decide +kernel)) (fun _ h9 => h9) rfl dX6_becomes_18 ?_
  refine va_put (D := D) (ci := 6) (v := .int (σ1 21 1)) (ty := .int) (C := RX6) (T := TX6) (N := 2) hx hb hts iX6_becomes_X6 tyX6 tyX6_ok nmX6 hown hK hP (cw_D hap) hS 31 cw_31 rfl 1 (by decide) (hts (.fieldLink RX6 15 RX6 "known" "I") (by decide +kernel)) (fun _ h9 => h9) rfl (by decide +kernel) rfl rfl (Nat.le_of_ble_eq_true rfl) dX6_becomes_21 (fun H locs hP _ hS => ?_)
  have hP := cw_s31_1 hP
  obtain ⟨σ3, e4, h⟩ := k_bd h
  rw [k_sm e4] at hP
  obtain rfl := k_sm h
  exact W.vret hx hb hr (fun t ht hW => ⟨⟨_, rfl, rfl, pw_end ht hP⟩, hS.F ht⟩) hS.2.2 dX6_becomes_24
set_option maxHeartbeats 4000000 in
set_option maxRecDepth 100000 in
theorem kX6_becomes_21_26 (l : Launch) {D : va_G} {cI cB cZ : ClassId} {ad : Nat → Nat} {τ : Int64} (hap : cwX ad) (σ : Sg) (o : Sg) (h : pX6_becomes_21_26 σ = some o) : Met l yX6_becomes wsX6_becomes rmX6_becomes (va_Pc [.ref (ad 21), .ref (ad 26)] (PW D cI cB cZ (CW cI ad τ σ))) (QV D (CW cI ad τ) (cwA ad) o) 0 0 (cwA ad) := by
  refine Met.ofW (cc := cX6_becomes) (maxL := 2) (ret := none) (by decide) rfl ?_
  intro p e s m args below meth c s₁ B hml hv
  obtain ⟨rfl, hP, hK, hN⟩ := hv
  have C0 : Cx p s m _ meth c cX6_becomes 2 none RX6 wsX6_becomes := ⟨⟨B.exec, B.bytes, hml, findClass_of_methodNamed B.named, atoms_spec B.pre⟩, B.returns, B.notSynchronized⟩
  obtain ⟨⟨hx, hb, -, hown, hts⟩, hr, hlk⟩ := id C0
  have hS : va_S (cwA ad) s.heap s.heap [] := va_S.rf
  have hl := lv_entry ([.ref (ad 21), .ref (ad 26)]) (n := 2) (Nat.le_of_ble_eq_true rfl)
  rw [lg_entry_eq]
  generalize (lg_sl ([.ref (ad 21), .ref (ad 26)]) ++ List.replicate (2 - (lg_sl ([.ref (ad 21), .ref (ad 26)])).length) Slot.unset).toArray = ls at hl ⊢
  have hl : lv_has ls 2 [(0, .ref (ad 21)), (1, .ref (ad 26))] := hl
  rw [pX6_becomes_21_26] at h
  refine lv_aload_n hx hb dX6_becomes_0 rfl (lv_at hl 1 rfl) ?_
  refine va_get (D := D) (ci := 6) (v := .ref (ad 27)) (C := RX6) (T := TX6) (N := 2) hx hb hts iX6_becomes_X6 hown hK hP 26 cw_26 rfl 0 (by decide) (hts (.fieldLink RX6 11 RX6 "rows" "[I") (by decide +kernel)) (fun _ h9 => h9) rfl dX6_becomes_1 ?_
  refine lv_iconst (v := 0) hx hb dX6_becomes_4 (by decide) ?_
  refine lv_aload_n hx hb dX6_becomes_5 rfl (lv_at hl 0 rfl) ?_
  refine va_get (D := D) (ci := 6) (v := .ref (ad 22)) (C := RX6) (T := TX6) (N := 2) hx hb hts iX6_becomes_X6 hown hK hP 21 cw_21 rfl 0 (by decide) (hts (.fieldLink RX6 11 RX6 "rows" "[I") (by decide +kernel)) (fun _ h9 => h9) rfl dX6_becomes_6 ?_
  refine lv_iconst (v := 0) hx hb dX6_becomes_9 (by decide) ?_
  refine lv_sipush (v := 450) hx hb dX6_becomes_10 (by decide) ?_
  refine wr_callv (va_runSN (As := [.ref (ad 27), .int 0, .ref (ad 22), .int 0, .int 450]) (rest := []) C0.1 (kX10_copy l (cw_D hap) 27 22 cw_27 cw_22 (by decide) (by decide) 0 0 450) (wX6_becomes_X10_copy hts hN ⟨Nat.le_of_ble_eq_true rfl, Nat.le_of_ble_eq_true rfl⟩) ⟨PW.blind, PW.mk hP hK hN⟩ rfl rfl hl.1 rfl (lv_room (Nat.le_of_ble_eq_true rfl)) dX6_becomes_13 ⟨Nat.zero_le _, Nat.zero_le _⟩) hS (fun _ h => h) (fun H locs hP hS => ?_)
  have hP := cw_s22 hP
  obtain ⟨σ1, e2, h⟩ := k_bd h
  rw [k_sm e2] at hP
  refine lv_aload_n hx hb dX6_becomes_16 rfl (lv_at hl 0 rfl) ?_
  refine lv_aload_n hx hb dX6_becomes_17 rfl (lv_at hl 1 rfl) ?_
  refine va_get (D := D) (ci := 6) (v := .int (σ1 26 1)) (C := RX6) (T := TX6) (N := 2) hx hb hts iX6_becomes_X6 hown hK hP 26 cw_26 rfl 1 (by decide) (hts (.fieldLink RX6 15 RX6 "known" "I") (by decide +kernel)) (fun _ h9 => h9) rfl dX6_becomes_18 ?_
  refine va_put (D := D) (ci := 6) (v := .int (σ1 26 1)) (ty := .int) (C := RX6) (T := TX6) (N := 2) hx hb hts iX6_becomes_X6 tyX6 tyX6_ok nmX6 hown hK hP (cw_D hap) hS 21 cw_21 rfl 1 (by decide) (hts (.fieldLink RX6 15 RX6 "known" "I") (by decide +kernel)) (fun _ h9 => h9) rfl (by decide +kernel) rfl rfl (Nat.le_of_ble_eq_true rfl) dX6_becomes_21 (fun H locs hP _ hS => ?_)
  have hP := cw_s21_1 hP
  obtain ⟨σ3, e4, h⟩ := k_bd h
  rw [k_sm e4] at hP
  obtain rfl := k_sm h
  exact W.vret hx hb hr (fun t ht hW => ⟨⟨_, rfl, rfl, pw_end ht hP⟩, hS.F ht⟩) hS.2.2 dX6_becomes_24
set_option maxHeartbeats 4000000 in
set_option maxRecDepth 100000 in
theorem kX6_becomes_21_31 (l : Launch) {D : va_G} {cI cB cZ : ClassId} {ad : Nat → Nat} {τ : Int64} (hap : cwX ad) (σ : Sg) (o : Sg) (h : pX6_becomes_21_31 σ = some o) : Met l yX6_becomes wsX6_becomes rmX6_becomes (va_Pc [.ref (ad 21), .ref (ad 31)] (PW D cI cB cZ (CW cI ad τ σ))) (QV D (CW cI ad τ) (cwA ad) o) 0 0 (cwA ad) := by
  refine Met.ofW (cc := cX6_becomes) (maxL := 2) (ret := none) (by decide) rfl ?_
  intro p e s m args below meth c s₁ B hml hv
  obtain ⟨rfl, hP, hK, hN⟩ := hv
  have C0 : Cx p s m _ meth c cX6_becomes 2 none RX6 wsX6_becomes := ⟨⟨B.exec, B.bytes, hml, findClass_of_methodNamed B.named, atoms_spec B.pre⟩, B.returns, B.notSynchronized⟩
  obtain ⟨⟨hx, hb, -, hown, hts⟩, hr, hlk⟩ := id C0
  have hS : va_S (cwA ad) s.heap s.heap [] := va_S.rf
  have hl := lv_entry ([.ref (ad 21), .ref (ad 31)]) (n := 2) (Nat.le_of_ble_eq_true rfl)
  rw [lg_entry_eq]
  generalize (lg_sl ([.ref (ad 21), .ref (ad 31)]) ++ List.replicate (2 - (lg_sl ([.ref (ad 21), .ref (ad 31)])).length) Slot.unset).toArray = ls at hl ⊢
  have hl : lv_has ls 2 [(0, .ref (ad 21)), (1, .ref (ad 31))] := hl
  rw [pX6_becomes_21_31] at h
  refine lv_aload_n hx hb dX6_becomes_0 rfl (lv_at hl 1 rfl) ?_
  refine va_get (D := D) (ci := 6) (v := .ref (ad 32)) (C := RX6) (T := TX6) (N := 2) hx hb hts iX6_becomes_X6 hown hK hP 31 cw_31 rfl 0 (by decide) (hts (.fieldLink RX6 11 RX6 "rows" "[I") (by decide +kernel)) (fun _ h9 => h9) rfl dX6_becomes_1 ?_
  refine lv_iconst (v := 0) hx hb dX6_becomes_4 (by decide) ?_
  refine lv_aload_n hx hb dX6_becomes_5 rfl (lv_at hl 0 rfl) ?_
  refine va_get (D := D) (ci := 6) (v := .ref (ad 22)) (C := RX6) (T := TX6) (N := 2) hx hb hts iX6_becomes_X6 hown hK hP 21 cw_21 rfl 0 (by decide) (hts (.fieldLink RX6 11 RX6 "rows" "[I") (by decide +kernel)) (fun _ h9 => h9) rfl dX6_becomes_6 ?_
  refine lv_iconst (v := 0) hx hb dX6_becomes_9 (by decide) ?_
  refine lv_sipush (v := 450) hx hb dX6_becomes_10 (by decide) ?_
  refine wr_callv (va_runSN (As := [.ref (ad 32), .int 0, .ref (ad 22), .int 0, .int 450]) (rest := []) C0.1 (kX10_copy l (cw_D hap) 32 22 cw_32 cw_22 (by decide) (by decide) 0 0 450) (wX6_becomes_X10_copy hts hN ⟨Nat.le_of_ble_eq_true rfl, Nat.le_of_ble_eq_true rfl⟩) ⟨PW.blind, PW.mk hP hK hN⟩ rfl rfl hl.1 rfl (lv_room (Nat.le_of_ble_eq_true rfl)) dX6_becomes_13 ⟨Nat.zero_le _, Nat.zero_le _⟩) hS (fun _ h => h) (fun H locs hP hS => ?_)
  have hP := cw_s22 hP
  obtain ⟨σ1, e2, h⟩ := k_bd h
  rw [k_sm e2] at hP
  refine lv_aload_n hx hb dX6_becomes_16 rfl (lv_at hl 0 rfl) ?_
  refine lv_aload_n hx hb dX6_becomes_17 rfl (lv_at hl 1 rfl) ?_
  refine va_get (D := D) (ci := 6) (v := .int (σ1 31 1)) (C := RX6) (T := TX6) (N := 2) hx hb hts iX6_becomes_X6 hown hK hP 31 cw_31 rfl 1 (by decide) (hts (.fieldLink RX6 15 RX6 "known" "I") (by decide +kernel)) (fun _ h9 => h9) rfl dX6_becomes_18 ?_
  refine va_put (D := D) (ci := 6) (v := .int (σ1 31 1)) (ty := .int) (C := RX6) (T := TX6) (N := 2) hx hb hts iX6_becomes_X6 tyX6 tyX6_ok nmX6 hown hK hP (cw_D hap) hS 21 cw_21 rfl 1 (by decide) (hts (.fieldLink RX6 15 RX6 "known" "I") (by decide +kernel)) (fun _ h9 => h9) rfl (by decide +kernel) rfl rfl (Nat.le_of_ble_eq_true rfl) dX6_becomes_21 (fun H locs hP _ hS => ?_)
  have hP := cw_s21_1 hP
  obtain ⟨σ3, e4, h⟩ := k_bd h
  rw [k_sm e4] at hP
  obtain rfl := k_sm h
  exact W.vret hx hb hr (fun t ht hW => ⟨⟨_, rfl, rfl, pw_end ht hP⟩, hS.F ht⟩) hS.2.2 dX6_becomes_24
