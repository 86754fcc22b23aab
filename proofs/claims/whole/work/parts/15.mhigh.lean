set_option maxHeartbeats 4000000 in
set_option maxRecDepth 100000 in
theorem kX11_type (l : Launch) {D : va_G} {cI cB cZ : ClassId} {am : Nat → Nat} {τ : Int64} (hap : mwX am) (σ : Sg) (x1 : Int32) (o : (Int32 × Sg)) (h : pX11_type σ x1 = some o) : Met l yX11_type wsX11_type rmX11_type (va_Pc [.ref (am 0), .int x1] (PW D cI cB cZ (MW cI cB cZ am τ σ))) (QI D (MW cI cB cZ am τ) (mwA am) o.1 o.2) 0 0 (mwA am) := by
  refine Met.ofW (cc := cX11_type) (maxL := 2) (ret := (some .int)) (by decide) rfl ?_
  intro p e s m args below meth c s₁ B hml hv
  obtain ⟨rfl, hP, hK, hN⟩ := hv
  have C0 : Cx p s m _ meth c cX11_type 2 (some .int) RX11 wsX11_type := ⟨⟨B.exec, B.bytes, hml, findClass_of_methodNamed B.named, atoms_spec B.pre⟩, B.returns, B.notSynchronized⟩
  obtain ⟨⟨hx, hb, -, hown, hts⟩, hr, hlk⟩ := id C0
  have hS : va_S (mwA am) s.heap s.heap [] := va_S.rf
  have hl := lv_entry ([.ref (am 0), .int x1]) (n := 2) (Nat.le_of_ble_eq_true rfl)
  rw [lg_entry_eq]
  generalize (lg_sl ([.ref (am 0), .int x1]) ++ List.replicate (2 - (lg_sl ([.ref (am 0), .int x1])).length) Slot.unset).toArray = ls at hl ⊢
  have hl : lv_has ls 2 [(0, .ref (am 0)), (1, .int x1)] := hl
  rw [pX11_type] at h
  refine lv_iload_n hx hb dX11_type_0 rfl (lv_at hl 1 rfl) ?_
  refine lv_iconst (v := 0) hx hb dX11_type_1 (by decide) ?_
  refine lv_sipush (v := 255) hx hb dX11_type_2 (by decide) ?_
  refine rd_calli (va_runS (As := [.int x1, .int 0, .int 255]) (rest := []) C0.1 (kX11_in l x1 0 255) (wX11_type_X11_in hts ⟨Nat.le_of_ble_eq_true rfl, Nat.le_of_ble_eq_true rfl⟩) ⟨PT.blind, fun _ _ _ => ⟨rfl, trivial⟩⟩ rfl rfl hl.1 rfl (lv_room (Nat.le_of_ble_eq_true rfl)) dX11_type_5 ⟨Nat.zero_le _, Nat.zero_le _⟩) ?_
  refine lv_if_ne (tgt := 13) hx hb dX11_type_8 (by decide) (fun c8 => ?_) (fun c8 => ?_)
  · replace h := k_in c8 h
    refine lv_aload_n hx hb dX11_type_13 rfl (lv_at hl 0 rfl) ?_
    refine va_get (D := D) (ci := 11) (v := .int (σ 0 1)) (C := RX11) (T := TX11) (N := 30) hx hb hts iX11_type_X11 hown hK hP 0 mw_0 rfl 1 (by decide) (hts (.fieldLink RX11 79 RX11 "typed" "I") (by decide +kernel)) (fun _ h9 => h9) rfl dX11_type_14 ?_
    refine lv_sipush (v := 200) hx hb dX11_type_17 (by decide) ?_
    refine lv_icmp_ne (tgt := 26) hx hb dX11_type_20 (by decide) (fun c20 => ?_) (fun c20 => ?_)
    · replace h := k_in c20 h
      refine lv_aload_n hx hb dX11_type_26 rfl (lv_at hl 0 rfl) ?_
      refine va_get (D := D) (ci := 11) (v := .ref (am 1)) (C := RX11) (T := TX11) (N := 30) hx hb hts iX11_type_X11 hown hK hP 0 mw_0 rfl 0 (by decide) (hts (.fieldLink RX11 7 RX11 "text" "[B") (by decide +kernel)) (fun _ h9 => h9) rfl dX11_type_27 ?_
      refine lv_aload_n hx hb dX11_type_30 rfl (lv_at hl 0 rfl) ?_
      refine va_get (D := D) (ci := 11) (v := .int (σ 0 1)) (C := RX11) (T := TX11) (N := 30) hx hb hts iX11_type_X11 hown hK hP 0 mw_0 rfl 1 (by decide) (hts (.fieldLink RX11 79 RX11 "typed" "I") (by decide +kernel)) (fun _ h9 => h9) rfl dX11_type_31 ?_
      refine lv_iload_n hx hb dX11_type_34 rfl (lv_at hl 1 rfl) ?_
      refine lv_i2b hx hb dX11_type_35 rfl ?_
      obtain ⟨σ1, e2, h⟩ := k_bd h
      refine va_bast hx hb hK hP (mw_D hap) hS 1 1 mw_1 rfl (k_wr e2).1 dX11_type_36 (fun H locs hP _ hS => ?_)
      have hP := mw_s1 hP
      rw [(k_wr e2).2] at hP
      refine lv_aload_n hx hb dX11_type_37 rfl (lv_at hl 0 rfl) ?_
      refine lv_dup hx hb dX11_type_38 rfl ?_
      refine va_get (D := D) (ci := 11) (v := .int (σ1 0 1)) (C := RX11) (T := TX11) (N := 30) hx hb hts iX11_type_X11 hown hK hP 0 mw_0 rfl 1 (by decide) (hts (.fieldLink RX11 79 RX11 "typed" "I") (by decide +kernel)) (fun _ h9 => h9) rfl dX11_type_39 ?_
      refine lv_iconst (v := 1) hx hb dX11_type_42 (by decide) ?_
      refine lv_iadd hx hb dX11_type_43 ?_
      refine va_put (D := D) (ci := 11) (v := .int ((σ1 0 1) + 1)) (ty := .int) (C := RX11) (T := TX11) (N := 30) hx hb hts iX11_type_X11 tyX11 tyX11_ok nmX11 hown hK hP (mw_D hap) hS 0 mw_0 rfl 1 (by decide) (hts (.fieldLink RX11 79 RX11 "typed" "I") (by decide +kernel)) (fun _ h9 => h9) rfl (by decide +kernel) rfl rfl (Nat.le_of_ble_eq_true rfl) dX11_type_44 (fun H locs hP _ hS => ?_)
      have hP := mw_s0_1 hP
      obtain ⟨σ3, e4, h⟩ := k_bd h
      rw [k_sm e4] at hP
      refine lv_aload_n hx hb dX11_type_47 rfl (lv_at hl 0 rfl) ?_
      refine va_get (D := D) (ci := 11) (v := .int (σ3 0 1)) (C := RX11) (T := TX11) (N := 30) hx hb hts iX11_type_X11 hown hK hP 0 mw_0 rfl 1 (by decide) (hts (.fieldLink RX11 79 RX11 "typed" "I") (by decide +kernel)) (fun _ h9 => h9) rfl dX11_type_48 ?_
      obtain rfl := k_sm h
      exact W.iret hx hb hr (fun t ht hW => ⟨⟨_, _, rfl, ⟨rfl, rfl⟩, pw_end ht hP⟩, hS.F ht⟩) hS.2.2 dX11_type_51
    · replace h := k_ip c20 h
      refine lv_bipush (v := (-3)) hx hb dX11_type_23 (by decide) ?_
      obtain rfl := k_sm h
      exact W.iret hx hb hr (fun t ht hW => ⟨⟨_, _, rfl, ⟨rfl, rfl⟩, pw_end ht hP⟩, hS.F ht⟩) hS.2.2 dX11_type_25
  · replace h := k_ip c8 h
    refine lv_iconst (v := (-1)) hx hb dX11_type_11 (by decide) ?_
    obtain rfl := k_sm h
    exact W.iret hx hb hr (fun t ht hW => ⟨⟨_, _, rfl, ⟨rfl, rfl⟩, pw_end ht hP⟩, hS.F ht⟩) hS.2.2 dX11_type_12
set_option maxHeartbeats 4000000 in
set_option maxRecDepth 100000 in
theorem kX11_clear (l : Launch) {D : va_G} {cI cB cZ : ClassId} {am : Nat → Nat} {τ : Int64} (hap : mwX am) (σ : Sg) (o : (Int32 × Sg)) (h : pX11_clear σ = some o) : Met l yX11_clear wsX11_clear rmX11_clear (va_Pc [.ref (am 0)] (PW D cI cB cZ (MW cI cB cZ am τ σ))) (QI D (MW cI cB cZ am τ) (mwA am) o.1 o.2) 0 0 (mwA am) := by
  refine Met.ofW (cc := cX11_clear) (maxL := 2) (ret := (some .int)) (by decide) rfl ?_
  intro p e s m args below meth c s₁ B hml hv
  obtain ⟨rfl, hP, hK, hN⟩ := hv
  have C0 : Cx p s m _ meth c cX11_clear 2 (some .int) RX11 wsX11_clear := ⟨⟨B.exec, B.bytes, hml, findClass_of_methodNamed B.named, atoms_spec B.pre⟩, B.returns, B.notSynchronized⟩
  obtain ⟨⟨hx, hb, -, hown, hts⟩, hr, hlk⟩ := id C0
  have hS : va_S (mwA am) s.heap s.heap [] := va_S.rf
  have hl := lv_entry ([.ref (am 0)]) (n := 2) (Nat.le_of_ble_eq_true rfl)
  rw [lg_entry_eq]
  generalize (lg_sl ([.ref (am 0)]) ++ List.replicate (2 - (lg_sl ([.ref (am 0)])).length) Slot.unset).toArray = ls at hl ⊢
  have hl : lv_has ls 2 [(0, .ref (am 0))] := hl
  rw [pX11_clear] at h
  refine lv_aload_n hx hb dX11_clear_0 rfl (lv_at hl 0 rfl) ?_
  refine va_get (D := D) (ci := 11) (v := .int (σ 0 1)) (C := RX11) (T := TX11) (N := 30) hx hb hts iX11_clear_X11 hown hK hP 0 mw_0 rfl 1 (by decide) (hts (.fieldLink RX11 79 RX11 "typed" "I") (by decide +kernel)) (fun _ h9 => h9) rfl dX11_clear_1 ?_
  obtain ⟨v1, e2, h⟩ := k_bd h
  refine lv_nmi (k_sm e2) ?_
  refine lv_istore_n (lv' := [(1, .int v1), (0, .ref (am 0))]) hx hb dX11_clear_4 rfl hl (by decide) rfl (fun ls hl => ?_)
  refine lv_aload_n hx hb dX11_clear_5 rfl (lv_at hl 1 rfl) ?_
  refine lv_iconst (v := 0) hx hb dX11_clear_6 (by decide) ?_
  refine va_put (D := D) (ci := 11) (v := .int 0) (ty := .int) (C := RX11) (T := TX11) (N := 30) hx hb hts iX11_clear_X11 tyX11 tyX11_ok nmX11 hown hK hP (mw_D hap) hS 0 mw_0 rfl 1 (by decide) (hts (.fieldLink RX11 79 RX11 "typed" "I") (by decide +kernel)) (fun _ h9 => h9) rfl (by decide +kernel) rfl rfl (Nat.le_of_ble_eq_true rfl) dX11_clear_7 (fun H locs hP _ hS => ?_)
  have hP := mw_s0_1 hP
  obtain ⟨σ3, e4, h⟩ := k_bd h
  rw [k_sm e4] at hP
  refine lv_iload_n hx hb dX11_clear_10 rfl (lv_at hl 0 rfl) ?_
  obtain rfl := k_sm h
  exact W.iret hx hb hr (fun t ht hW => ⟨⟨_, _, rfl, ⟨rfl, rfl⟩, pw_end ht hP⟩, hS.F ht⟩) hS.2.2 dX11_clear_11
set_option maxHeartbeats 4000000 in
set_option maxRecDepth 100000 in
theorem bX11_cell_L57 {p : Program} {l : Launch} {e : Env} {s : State} {m : MethodId} {args : Array Value} {below : List Frame} {meth : Method} {c : Code} {Q : State → Prop} {D : va_G} {cI cB cZ : ClassId} {am : Nat → Nat} (C0 : Cx p s m args meth c cX11_cell 5 (some .int) RX11 wsX11_cell) (hK : va_K D vwCl (tysA cI cB cZ) s) (hN : NW s) {τ : Int64} {σ : Sg} (hP : va_P D vwCl (MW cI cB cZ am τ σ) s.heap) (x1 : Int32) : ∀ (n : Nat) (x3 : Int32) (x4 : Int32) (v : Int32) (ls : Array Slot), lv_has ls 5 [(0, .ref (am 0)), (1, .int x1), (3, .int x3), (4, .int x4)] → pX11_cell_L57 σ x1 n x3 x4 = some v → (∀ (ls1 : Array Slot), lv_has ls1 5 [(3, .int v)] → W p l e rmX11_cell s m args below meth c s.heap [] 0 0 Q (F0 m 107 ls1 [])) → W p l e rmX11_cell s m args below meth c s.heap [] 0 0 Q (F0 m 57 ls []) := by
  obtain ⟨⟨hx, hb, hml, hown, hts⟩, hr, hlk⟩ := id C0
  intro n
  induction n with
  | zero =>
    intro x3 x4 v ls hl h kk
    exact absurd h (by simp [pX11_cell_L57])
  | succ n ih =>
    intro x3 x4 v ls hl h kk
    rw [pX11_cell_L57] at h
    refine lv_iload hx hb dX11_cell_57 (lv_at hl 3 rfl) ?_
    refine lv_aload_n hx hb dX11_cell_59 rfl (lv_at hl 0 rfl) ?_
    refine va_get (D := D) (ci := 11) (v := .ref (am 7)) (C := RX11) (T := TX11) (N := 30) hx hb hts iX11_cell_X11 hown hK hP 0 mw_0 rfl 7 (by decide) (hts (.fieldLink RX11 29 RX11 "anchors" "[I") (by decide +kernel)) (fun _ h9 => h9) rfl dX11_cell_60 ?_
    refine lv_iconst (v := 0) hx hb dX11_cell_63 (by decide) ?_
    obtain ⟨v5, e6, h⟩ := k_bd h
    refine va_iald hx hb hK hP 7 0 mw_7 rfl (k_rd e6).1 dX11_cell_64 ?_
    refine lv_nmi (k_rd e6).2 ?_
    refine lv_icmp_ge (tgt := 107) hx hb dX11_cell_65 (by decide) (fun c65 => ?_) (fun c65 => ?_)
    · replace h := k_ip c65 h
      obtain rfl := k_sm h
      exact kk _ (lv_sub hl [2] rfl)
    · replace h := k_in c65 h
      refine lv_iload_n hx hb dX11_cell_68 rfl (lv_at hl 2 rfl) ?_
      refine lv_aload_n hx hb dX11_cell_69 rfl (lv_at hl 0 rfl) ?_
      refine lv_iload hx hb dX11_cell_70 (lv_at hl 3 rfl) ?_
      obtain ⟨v7, e8, h⟩ := k_bd h
      refine rd_calli (va_runV (As := [.int x4]) (rest := [.int x3]) C0.1 (kX11_isLying l (D := D) (cI := cI) (cB := cB) (cZ := cZ) (am := am) (τ := τ) σ x4 _ e8) (wX11_cell_X11_isLying hts ⟨Nat.le_of_ble_eq_true rfl, Nat.le_of_ble_eq_true rfl⟩) ⟨PW.blind, mw_r0 hK hP, PW.mk hP hK hN⟩ rfl rfl hl.1 rfl (lv_room (Nat.le_of_ble_eq_true rfl)) dX11_cell_72 ⟨Nat.zero_le _, Nat.zero_le _⟩) ?_
      refine lv_if_eq (tgt := 98) hx hb dX11_cell_75 (by decide) (fun c75 => ?_) (fun c75 => ?_)
      · replace h := k_ip c75 h
        refine lv_iconst (v := 0) hx hb dX11_cell_98 (by decide) ?_
        refine lv_ior hx hb dX11_cell_99 ?_
        obtain ⟨v9, e10, h⟩ := k_bd h
        refine lv_nmi (k_sm e10) ?_
        refine lv_istore_n (lv' := [(3, .int v9), (0, .ref (am 0)), (1, .int x1), (4, .int x4)]) hx hb dX11_cell_100 rfl hl (by decide) rfl (fun ls hl => ?_)
        refine lv_iinc (v := (x4 + 1)) (lv' := [(4, .int (x4 + 1)), (3, .int v9), (0, .ref (am 0)), (1, .int x1)]) hx hb dX11_cell_101 hl (k := 3) rfl rfl (by decide) rfl (fun ls hl => ?_)
        refine lv_goto (tgt := 57) hx hb dX11_cell_104 (by decide) ?_
        exact ih v9 (x4 + 1) _ ls (lv_sub hl [2, 3, 1, 0] rfl) h kk
      · replace h := k_in c75 h
        refine lv_aload_n hx hb dX11_cell_78 rfl (lv_at hl 0 rfl) ?_
        refine va_get (D := D) (ci := 11) (v := .ref (am 13)) (C := RX11) (T := TX11) (N := 30) hx hb hts iX11_cell_X11 hown hK hP 0 mw_0 rfl 19 (by decide) (hts (.fieldLink RX11 47 RX11 "now" "[I") (by decide +kernel)) (fun _ h9 => h9) rfl dX11_cell_79 ?_
        refine lv_iconst (v := 0) hx hb dX11_cell_82 (by decide) ?_
        refine lv_iload hx hb dX11_cell_83 (lv_at hl 3 rfl) ?_
        refine lv_iadd hx hb dX11_cell_85 ?_
        obtain ⟨v11, e12, h⟩ := k_bd h
        refine va_iald hx hb hK hP 13 0 mw_13 rfl (k_rd e12).1 dX11_cell_86 ?_
        refine lv_nmi (k_rd e12).2 ?_
        refine lv_iload_n hx hb dX11_cell_87 rfl (lv_at hl 1 rfl) ?_
        refine lv_icmp_ne (tgt := 98) hx hb dX11_cell_88 (by decide) (fun c88 => ?_) (fun c88 => ?_)
        · replace h := k_in c88 h
          refine lv_iconst (v := 0) hx hb dX11_cell_98 (by decide) ?_
          refine lv_ior hx hb dX11_cell_99 ?_
          obtain ⟨v13, e14, h⟩ := k_bd h
          refine lv_nmi (k_sm e14) ?_
          refine lv_istore_n (lv' := [(3, .int v13), (0, .ref (am 0)), (1, .int x1), (4, .int x4)]) hx hb dX11_cell_100 rfl hl (by decide) rfl (fun ls hl => ?_)
          refine lv_iinc (v := (x4 + 1)) (lv' := [(4, .int (x4 + 1)), (3, .int v13), (0, .ref (am 0)), (1, .int x1)]) hx hb dX11_cell_101 hl (k := 3) rfl rfl (by decide) rfl (fun ls hl => ?_)
          refine lv_goto (tgt := 57) hx hb dX11_cell_104 (by decide) ?_
          exact ih v13 (x4 + 1) _ ls (lv_sub hl [2, 3, 1, 0] rfl) h kk
        · replace h := k_ip c88 h
          refine lv_iconst (v := 1) hx hb dX11_cell_91 (by decide) ?_
          refine lv_iload hx hb dX11_cell_92 (lv_at hl 3 rfl) ?_
          refine lv_ishl hx hb dX11_cell_94 ?_
          refine lv_goto (tgt := 99) hx hb dX11_cell_95 (by decide) ?_
          refine lv_ior hx hb dX11_cell_99 ?_
          obtain ⟨v15, e16, h⟩ := k_bd h
          refine lv_nmi (k_sm e16) ?_
          refine lv_istore_n (lv' := [(3, .int v15), (0, .ref (am 0)), (1, .int x1), (4, .int x4)]) hx hb dX11_cell_100 rfl hl (by decide) rfl (fun ls hl => ?_)
          refine lv_iinc (v := (x4 + 1)) (lv' := [(4, .int (x4 + 1)), (3, .int v15), (0, .ref (am 0)), (1, .int x1)]) hx hb dX11_cell_101 hl (k := 3) rfl rfl (by decide) rfl (fun ls hl => ?_)
          refine lv_goto (tgt := 57) hx hb dX11_cell_104 (by decide) ?_
          exact ih v15 (x4 + 1) _ ls (lv_sub hl [2, 3, 1, 0] rfl) h kk
set_option maxHeartbeats 4000000 in
set_option maxRecDepth 100000 in
theorem kX11_cell (l : Launch) {D : va_G} {cI cB cZ : ClassId} {am : Nat → Nat} {τ : Int64} (σ : Sg) (x1 : Int32) (x2 : Int32) (o : Int32) (h : pX11_cell σ x1 x2 = some o) : Met l yX11_cell wsX11_cell rmX11_cell (va_Pc [.ref (am 0), .int x1, .int x2] (PW D cI cB cZ (MW cI cB cZ am τ σ))) (QcRead o) 0 0 (fun _ => False) := by
  refine Met.ofW (cc := cX11_cell) (maxL := 5) (ret := (some .int)) (by decide) rfl ?_
  intro p e s m args below meth c s₁ B hml hv
  obtain ⟨rfl, hP, hK, hN⟩ := hv
  have C0 : Cx p s m _ meth c cX11_cell 5 (some .int) RX11 wsX11_cell := ⟨⟨B.exec, B.bytes, hml, findClass_of_methodNamed B.named, atoms_spec B.pre⟩, B.returns, B.notSynchronized⟩
  obtain ⟨⟨hx, hb, -, hown, hts⟩, hr, hlk⟩ := id C0
  have hl := lv_entry ([.ref (am 0), .int x1, .int x2]) (n := 5) (Nat.le_of_ble_eq_true rfl)
  rw [lg_entry_eq]
  generalize (lg_sl ([.ref (am 0), .int x1, .int x2]) ++ List.replicate (5 - (lg_sl ([.ref (am 0), .int x1, .int x2])).length) Slot.unset).toArray = ls at hl ⊢
  have hl : lv_has ls 5 [(0, .ref (am 0)), (1, .int x1), (2, .int x2)] := hl
  rw [pX11_cell] at h
  refine lv_iload_n hx hb dX11_cell_0 rfl (lv_at hl 1 rfl) ?_
  refine lv_iconst (v := 0) hx hb dX11_cell_1 (by decide) ?_
  refine lv_bipush (v := 9) hx hb dX11_cell_2 (by decide) ?_
  refine rd_calli (va_runS (As := [.int x1, .int 0, .int 9]) (rest := []) C0.1 (kX11_in l x1 0 9) (wX11_cell_X11_in hts ⟨Nat.le_of_ble_eq_true rfl, Nat.le_of_ble_eq_true rfl⟩) ⟨PT.blind, fun _ _ _ => ⟨rfl, trivial⟩⟩ rfl rfl hl.1 rfl (lv_room (Nat.le_of_ble_eq_true rfl)) dX11_cell_4 ⟨Nat.zero_le _, Nat.zero_le _⟩) ?_
  refine lv_if_ne (tgt := 12) hx hb dX11_cell_7 (by decide) (fun c7 => ?_) (fun c7 => ?_)
  · replace h := k_in c7 h
    refine lv_iconst (v := 0) hx hb dX11_cell_12 (by decide) ?_
    refine lv_istore_n (lv' := [(3, .int 0), (0, .ref (am 0)), (1, .int x1), (2, .int x2)]) hx hb dX11_cell_13 rfl hl (by decide) rfl (fun ls hl => ?_)
    refine lv_iload_n hx hb dX11_cell_14 rfl (lv_at hl 3 rfl) ?_
    by_cases c15_0 : x2 = 0
    · replace h := k_ip c15_0 h
      refine lv_tableIn (tgt := 40) hx hb dX11_cell_15 (by rw [c15_0] <;> decide) (by rw [c15_0] <;> decide) (by rw [c15_0] <;> rfl) (by decide) ?_
      refine lv_aload_n hx hb dX11_cell_40 rfl (lv_at hl 1 rfl) ?_
      refine va_get (D := D) (ci := 11) (v := .ref (am 2)) (C := RX11) (T := TX11) (N := 30) hx hb hts iX11_cell_X11 hown hK hP 0 mw_0 rfl 2 (by decide) (hts (.fieldLink RX11 13 RX11 "deep" "[I") (by decide +kernel)) (fun _ h9 => h9) rfl dX11_cell_41 ?_
      refine lv_iload_n hx hb dX11_cell_44 rfl (lv_at hl 2 rfl) ?_
      obtain ⟨v1, e2, h⟩ := k_bd h
      refine va_iald hx hb hK hP 2 0 mw_2 rfl (k_rd e2).1 dX11_cell_45 ?_
      refine lv_nmi (k_rd e2).2 ?_
      obtain rfl := k_sm h
      exact W.iret hx hb hr (fun t ht hW => ⟨rfl, ht⟩) (fun _ h => by cases h) dX11_cell_46
    replace h := k_in c15_0 h
    by_cases c15_1 : x2 = 1
    · replace h := k_ip c15_1 h
      refine lv_tableIn (tgt := 47) hx hb dX11_cell_15 (by rw [c15_1] <;> decide) (by rw [c15_1] <;> decide) (by rw [c15_1] <;> rfl) (by decide) ?_
      refine lv_aload_n hx hb dX11_cell_47 rfl (lv_at hl 1 rfl) ?_
      refine va_get (D := D) (ci := 11) (v := .ref (am 3)) (C := RX11) (T := TX11) (N := 30) hx hb hts iX11_cell_X11 hown hK hP 0 mw_0 rfl 3 (by decide) (hts (.fieldLink RX11 17 RX11 "grip" "[I") (by decide +kernel)) (fun _ h9 => h9) rfl dX11_cell_48 ?_
      refine lv_iload_n hx hb dX11_cell_51 rfl (lv_at hl 2 rfl) ?_
      obtain ⟨v3, e4, h⟩ := k_bd h
      refine va_iald hx hb hK hP 3 0 mw_3 rfl (k_rd e4).1 dX11_cell_52 ?_
      refine lv_nmi (k_rd e4).2 ?_
      obtain rfl := k_sm h
      exact W.iret hx hb hr (fun t ht hW => ⟨rfl, ht⟩) (fun _ h => by cases h) dX11_cell_53
    replace h := k_in c15_1 h
    by_cases c15_2 : x2 = 2
    · replace h := k_ip c15_2 h
      refine lv_tableIn (tgt := 54) hx hb dX11_cell_15 (by rw [c15_2] <;> decide) (by rw [c15_2] <;> decide) (by rw [c15_2] <;> rfl) (by decide) ?_
      refine lv_iconst (v := 0) hx hb dX11_cell_54 (by decide) ?_
      refine lv_istore (lv' := [(4, .int 0), (3, .int 0), (0, .ref (am 0)), (1, .int x1), (2, .int x2)]) hx hb dX11_cell_55 hl (by decide) rfl (fun ls hl => ?_)
      obtain ⟨w17, e18, h⟩ := k_bd h
      refine bX11_cell_L57 C0 hK hN hP x1 2000 0 0 _ ls (lv_sub hl [2, 3, 1, 0] rfl) e18 (fun ls hl => ?_)
      refine lv_iload_n hx hb dX11_cell_107 rfl (lv_at hl 0 rfl) ?_
      obtain rfl := k_sm h
      exact W.iret hx hb hr (fun t ht hW => ⟨rfl, ht⟩) (fun _ h => by cases h) dX11_cell_108
    replace h := k_in c15_2 h
    refine lv_tableOut (tgt := 109) hx hb dX11_cell_15 (by have z0 := lv_neT (a := 0) c15_0 (by decide); have z1 := lv_neT (a := 1) c15_1 (by decide); have z2 := lv_neT (a := 2) c15_2 (by decide); omega) (by decide) ?_
    refine lv_iconst (v := (-1)) hx hb dX11_cell_109 (by decide) ?_
    obtain rfl := k_sm h
    exact W.iret hx hb hr (fun t ht hW => ⟨rfl, ht⟩) (fun _ h => by cases h) dX11_cell_110
  · replace h := k_ip c7 h
    refine lv_iconst (v := (-1)) hx hb dX11_cell_10 (by decide) ?_
    obtain rfl := k_sm h
    exact W.iret hx hb hr (fun t ht hW => ⟨rfl, ht⟩) (fun _ h => by cases h) dX11_cell_11
set_option maxHeartbeats 4000000 in
set_option maxRecDepth 100000 in
theorem bX11_estate_L4 {p : Program} {l : Launch} {e : Env} {s : State} {m : MethodId} {args : Array Value} {below : List Frame} {meth : Method} {c : Code} {Q : State → Prop} {D : va_G} {cI cB cZ : ClassId} {am : Nat → Nat} (C0 : Cx p s m args meth c cX11_estate 4 (some .int) RX11 wsX11_estate) (hK : va_K D vwCl (tysA cI cB cZ) s) (hN : NW s) {τ : Int64} {σ : Sg} (hP : va_P D vwCl (MW cI cB cZ am τ σ) s.heap) (x1 : Int32) : ∀ (n : Nat) (x2 : Int32) (x3 : Int32) (v : Int32) (ls : Array Slot), lv_has ls 4 [(0, .ref (am 0)), (1, .int x1), (2, .int x2), (3, .int x3)] → pX11_estate_L4 σ x1 n x2 x3 = some v → (∀ (ls1 : Array Slot), lv_has ls1 4 [(2, .int v)] → W p l e rmX11_estate s m args below meth c s.heap [] 0 0 Q (F0 m 49 ls1 [])) → W p l e rmX11_estate s m args below meth c s.heap [] 0 0 Q (F0 m 4 ls []) := by
  obtain ⟨⟨hx, hb, hml, hown, hts⟩, hr, hlk⟩ := id C0
  intro n
  induction n with
  | zero =>
    intro x2 x3 v ls hl h kk
    exact absurd h (by simp [pX11_estate_L4])
  | succ n ih =>
    intro x2 x3 v ls hl h kk
    rw [pX11_estate_L4] at h
    refine lv_iload_n hx hb dX11_estate_4 rfl (lv_at hl 3 rfl) ?_
    refine lv_aload_n hx hb dX11_estate_5 rfl (lv_at hl 0 rfl) ?_
    refine va_get (D := D) (ci := 11) (v := .ref (am 7)) (C := RX11) (T := TX11) (N := 30) hx hb hts iX11_estate_X11 hown hK hP 0 mw_0 rfl 7 (by decide) (hts (.fieldLink RX11 29 RX11 "anchors" "[I") (by decide +kernel)) (fun _ h9 => h9) rfl dX11_estate_6 ?_
    refine lv_iconst (v := 0) hx hb dX11_estate_9 (by decide) ?_
    obtain ⟨v1, e2, h⟩ := k_bd h
    refine va_iald hx hb hK hP 7 0 mw_7 rfl (k_rd e2).1 dX11_estate_10 ?_
    refine lv_nmi (k_rd e2).2 ?_
    refine lv_icmp_ge (tgt := 49) hx hb dX11_estate_11 (by decide) (fun c11 => ?_) (fun c11 => ?_)
    · replace h := k_ip c11 h
      obtain rfl := k_sm h
      exact kk _ (lv_sub hl [2] rfl)
    · replace h := k_in c11 h
      refine lv_iload_n hx hb dX11_estate_14 rfl (lv_at hl 2 rfl) ?_
      refine lv_aload_n hx hb dX11_estate_15 rfl (lv_at hl 0 rfl) ?_
      refine lv_iload_n hx hb dX11_estate_16 rfl (lv_at hl 3 rfl) ?_
      obtain ⟨v3, e4, h⟩ := k_bd h
      refine rd_calli (va_runV (As := [.int x3]) (rest := [.int x2]) C0.1 (kX11_isLying l (D := D) (cI := cI) (cB := cB) (cZ := cZ) (am := am) (τ := τ) σ x3 _ e4) (wX11_estate_X11_isLying hts ⟨Nat.le_of_ble_eq_true rfl, Nat.le_of_ble_eq_true rfl⟩) ⟨PW.blind, mw_r0 hK hP, PW.mk hP hK hN⟩ rfl rfl hl.1 rfl (lv_room (Nat.le_of_ble_eq_true rfl)) dX11_estate_17 ⟨Nat.zero_le _, Nat.zero_le _⟩) ?_
      refine lv_if_eq (tgt := 40) hx hb dX11_estate_20 (by decide) (fun c20 => ?_) (fun c20 => ?_)
      · replace h := k_ip c20 h
        refine lv_iconst (v := 0) hx hb dX11_estate_40 (by decide) ?_
        refine lv_iadd hx hb dX11_estate_41 ?_
        obtain ⟨v5, e6, h⟩ := k_bd h
        refine lv_nmi (k_sm e6) ?_
        refine lv_istore_n (lv' := [(2, .int v5), (0, .ref (am 0)), (1, .int x1), (3, .int x3)]) hx hb dX11_estate_42 rfl hl (by decide) rfl (fun ls hl => ?_)
        refine lv_iinc (v := (x3 + 1)) (lv' := [(3, .int (x3 + 1)), (2, .int v5), (0, .ref (am 0)), (1, .int x1)]) hx hb dX11_estate_43 hl (k := 3) rfl rfl (by decide) rfl (fun ls hl => ?_)
        refine lv_goto (tgt := 4) hx hb dX11_estate_46 (by decide) ?_
        exact ih v5 (x3 + 1) _ ls (lv_sub hl [2, 3, 1, 0] rfl) h kk
      · replace h := k_in c20 h
        refine lv_aload_n hx hb dX11_estate_23 rfl (lv_at hl 0 rfl) ?_
        refine lv_iload_n hx hb dX11_estate_24 rfl (lv_at hl 3 rfl) ?_
        obtain ⟨v7, e8, h⟩ := k_bd h
        refine rd_calli (va_runV (As := [.int x3]) (rest := [.int x2]) C0.1 (kX11_whose l (D := D) (cI := cI) (cB := cB) (cZ := cZ) (am := am) (τ := τ) σ x3 _ e8) (wX11_estate_X11_whose hts ⟨Nat.le_of_ble_eq_true rfl, Nat.le_of_ble_eq_true rfl⟩) ⟨PW.blind, mw_r0 hK hP, PW.mk hP hK hN⟩ rfl rfl hl.1 rfl (lv_room (Nat.le_of_ble_eq_true rfl)) dX11_estate_25 ⟨Nat.zero_le _, Nat.zero_le _⟩) ?_
        refine lv_iload_n hx hb dX11_estate_28 rfl (lv_at hl 1 rfl) ?_
        refine lv_icmp_ne (tgt := 40) hx hb dX11_estate_29 (by decide) (fun c29 => ?_) (fun c29 => ?_)
        · replace h := k_in c29 h
          refine lv_iconst (v := 0) hx hb dX11_estate_40 (by decide) ?_
          refine lv_iadd hx hb dX11_estate_41 ?_
          obtain ⟨v9, e10, h⟩ := k_bd h
          refine lv_nmi (k_sm e10) ?_
          refine lv_istore_n (lv' := [(2, .int v9), (0, .ref (am 0)), (1, .int x1), (3, .int x3)]) hx hb dX11_estate_42 rfl hl (by decide) rfl (fun ls hl => ?_)
          refine lv_iinc (v := (x3 + 1)) (lv' := [(3, .int (x3 + 1)), (2, .int v9), (0, .ref (am 0)), (1, .int x1)]) hx hb dX11_estate_43 hl (k := 3) rfl rfl (by decide) rfl (fun ls hl => ?_)
          refine lv_goto (tgt := 4) hx hb dX11_estate_46 (by decide) ?_
          exact ih v9 (x3 + 1) _ ls (lv_sub hl [2, 3, 1, 0] rfl) h kk
        · replace h := k_ip c29 h
          refine lv_aload_n hx hb dX11_estate_32 rfl (lv_at hl 0 rfl) ?_
          refine lv_iload_n hx hb dX11_estate_33 rfl (lv_at hl 3 rfl) ?_
          obtain ⟨v11, e12, h⟩ := k_bd h
          refine rd_calli (va_runV (As := [.int x3]) (rest := [.int x2]) C0.1 (kX11_leftOf l (D := D) (cI := cI) (cB := cB) (cZ := cZ) (am := am) (τ := τ) σ x3 _ e12) (wX11_estate_X11_leftOf hts ⟨Nat.le_of_ble_eq_true rfl, Nat.le_of_ble_eq_true rfl⟩) ⟨PW.blind, mw_r0 hK hP, PW.mk hP hK hN⟩ rfl rfl hl.1 rfl (lv_room (Nat.le_of_ble_eq_true rfl)) dX11_estate_34 ⟨Nat.zero_le _, Nat.zero_le _⟩) ?_
          refine lv_goto (tgt := 41) hx hb dX11_estate_37 (by decide) ?_
          refine lv_iadd hx hb dX11_estate_41 ?_
          obtain ⟨v13, e14, h⟩ := k_bd h
          refine lv_nmi (k_sm e14) ?_
          refine lv_istore_n (lv' := [(2, .int v13), (0, .ref (am 0)), (1, .int x1), (3, .int x3)]) hx hb dX11_estate_42 rfl hl (by decide) rfl (fun ls hl => ?_)
          refine lv_iinc (v := (x3 + 1)) (lv' := [(3, .int (x3 + 1)), (2, .int v13), (0, .ref (am 0)), (1, .int x1)]) hx hb dX11_estate_43 hl (k := 3) rfl rfl (by decide) rfl (fun ls hl => ?_)
          refine lv_goto (tgt := 4) hx hb dX11_estate_46 (by decide) ?_
          exact ih v13 (x3 + 1) _ ls (lv_sub hl [2, 3, 1, 0] rfl) h kk
set_option maxHeartbeats 4000000 in
set_option maxRecDepth 100000 in
theorem kX11_estate (l : Launch) {D : va_G} {cI cB cZ : ClassId} {am : Nat → Nat} {τ : Int64} (σ : Sg) (x1 : Int32) (o : Int32) (h : pX11_estate σ x1 = some o) : Met l yX11_estate wsX11_estate rmX11_estate (va_Pc [.ref (am 0), .int x1] (PW D cI cB cZ (MW cI cB cZ am τ σ))) (QcRead o) 0 0 (fun _ => False) := by
  refine Met.ofW (cc := cX11_estate) (maxL := 4) (ret := (some .int)) (by decide) rfl ?_
  intro p e s m args below meth c s₁ B hml hv
  obtain ⟨rfl, hP, hK, hN⟩ := hv
  have C0 : Cx p s m _ meth c cX11_estate 4 (some .int) RX11 wsX11_estate := ⟨⟨B.exec, B.bytes, hml, findClass_of_methodNamed B.named, atoms_spec B.pre⟩, B.returns, B.notSynchronized⟩
  obtain ⟨⟨hx, hb, -, hown, hts⟩, hr, hlk⟩ := id C0
  have hl := lv_entry ([.ref (am 0), .int x1]) (n := 4) (Nat.le_of_ble_eq_true rfl)
  rw [lg_entry_eq]
  generalize (lg_sl ([.ref (am 0), .int x1]) ++ List.replicate (4 - (lg_sl ([.ref (am 0), .int x1])).length) Slot.unset).toArray = ls at hl ⊢
  have hl : lv_has ls 4 [(0, .ref (am 0)), (1, .int x1)] := hl
  rw [pX11_estate] at h
  refine lv_iconst (v := 0) hx hb dX11_estate_0 (by decide) ?_
  refine lv_istore_n (lv' := [(2, .int 0), (0, .ref (am 0)), (1, .int x1)]) hx hb dX11_estate_1 rfl hl (by decide) rfl (fun ls hl => ?_)
  refine lv_iconst (v := 0) hx hb dX11_estate_2 (by decide) ?_
  refine lv_istore_n (lv' := [(3, .int 0), (2, .int 0), (0, .ref (am 0)), (1, .int x1)]) hx hb dX11_estate_3 rfl hl (by decide) rfl (fun ls hl => ?_)
  obtain ⟨w15, e16, h⟩ := k_bd h
  refine bX11_estate_L4 C0 hK hN hP x1 2000 0 0 _ ls (lv_sub hl [2, 3, 1, 0] rfl) e16 (fun ls hl => ?_)
  refine lv_iload_n hx hb dX11_estate_49 rfl (lv_at hl 0 rfl) ?_
  obtain rfl := k_sm h
  exact W.iret hx hb hr (fun t ht hW => ⟨rfl, ht⟩) (fun _ h => by cases h) dX11_estate_50
set_option maxHeartbeats 4000000 in
set_option maxRecDepth 100000 in
theorem bX11_townOf_L15 {p : Program} {l : Launch} {e : Env} {s : State} {m : MethodId} {args : Array Value} {below : List Frame} {meth : Method} {c : Code} {Q : State → Prop} {D : va_G} {cI cB cZ : ClassId} {am : Nat → Nat} (C0 : Cx p s m args meth c cX11_townOf 5 (some .int) RX11 wsX11_townOf) (hK : va_K D vwCl (tysA cI cB cZ) s) (hN : NW s) {τ : Int64} {σ : Sg} (hP : va_P D vwCl (MW cI cB cZ am τ σ) s.heap) (x3 : Int32) : ∀ (n : Nat) (x2 : Int32) (x4 : Int32) (v : Int32) (ls : Array Slot), lv_has ls 5 [(0, .ref (am 0)), (2, .int x2), (3, .int x3), (4, .int x4)] → pX11_townOf_L15 σ x3 n x2 x4 = some v → (∀ (ls1 : Array Slot), lv_has ls1 5 [(0, .ref (am 0)), (2, .int v), (3, .int x3)] → W p l e rmX11_townOf s m args below meth c s.heap [] 0 0 Q (F0 m 55 ls1 [])) → W p l e rmX11_townOf s m args below meth c s.heap [] 0 0 Q (F0 m 15 ls []) := by
  obtain ⟨⟨hx, hb, hml, hown, hts⟩, hr, hlk⟩ := id C0
  intro n
  induction n with
  | zero =>
    intro x2 x4 v ls hl h kk
    exact absurd h (by simp [pX11_townOf_L15])
  | succ n ih =>
    intro x2 x4 v ls hl h kk
    rw [pX11_townOf_L15] at h
    refine lv_iload hx hb dX11_townOf_15 (lv_at hl 3 rfl) ?_
    refine lv_aload_n hx hb dX11_townOf_17 rfl (lv_at hl 0 rfl) ?_
    refine va_get (D := D) (ci := 11) (v := .ref (am 4)) (C := RX11) (T := TX11) (N := 30) hx hb hts iX11_townOf_X11 hown hK hP 0 mw_0 rfl 4 (by decide) (hts (.fieldLink RX11 20 RX11 "rafts" "[I") (by decide +kernel)) (fun _ h9 => h9) rfl dX11_townOf_18 ?_
    refine lv_iconst (v := 0) hx hb dX11_townOf_21 (by decide) ?_
    obtain ⟨v3, e4, h⟩ := k_bd h
    refine va_iald hx hb hK hP 4 0 mw_4 rfl (k_rd e4).1 dX11_townOf_22 ?_
    refine lv_nmi (k_rd e4).2 ?_
    refine lv_icmp_ge (tgt := 55) hx hb dX11_townOf_23 (by decide) (fun c23 => ?_) (fun c23 => ?_)
    · replace h := k_ip c23 h
      obtain rfl := k_sm h
      exact kk _ (lv_sub hl [0, 1, 2] rfl)
    · replace h := k_in c23 h
      refine lv_iload_n hx hb dX11_townOf_26 rfl (lv_at hl 1 rfl) ?_
      refine lv_iload_n hx hb dX11_townOf_27 rfl (lv_at hl 1 rfl) ?_
      refine lv_iload hx hb dX11_townOf_28 (lv_at hl 3 rfl) ?_
      refine rd_calli (va_runS (As := [.int x2, .int x4]) (rest := [.int x2]) C0.1 (kX11_has l x2 x4) (wX11_townOf_X11_has hts ⟨Nat.le_of_ble_eq_true rfl, Nat.le_of_ble_eq_true rfl⟩) ⟨PT.blind, fun _ _ _ => ⟨rfl, trivial⟩⟩ rfl rfl hl.1 rfl (lv_room (Nat.le_of_ble_eq_true rfl)) dX11_townOf_30 ⟨Nat.zero_le _, Nat.zero_le _⟩) ?_
      refine lv_if_eq (tgt := 46) hx hb dX11_townOf_33 (by decide) (fun c33 => ?_) (fun c33 => ?_)
      · replace h := k_ip c33 h
        refine lv_iconst (v := 0) hx hb dX11_townOf_46 (by decide) ?_
        refine lv_ior hx hb dX11_townOf_47 ?_
        obtain ⟨v5, e6, h⟩ := k_bd h
        refine lv_nmi (k_sm e6) ?_
        refine lv_istore_n (lv' := [(2, .int v5), (0, .ref (am 0)), (3, .int x3), (4, .int x4)]) hx hb dX11_townOf_48 rfl hl (by decide) rfl (fun ls hl => ?_)
        refine lv_iinc (v := (x4 + 1)) (lv' := [(4, .int (x4 + 1)), (2, .int v5), (0, .ref (am 0)), (3, .int x3)]) hx hb dX11_townOf_49 hl (k := 3) rfl rfl (by decide) rfl (fun ls hl => ?_)
        refine lv_goto (tgt := 15) hx hb dX11_townOf_52 (by decide) ?_
        exact ih v5 (x4 + 1) _ ls (lv_sub hl [2, 1, 3, 0] rfl) h kk
      · replace h := k_in c33 h
        refine lv_aload_n hx hb dX11_townOf_36 rfl (lv_at hl 0 rfl) ?_
        refine va_get (D := D) (ci := 11) (v := .ref (am 6)) (C := RX11) (T := TX11) (N := 30) hx hb hts iX11_townOf_X11 hown hK hP 0 mw_0 rfl 6 (by decide) (hts (.fieldLink RX11 26 RX11 "roped" "[I") (by decide +kernel)) (fun _ h9 => h9) rfl dX11_townOf_37 ?_
        refine lv_iload hx hb dX11_townOf_40 (lv_at hl 3 rfl) ?_
        obtain ⟨v7, e8, h⟩ := k_bd h
        refine va_iald hx hb hK hP 6 0 mw_6 rfl (k_rd e8).1 dX11_townOf_42 ?_
        refine lv_nmi (k_rd e8).2 ?_
        refine lv_goto (tgt := 47) hx hb dX11_townOf_43 (by decide) ?_
        refine lv_ior hx hb dX11_townOf_47 ?_
        obtain ⟨v9, e10, h⟩ := k_bd h
        refine lv_nmi (k_sm e10) ?_
        refine lv_istore_n (lv' := [(2, .int v9), (0, .ref (am 0)), (3, .int x3), (4, .int x4)]) hx hb dX11_townOf_48 rfl hl (by decide) rfl (fun ls hl => ?_)
        refine lv_iinc (v := (x4 + 1)) (lv' := [(4, .int (x4 + 1)), (2, .int v9), (0, .ref (am 0)), (3, .int x3)]) hx hb dX11_townOf_49 hl (k := 3) rfl rfl (by decide) rfl (fun ls hl => ?_)
        refine lv_goto (tgt := 15) hx hb dX11_townOf_52 (by decide) ?_
        exact ih v9 (x4 + 1) _ ls (lv_sub hl [2, 1, 3, 0] rfl) h kk
set_option maxHeartbeats 4000000 in
set_option maxRecDepth 100000 in
theorem bX11_townOf_L6 {p : Program} {l : Launch} {e : Env} {s : State} {m : MethodId} {args : Array Value} {below : List Frame} {meth : Method} {c : Code} {Q : State → Prop} {D : va_G} {cI cB cZ : ClassId} {am : Nat → Nat} (C0 : Cx p s m args meth c cX11_townOf 5 (some .int) RX11 wsX11_townOf) (hK : va_K D vwCl (tysA cI cB cZ) s) (hN : NW s) {τ : Int64} {σ : Sg} (hP : va_P D vwCl (MW cI cB cZ am τ σ) s.heap)  : ∀ (n : Nat) (x2 : Int32) (x3 : Int32) (v : Int32) (ls : Array Slot), lv_has ls 5 [(0, .ref (am 0)), (2, .int x2), (3, .int x3)] → pX11_townOf_L6 σ n x2 x3 = some v → (∀ (ls1 : Array Slot), lv_has ls1 5 [(2, .int v)] → W p l e rmX11_townOf s m args below meth c s.heap [] 0 0 Q (F0 m 61 ls1 [])) → W p l e rmX11_townOf s m args below meth c s.heap [] 0 0 Q (F0 m 6 ls []) := by
  obtain ⟨⟨hx, hb, hml, hown, hts⟩, hr, hlk⟩ := id C0
  intro n
  induction n with
  | zero =>
    intro x2 x3 v ls hl h kk
    exact absurd h (by simp [pX11_townOf_L6])
  | succ n ih =>
    intro x2 x3 v ls hl h kk
    rw [pX11_townOf_L6] at h
    refine lv_iload_n hx hb dX11_townOf_6 rfl (lv_at hl 2 rfl) ?_
    refine lv_bipush (v := 6) hx hb dX11_townOf_7 (by decide) ?_
    refine lv_icmp_ge (tgt := 61) hx hb dX11_townOf_9 (by decide) (fun c9 => ?_) (fun c9 => ?_)
    · replace h := k_ip c9 h
      obtain rfl := k_sm h
      exact kk _ (lv_sub hl [1] rfl)
    · replace h := k_in c9 h
      refine lv_iconst (v := 0) hx hb dX11_townOf_12 (by decide) ?_
      refine lv_istore (lv' := [(4, .int 0), (0, .ref (am 0)), (2, .int x2), (3, .int x3)]) hx hb dX11_townOf_13 hl (by decide) rfl (fun ls hl => ?_)
      obtain ⟨w11, e12, h⟩ := k_bd h
      refine bX11_townOf_L15 C0 hK hN hP x3 2000 x2 0 _ ls (lv_sub hl [1, 2, 3, 0] rfl) e12 (fun ls hl => ?_)
      refine lv_iinc (v := (x3 + 1)) (lv' := [(3, .int (x3 + 1)), (0, .ref (am 0)), (2, .int w11)]) hx hb dX11_townOf_55 hl (k := 2) rfl rfl (by decide) rfl (fun ls hl => ?_)
      refine lv_goto (tgt := 6) hx hb dX11_townOf_58 (by decide) ?_
      exact ih w11 (x3 + 1) _ ls (lv_sub hl [1, 2, 0] rfl) h kk
set_option maxHeartbeats 4000000 in
set_option maxRecDepth 100000 in
theorem kX11_townOf (l : Launch) {D : va_G} {cI cB cZ : ClassId} {am : Nat → Nat} {τ : Int64} (σ : Sg) (x1 : Int32) (o : Int32) (h : pX11_townOf σ x1 = some o) : Met l yX11_townOf wsX11_townOf rmX11_townOf (va_Pc [.ref (am 0), .int x1] (PW D cI cB cZ (MW cI cB cZ am τ σ))) (QcRead o) 0 0 (fun _ => False) := by
  refine Met.ofW (cc := cX11_townOf) (maxL := 5) (ret := (some .int)) (by decide) rfl ?_
  intro p e s m args below meth c s₁ B hml hv
  obtain ⟨rfl, hP, hK, hN⟩ := hv
  have C0 : Cx p s m _ meth c cX11_townOf 5 (some .int) RX11 wsX11_townOf := ⟨⟨B.exec, B.bytes, hml, findClass_of_methodNamed B.named, atoms_spec B.pre⟩, B.returns, B.notSynchronized⟩
  obtain ⟨⟨hx, hb, -, hown, hts⟩, hr, hlk⟩ := id C0
  have hl := lv_entry ([.ref (am 0), .int x1]) (n := 5) (Nat.le_of_ble_eq_true rfl)
  rw [lg_entry_eq]
  generalize (lg_sl ([.ref (am 0), .int x1]) ++ List.replicate (5 - (lg_sl ([.ref (am 0), .int x1])).length) Slot.unset).toArray = ls at hl ⊢
  have hl : lv_has ls 5 [(0, .ref (am 0)), (1, .int x1)] := hl
  rw [pX11_townOf] at h
  refine lv_iconst (v := 1) hx hb dX11_townOf_0 (by decide) ?_
  refine lv_iload_n hx hb dX11_townOf_1 rfl (lv_at hl 1 rfl) ?_
  refine lv_ishl hx hb dX11_townOf_2 ?_
  obtain ⟨v1, e2, h⟩ := k_bd h
  refine lv_nmi (k_sm e2) ?_
  refine lv_istore_n (lv' := [(2, .int v1), (0, .ref (am 0)), (1, .int x1)]) hx hb dX11_townOf_3 rfl hl (by decide) rfl (fun ls hl => ?_)
  refine lv_iconst (v := 0) hx hb dX11_townOf_4 (by decide) ?_
  refine lv_istore_n (lv' := [(3, .int 0), (2, .int v1), (0, .ref (am 0)), (1, .int x1)]) hx hb dX11_townOf_5 rfl hl (by decide) rfl (fun ls hl => ?_)
  obtain ⟨w13, e14, h⟩ := k_bd h
  refine bX11_townOf_L6 C0 hK hN hP  2000 v1 0 _ ls (lv_sub hl [2, 1, 0] rfl) e14 (fun ls hl => ?_)
  refine lv_iload_n hx hb dX11_townOf_61 rfl (lv_at hl 0 rfl) ?_
  obtain rfl := k_sm h
  exact W.iret hx hb hr (fun t ht hW => ⟨rfl, ht⟩) (fun _ h => by cases h) dX11_townOf_62
set_option maxHeartbeats 4000000 in
set_option maxRecDepth 100000 in
theorem bX11_might_L11 {p : Program} {l : Launch} {e : Env} {s : State} {m : MethodId} {args : Array Value} {below : List Frame} {meth : Method} {c : Code} {Q : State → Prop} {D : va_G} {cI cB cZ : ClassId} {am : Nat → Nat} (C0 : Cx p s m args meth c cX11_might 5 (some .int) RX11 wsX11_might) (hK : va_K D vwCl (tysA cI cB cZ) s) (hN : NW s) {τ : Int64} {σ : Sg} (hP : va_P D vwCl (MW cI cB cZ am τ σ) s.heap) (x2 : Int32) : ∀ (n : Nat) (x3 : Int32) (x4 : Int32) (v : Int32) (ls : Array Slot), lv_has ls 5 [(0, .ref (am 0)), (2, .int x2), (3, .int x3), (4, .int x4)] → pX11_might_L11 σ x2 n x3 x4 = some v → (∀ (ls1 : Array Slot), lv_has ls1 5 [(3, .int v)] → W p l e rmX11_might s m args below meth c s.heap [] 0 0 Q (F0 m 64 ls1 [])) → W p l e rmX11_might s m args below meth c s.heap [] 0 0 Q (F0 m 11 ls []) := by
  obtain ⟨⟨hx, hb, hml, hown, hts⟩, hr, hlk⟩ := id C0
  intro n
  induction n with
  | zero =>
    intro x3 x4 v ls hl h kk
    exact absurd h (by simp [pX11_might_L11])
  | succ n ih =>
    intro x3 x4 v ls hl h kk
    rw [pX11_might_L11] at h
    refine lv_iload hx hb dX11_might_11 (lv_at hl 3 rfl) ?_
    refine lv_aload_n hx hb dX11_might_13 rfl (lv_at hl 0 rfl) ?_
    refine va_get (D := D) (ci := 11) (v := .ref (am 7)) (C := RX11) (T := TX11) (N := 30) hx hb hts iX11_might_X11 hown hK hP 0 mw_0 rfl 7 (by decide) (hts (.fieldLink RX11 29 RX11 "anchors" "[I") (by decide +kernel)) (fun _ h9 => h9) rfl dX11_might_14 ?_
    refine lv_iconst (v := 0) hx hb dX11_might_17 (by decide) ?_
    obtain ⟨v3, e4, h⟩ := k_bd h
    refine va_iald hx hb hK hP 7 0 mw_7 rfl (k_rd e4).1 dX11_might_18 ?_
    refine lv_nmi (k_rd e4).2 ?_
    refine lv_icmp_ge (tgt := 64) hx hb dX11_might_19 (by decide) (fun c19 => ?_) (fun c19 => ?_)
    · replace h := k_ip c19 h
      obtain rfl := k_sm h
      exact kk _ (lv_sub hl [2] rfl)
    · replace h := k_in c19 h
      refine lv_iload_n hx hb dX11_might_22 rfl (lv_at hl 2 rfl) ?_
      refine lv_aload_n hx hb dX11_might_23 rfl (lv_at hl 0 rfl) ?_
      refine lv_iload hx hb dX11_might_24 (lv_at hl 3 rfl) ?_
      obtain ⟨v5, e6, h⟩ := k_bd h
      refine rd_calli (va_runV (As := [.int x4]) (rest := [.int x3]) C0.1 (kX11_isLying l (D := D) (cI := cI) (cB := cB) (cZ := cZ) (am := am) (τ := τ) σ x4 _ e6) (wX11_might_X11_isLying hts ⟨Nat.le_of_ble_eq_true rfl, Nat.le_of_ble_eq_true rfl⟩) ⟨PW.blind, mw_r0 hK hP, PW.mk hP hK hN⟩ rfl rfl hl.1 rfl (lv_room (Nat.le_of_ble_eq_true rfl)) dX11_might_26 ⟨Nat.zero_le _, Nat.zero_le _⟩) ?_
      refine lv_if_eq (tgt := 55) hx hb dX11_might_29 (by decide) (fun c29 => ?_) (fun c29 => ?_)
      · replace h := k_ip c29 h
        refine lv_iconst (v := 0) hx hb dX11_might_55 (by decide) ?_
        refine lv_iadd hx hb dX11_might_56 ?_
        obtain ⟨v7, e8, h⟩ := k_bd h
        refine lv_nmi (k_sm e8) ?_
        refine lv_istore_n (lv' := [(3, .int v7), (0, .ref (am 0)), (2, .int x2), (4, .int x4)]) hx hb dX11_might_57 rfl hl (by decide) rfl (fun ls hl => ?_)
        refine lv_iinc (v := (x4 + 1)) (lv' := [(4, .int (x4 + 1)), (3, .int v7), (0, .ref (am 0)), (2, .int x2)]) hx hb dX11_might_58 hl (k := 3) rfl rfl (by decide) rfl (fun ls hl => ?_)
        refine lv_goto (tgt := 11) hx hb dX11_might_61 (by decide) ?_
        exact ih v7 (x4 + 1) _ ls (lv_sub hl [2, 3, 1, 0] rfl) h kk
      · replace h := k_in c29 h
        refine lv_iload_n hx hb dX11_might_32 rfl (lv_at hl 1 rfl) ?_
        refine lv_aload_n hx hb dX11_might_33 rfl (lv_at hl 0 rfl) ?_
        refine va_get (D := D) (ci := 11) (v := .ref (am 8)) (C := RX11) (T := TX11) (N := 30) hx hb hts iX11_might_X11 hown hK hP 0 mw_0 rfl 8 (by decide) (hts (.fieldLink RX11 32 RX11 "owner" "[I") (by decide +kernel)) (fun _ h9 => h9) rfl dX11_might_34 ?_
        refine lv_iload hx hb dX11_might_37 (lv_at hl 3 rfl) ?_
        obtain ⟨v9, e10, h⟩ := k_bd h
        refine va_iald hx hb hK hP 8 0 mw_8 rfl (k_rd e10).1 dX11_might_39 ?_
        refine lv_nmi (k_rd e10).2 ?_
        refine rd_calli (va_runS (As := [.int x2, .int v9]) (rest := [.int x3]) C0.1 (kX11_has l x2 v9) (wX11_might_X11_has hts ⟨Nat.le_of_ble_eq_true rfl, Nat.le_of_ble_eq_true rfl⟩) ⟨PT.blind, fun _ _ _ => ⟨rfl, trivial⟩⟩ rfl rfl hl.1 rfl (lv_room (Nat.le_of_ble_eq_true rfl)) dX11_might_40 ⟨Nat.zero_le _, Nat.zero_le _⟩) ?_
        refine lv_if_eq (tgt := 55) hx hb dX11_might_43 (by decide) (fun c43 => ?_) (fun c43 => ?_)
        · replace h := k_ip c43 h
          refine lv_iconst (v := 0) hx hb dX11_might_55 (by decide) ?_
          refine lv_iadd hx hb dX11_might_56 ?_
          obtain ⟨v11, e12, h⟩ := k_bd h
          refine lv_nmi (k_sm e12) ?_
          refine lv_istore_n (lv' := [(3, .int v11), (0, .ref (am 0)), (2, .int x2), (4, .int x4)]) hx hb dX11_might_57 rfl hl (by decide) rfl (fun ls hl => ?_)
          refine lv_iinc (v := (x4 + 1)) (lv' := [(4, .int (x4 + 1)), (3, .int v11), (0, .ref (am 0)), (2, .int x2)]) hx hb dX11_might_58 hl (k := 3) rfl rfl (by decide) rfl (fun ls hl => ?_)
          refine lv_goto (tgt := 11) hx hb dX11_might_61 (by decide) ?_
          exact ih v11 (x4 + 1) _ ls (lv_sub hl [2, 3, 1, 0] rfl) h kk
        · replace h := k_in c43 h
          refine lv_aload_n hx hb dX11_might_46 rfl (lv_at hl 0 rfl) ?_
          refine lv_iload hx hb dX11_might_47 (lv_at hl 3 rfl) ?_
          obtain ⟨v13, e14, h⟩ := k_bd h
          refine rd_calli (va_runV (As := [.int x4]) (rest := [.int x3]) C0.1 (kX11_strength l (D := D) (cI := cI) (cB := cB) (cZ := cZ) (am := am) (τ := τ) σ x4 _ e14) (wX11_might_X11_strength hts ⟨Nat.le_of_ble_eq_true rfl, Nat.le_of_ble_eq_true rfl⟩) ⟨PW.blind, mw_r0 hK hP, PW.mk hP hK hN⟩ rfl rfl hl.1 rfl (lv_room (Nat.le_of_ble_eq_true rfl)) dX11_might_49 ⟨Nat.zero_le _, Nat.zero_le _⟩) ?_
          refine lv_goto (tgt := 56) hx hb dX11_might_52 (by decide) ?_
          refine lv_iadd hx hb dX11_might_56 ?_
          obtain ⟨v15, e16, h⟩ := k_bd h
          refine lv_nmi (k_sm e16) ?_
          refine lv_istore_n (lv' := [(3, .int v15), (0, .ref (am 0)), (2, .int x2), (4, .int x4)]) hx hb dX11_might_57 rfl hl (by decide) rfl (fun ls hl => ?_)
          refine lv_iinc (v := (x4 + 1)) (lv' := [(4, .int (x4 + 1)), (3, .int v15), (0, .ref (am 0)), (2, .int x2)]) hx hb dX11_might_58 hl (k := 3) rfl rfl (by decide) rfl (fun ls hl => ?_)
          refine lv_goto (tgt := 11) hx hb dX11_might_61 (by decide) ?_
          exact ih v15 (x4 + 1) _ ls (lv_sub hl [2, 3, 1, 0] rfl) h kk
set_option maxHeartbeats 4000000 in
set_option maxRecDepth 100000 in
theorem kX11_might (l : Launch) {D : va_G} {cI cB cZ : ClassId} {am : Nat → Nat} {τ : Int64} (σ : Sg) (x1 : Int32) (o : Int32) (h : pX11_might σ x1 = some o) : Met l yX11_might wsX11_might rmX11_might (va_Pc [.ref (am 0), .int x1] (PW D cI cB cZ (MW cI cB cZ am τ σ))) (QcRead o) 0 0 (fun _ => False) := by
  refine Met.ofW (cc := cX11_might) (maxL := 5) (ret := (some .int)) (by decide) rfl ?_
  intro p e s m args below meth c s₁ B hml hv
  obtain ⟨rfl, hP, hK, hN⟩ := hv
  have C0 : Cx p s m _ meth c cX11_might 5 (some .int) RX11 wsX11_might := ⟨⟨B.exec, B.bytes, hml, findClass_of_methodNamed B.named, atoms_spec B.pre⟩, B.returns, B.notSynchronized⟩
  obtain ⟨⟨hx, hb, -, hown, hts⟩, hr, hlk⟩ := id C0
  have hl := lv_entry ([.ref (am 0), .int x1]) (n := 5) (Nat.le_of_ble_eq_true rfl)
  rw [lg_entry_eq]
  generalize (lg_sl ([.ref (am 0), .int x1]) ++ List.replicate (5 - (lg_sl ([.ref (am 0), .int x1])).length) Slot.unset).toArray = ls at hl ⊢
  have hl : lv_has ls 5 [(0, .ref (am 0)), (1, .int x1)] := hl
  rw [pX11_might] at h
  refine lv_aload_n hx hb dX11_might_0 rfl (lv_at hl 0 rfl) ?_
  refine lv_iload_n hx hb dX11_might_1 rfl (lv_at hl 1 rfl) ?_
  obtain ⟨v1, e2, h⟩ := k_bd h
  refine rd_calli (va_runV (As := [.int x1]) (rest := []) C0.1 (kX11_townOf l (D := D) (cI := cI) (cB := cB) (cZ := cZ) (am := am) (τ := τ) σ x1 _ e2) (wX11_might_X11_townOf hts ⟨Nat.le_of_ble_eq_true rfl, Nat.le_of_ble_eq_true rfl⟩) ⟨PW.blind, mw_r0 hK hP, PW.mk hP hK hN⟩ rfl rfl hl.1 rfl (lv_room (Nat.le_of_ble_eq_true rfl)) dX11_might_2 ⟨Nat.zero_le _, Nat.zero_le _⟩) ?_
  refine lv_istore_n (lv' := [(2, .int v1), (0, .ref (am 0)), (1, .int x1)]) hx hb dX11_might_5 rfl hl (by decide) rfl (fun ls hl => ?_)
  refine lv_iconst (v := 0) hx hb dX11_might_6 (by decide) ?_
  refine lv_istore_n (lv' := [(3, .int 0), (2, .int v1), (0, .ref (am 0)), (1, .int x1)]) hx hb dX11_might_7 rfl hl (by decide) rfl (fun ls hl => ?_)
  refine lv_iconst (v := 0) hx hb dX11_might_8 (by decide) ?_
  refine lv_istore (lv' := [(4, .int 0), (3, .int 0), (2, .int v1), (0, .ref (am 0)), (1, .int x1)]) hx hb dX11_might_9 hl (by decide) rfl (fun ls hl => ?_)
  obtain ⟨w17, e18, h⟩ := k_bd h
  refine bX11_might_L11 C0 hK hN hP v1 2000 0 0 _ ls (lv_sub hl [3, 2, 1, 0] rfl) e18 (fun ls hl => ?_)
  refine lv_iload_n hx hb dX11_might_64 rfl (lv_at hl 0 rfl) ?_
  obtain rfl := k_sm h
  exact W.iret hx hb hr (fun t ht hW => ⟨rfl, ht⟩) (fun _ h => by cases h) dX11_might_65
set_option maxHeartbeats 4000000 in
set_option maxRecDepth 100000 in
theorem kX11_raft (l : Launch) {D : va_G} {cI cB cZ : ClassId} {am : Nat → Nat} {τ : Int64} (σ : Sg) (x1 : Int32) (x2 : Int32) (o : Int32) (h : pX11_raft σ x1 x2 = some o) : Met l yX11_raft wsX11_raft rmX11_raft (va_Pc [.ref (am 0), .int x1, .int x2] (PW D cI cB cZ (MW cI cB cZ am τ σ))) (QcRead o) 0 0 (fun _ => False) := by
  refine Met.ofW (cc := cX11_raft) (maxL := 3) (ret := (some .int)) (by decide) rfl ?_
  intro p e s m args below meth c s₁ B hml hv
  obtain ⟨rfl, hP, hK, hN⟩ := hv
  have C0 : Cx p s m _ meth c cX11_raft 3 (some .int) RX11 wsX11_raft := ⟨⟨B.exec, B.bytes, hml, findClass_of_methodNamed B.named, atoms_spec B.pre⟩, B.returns, B.notSynchronized⟩
  obtain ⟨⟨hx, hb, -, hown, hts⟩, hr, hlk⟩ := id C0
  have hl := lv_entry ([.ref (am 0), .int x1, .int x2]) (n := 3) (Nat.le_of_ble_eq_true rfl)
  rw [lg_entry_eq]
  generalize (lg_sl ([.ref (am 0), .int x1, .int x2]) ++ List.replicate (3 - (lg_sl ([.ref (am 0), .int x1, .int x2])).length) Slot.unset).toArray = ls at hl ⊢
  have hl : lv_has ls 3 [(0, .ref (am 0)), (1, .int x1), (2, .int x2)] := hl
  rw [pX11_raft] at h
  refine lv_aload_n hx hb dX11_raft_0 rfl (lv_at hl 0 rfl) ?_
  refine lv_iload_n hx hb dX11_raft_1 rfl (lv_at hl 1 rfl) ?_
  obtain ⟨v1, e2, h⟩ := k_bd h
  refine rd_calli (va_runV (As := [.int x1]) (rest := []) C0.1 (kX11_isRaft l (D := D) (cI := cI) (cB := cB) (cZ := cZ) (am := am) (τ := τ) σ x1 _ e2) (wX11_raft_X11_isRaft hts ⟨Nat.le_of_ble_eq_true rfl, Nat.le_of_ble_eq_true rfl⟩) ⟨PW.blind, mw_r0 hK hP, PW.mk hP hK hN⟩ rfl rfl hl.1 rfl (lv_room (Nat.le_of_ble_eq_true rfl)) dX11_raft_2 ⟨Nat.zero_le _, Nat.zero_le _⟩) ?_
  refine lv_if_ne (tgt := 10) hx hb dX11_raft_5 (by decide) (fun c5 => ?_) (fun c5 => ?_)
  · replace h := k_in c5 h
    refine lv_iload_n hx hb dX11_raft_10 rfl (lv_at hl 2 rfl) ?_
    by_cases c11_0 : x2 = 0
    · replace h := k_ip c11_0 h
      refine lv_tableIn (tgt := 48) hx hb dX11_raft_11 (by rw [c11_0] <;> decide) (by rw [c11_0] <;> decide) (by rw [c11_0] <;> rfl) (by decide) ?_
      refine lv_aload_n hx hb dX11_raft_48 rfl (lv_at hl 0 rfl) ?_
      refine va_get (D := D) (ci := 11) (v := .ref (am 13)) (C := RX11) (T := TX11) (N := 30) hx hb hts iX11_raft_X11 hown hK hP 0 mw_0 rfl 19 (by decide) (hts (.fieldLink RX11 47 RX11 "now" "[I") (by decide +kernel)) (fun _ h9 => h9) rfl dX11_raft_49 ?_
      refine lv_bipush (v := 33) hx hb dX11_raft_52 (by decide) ?_
      refine lv_iload_n hx hb dX11_raft_54 rfl (lv_at hl 1 rfl) ?_
      refine lv_iadd hx hb dX11_raft_55 ?_
      obtain ⟨v3, e4, h⟩ := k_bd h
      refine va_iald hx hb hK hP 13 0 mw_13 rfl (k_rd e4).1 dX11_raft_56 ?_
      refine lv_nmi (k_rd e4).2 ?_
      obtain rfl := k_sm h
      exact W.iret hx hb hr (fun t ht hW => ⟨rfl, ht⟩) (fun _ h => by cases h) dX11_raft_57
    replace h := k_in c11_0 h
    by_cases c11_1 : x2 = 1
    · replace h := k_ip c11_1 h
      refine lv_tableIn (tgt := 58) hx hb dX11_raft_11 (by rw [c11_1] <;> decide) (by rw [c11_1] <;> decide) (by rw [c11_1] <;> rfl) (by decide) ?_
      refine lv_aload_n hx hb dX11_raft_58 rfl (lv_at hl 0 rfl) ?_
      refine va_get (D := D) (ci := 11) (v := .ref (am 13)) (C := RX11) (T := TX11) (N := 30) hx hb hts iX11_raft_X11 hown hK hP 0 mw_0 rfl 19 (by decide) (hts (.fieldLink RX11 47 RX11 "now" "[I") (by decide +kernel)) (fun _ h9 => h9) rfl dX11_raft_59 ?_
      refine lv_bipush (v := 32) hx hb dX11_raft_62 (by decide) ?_
      obtain ⟨v5, e6, h⟩ := k_bd h
      refine va_iald hx hb hK hP 13 0 mw_13 rfl (k_rd e6).1 dX11_raft_64 ?_
      refine lv_nmi (k_rd e6).2 ?_
      refine lv_iload_n hx hb dX11_raft_65 rfl (lv_at hl 1 rfl) ?_
      refine rd_calli (va_runS (As := [.int v5, .int x1]) (rest := []) C0.1 (kX11_has l v5 x1) (wX11_raft_X11_has hts ⟨Nat.le_of_ble_eq_true rfl, Nat.le_of_ble_eq_true rfl⟩) ⟨PT.blind, fun _ _ _ => ⟨rfl, trivial⟩⟩ rfl rfl hl.1 rfl (lv_room (Nat.le_of_ble_eq_true rfl)) dX11_raft_66 ⟨Nat.zero_le _, Nat.zero_le _⟩) ?_
      refine lv_if_eq (tgt := 76) hx hb dX11_raft_69 (by decide) (fun c69 => ?_) (fun c69 => ?_)
      · replace h := k_ip c69 h
        refine lv_iconst (v := 0) hx hb dX11_raft_76 (by decide) ?_
        obtain rfl := k_sm h
        exact W.iret hx hb hr (fun t ht hW => ⟨rfl, ht⟩) (fun _ h => by cases h) dX11_raft_77
      · replace h := k_in c69 h
        refine lv_iconst (v := 1) hx hb dX11_raft_72 (by decide) ?_
        refine lv_goto (tgt := 77) hx hb dX11_raft_73 (by decide) ?_
        obtain rfl := k_sm h
        exact W.iret hx hb hr (fun t ht hW => ⟨rfl, ht⟩) (fun _ h => by cases h) dX11_raft_77
    replace h := k_in c11_1 h
    by_cases c11_2 : x2 = 2
    · replace h := k_ip c11_2 h
      refine lv_tableIn (tgt := 78) hx hb dX11_raft_11 (by rw [c11_2] <;> decide) (by rw [c11_2] <;> decide) (by rw [c11_2] <;> rfl) (by decide) ?_
      refine lv_aload_n hx hb dX11_raft_78 rfl (lv_at hl 0 rfl) ?_
      refine va_get (D := D) (ci := 11) (v := .ref (am 13)) (C := RX11) (T := TX11) (N := 30) hx hb hts iX11_raft_X11 hown hK hP 0 mw_0 rfl 19 (by decide) (hts (.fieldLink RX11 47 RX11 "now" "[I") (by decide +kernel)) (fun _ h9 => h9) rfl dX11_raft_79 ?_
      refine lv_bipush (v := 39) hx hb dX11_raft_82 (by decide) ?_
      refine lv_iload_n hx hb dX11_raft_84 rfl (lv_at hl 1 rfl) ?_
      refine lv_iadd hx hb dX11_raft_85 ?_
      obtain ⟨v7, e8, h⟩ := k_bd h
      refine va_iald hx hb hK hP 13 0 mw_13 rfl (k_rd e8).1 dX11_raft_86 ?_
      refine lv_nmi (k_rd e8).2 ?_
      obtain rfl := k_sm h
      exact W.iret hx hb hr (fun t ht hW => ⟨rfl, ht⟩) (fun _ h => by cases h) dX11_raft_87
    replace h := k_in c11_2 h
    by_cases c11_3 : x2 = 3
    · replace h := k_ip c11_3 h
      refine lv_tableIn (tgt := 88) hx hb dX11_raft_11 (by rw [c11_3] <;> decide) (by rw [c11_3] <;> decide) (by rw [c11_3] <;> rfl) (by decide) ?_
      refine lv_aload_n hx hb dX11_raft_88 rfl (lv_at hl 0 rfl) ?_
      refine lv_iload_n hx hb dX11_raft_89 rfl (lv_at hl 1 rfl) ?_
      obtain ⟨v9, e10, h⟩ := k_bd h
      refine rd_calli (va_runV (As := [.int x1]) (rest := []) C0.1 (kX11_estate l (D := D) (cI := cI) (cB := cB) (cZ := cZ) (am := am) (τ := τ) σ x1 _ e10) (wX11_raft_X11_estate hts ⟨Nat.le_of_ble_eq_true rfl, Nat.le_of_ble_eq_true rfl⟩) ⟨PW.blind, mw_r0 hK hP, PW.mk hP hK hN⟩ rfl rfl hl.1 rfl (lv_room (Nat.le_of_ble_eq_true rfl)) dX11_raft_90 ⟨Nat.zero_le _, Nat.zero_le _⟩) ?_
      obtain rfl := k_sm h
      exact W.iret hx hb hr (fun t ht hW => ⟨rfl, ht⟩) (fun _ h => by cases h) dX11_raft_93
    replace h := k_in c11_3 h
    by_cases c11_4 : x2 = 4
    · replace h := k_ip c11_4 h
      refine lv_tableIn (tgt := 94) hx hb dX11_raft_11 (by rw [c11_4] <;> decide) (by rw [c11_4] <;> decide) (by rw [c11_4] <;> rfl) (by decide) ?_
      refine lv_aload_n hx hb dX11_raft_94 rfl (lv_at hl 0 rfl) ?_
      refine lv_iload_n hx hb dX11_raft_95 rfl (lv_at hl 1 rfl) ?_
      obtain ⟨v11, e12, h⟩ := k_bd h
      refine rd_calli (va_runV (As := [.int x1]) (rest := []) C0.1 (kX11_townOf l (D := D) (cI := cI) (cB := cB) (cZ := cZ) (am := am) (τ := τ) σ x1 _ e12) (wX11_raft_X11_townOf hts ⟨Nat.le_of_ble_eq_true rfl, Nat.le_of_ble_eq_true rfl⟩) ⟨PW.blind, mw_r0 hK hP, PW.mk hP hK hN⟩ rfl rfl hl.1 rfl (lv_room (Nat.le_of_ble_eq_true rfl)) dX11_raft_96 ⟨Nat.zero_le _, Nat.zero_le _⟩) ?_
      obtain rfl := k_sm h
      exact W.iret hx hb hr (fun t ht hW => ⟨rfl, ht⟩) (fun _ h => by cases h) dX11_raft_99
    replace h := k_in c11_4 h
    by_cases c11_5 : x2 = 5
    · replace h := k_ip c11_5 h
      refine lv_tableIn (tgt := 100) hx hb dX11_raft_11 (by rw [c11_5] <;> decide) (by rw [c11_5] <;> decide) (by rw [c11_5] <;> rfl) (by decide) ?_
      refine lv_aload_n hx hb dX11_raft_100 rfl (lv_at hl 0 rfl) ?_
      refine lv_iload_n hx hb dX11_raft_101 rfl (lv_at hl 1 rfl) ?_
      obtain ⟨v13, e14, h⟩ := k_bd h
      refine rd_calli (va_runV (As := [.int x1]) (rest := []) C0.1 (kX11_might l (D := D) (cI := cI) (cB := cB) (cZ := cZ) (am := am) (τ := τ) σ x1 _ e14) (wX11_raft_X11_might hts ⟨Nat.le_of_ble_eq_true rfl, Nat.le_of_ble_eq_true rfl⟩) ⟨PW.blind, mw_r0 hK hP, PW.mk hP hK hN⟩ rfl rfl hl.1 rfl (lv_room (Nat.le_of_ble_eq_true rfl)) dX11_raft_102 ⟨Nat.zero_le _, Nat.zero_le _⟩) ?_
      obtain rfl := k_sm h
      exact W.iret hx hb hr (fun t ht hW => ⟨rfl, ht⟩) (fun _ h => by cases h) dX11_raft_105
    replace h := k_in c11_5 h
    refine lv_tableOut (tgt := 106) hx hb dX11_raft_11 (by have z0 := lv_neT (a := 0) c11_0 (by decide); have z1 := lv_neT (a := 1) c11_1 (by decide); have z2 := lv_neT (a := 2) c11_2 (by decide); have z3 := lv_neT (a := 3) c11_3 (by decide); have z4 := lv_neT (a := 4) c11_4 (by decide); have z5 := lv_neT (a := 5) c11_5 (by decide); omega) (by decide) ?_
    refine lv_iconst (v := (-1)) hx hb dX11_raft_106 (by decide) ?_
    obtain rfl := k_sm h
    exact W.iret hx hb hr (fun t ht hW => ⟨rfl, ht⟩) (fun _ h => by cases h) dX11_raft_107
  · replace h := k_ip c5 h
    refine lv_iconst (v := (-1)) hx hb dX11_raft_8 (by decide) ?_
    obtain rfl := k_sm h
    exact W.iret hx hb hr (fun t ht hW => ⟨rfl, ht⟩) (fun _ h => by cases h) dX11_raft_9
set_option maxHeartbeats 4000000 in
set_option maxRecDepth 100000 in
theorem kX11_anchor (l : Launch) {D : va_G} {cI cB cZ : ClassId} {am : Nat → Nat} {τ : Int64} (σ : Sg) (x1 : Int32) (x2 : Int32) (o : Int32) (h : pX11_anchor σ x1 x2 = some o) : Met l yX11_anchor wsX11_anchor rmX11_anchor (va_Pc [.ref (am 0), .int x1, .int x2] (PW D cI cB cZ (MW cI cB cZ am τ σ))) (QcRead o) 0 0 (fun _ => False) := by
  refine Met.ofW (cc := cX11_anchor) (maxL := 3) (ret := (some .int)) (by decide) rfl ?_
  intro p e s m args below meth c s₁ B hml hv
  obtain ⟨rfl, hP, hK, hN⟩ := hv
  have C0 : Cx p s m _ meth c cX11_anchor 3 (some .int) RX11 wsX11_anchor := ⟨⟨B.exec, B.bytes, hml, findClass_of_methodNamed B.named, atoms_spec B.pre⟩, B.returns, B.notSynchronized⟩
  obtain ⟨⟨hx, hb, -, hown, hts⟩, hr, hlk⟩ := id C0
  have hl := lv_entry ([.ref (am 0), .int x1, .int x2]) (n := 3) (Nat.le_of_ble_eq_true rfl)
  rw [lg_entry_eq]
  generalize (lg_sl ([.ref (am 0), .int x1, .int x2]) ++ List.replicate (3 - (lg_sl ([.ref (am 0), .int x1, .int x2])).length) Slot.unset).toArray = ls at hl ⊢
  have hl : lv_has ls 3 [(0, .ref (am 0)), (1, .int x1), (2, .int x2)] := hl
  rw [pX11_anchor] at h
  refine lv_aload_n hx hb dX11_anchor_0 rfl (lv_at hl 0 rfl) ?_
  refine lv_iload_n hx hb dX11_anchor_1 rfl (lv_at hl 1 rfl) ?_
  obtain ⟨v1, e2, h⟩ := k_bd h
  refine rd_calli (va_runV (As := [.int x1]) (rest := []) C0.1 (kX11_isAnchor l (D := D) (cI := cI) (cB := cB) (cZ := cZ) (am := am) (τ := τ) σ x1 _ e2) (wX11_anchor_X11_isAnchor hts ⟨Nat.le_of_ble_eq_true rfl, Nat.le_of_ble_eq_true rfl⟩) ⟨PW.blind, mw_r0 hK hP, PW.mk hP hK hN⟩ rfl rfl hl.1 rfl (lv_room (Nat.le_of_ble_eq_true rfl)) dX11_anchor_2 ⟨Nat.zero_le _, Nat.zero_le _⟩) ?_
  refine lv_if_ne (tgt := 10) hx hb dX11_anchor_5 (by decide) (fun c5 => ?_) (fun c5 => ?_)
  · replace h := k_in c5 h
    refine lv_iload_n hx hb dX11_anchor_10 rfl (lv_at hl 2 rfl) ?_
    by_cases c11_0 : x2 = 0
    · replace h := k_ip c11_0 h
      refine lv_tableIn (tgt := 60) hx hb dX11_anchor_11 (by rw [c11_0] <;> decide) (by rw [c11_0] <;> decide) (by rw [c11_0] <;> rfl) (by decide) ?_
      refine lv_aload_n hx hb dX11_anchor_60 rfl (lv_at hl 0 rfl) ?_
      refine va_get (D := D) (ci := 11) (v := .ref (am 8)) (C := RX11) (T := TX11) (N := 30) hx hb hts iX11_anchor_X11 hown hK hP 0 mw_0 rfl 8 (by decide) (hts (.fieldLink RX11 32 RX11 "owner" "[I") (by decide +kernel)) (fun _ h9 => h9) rfl dX11_anchor_61 ?_
      refine lv_iload_n hx hb dX11_anchor_64 rfl (lv_at hl 1 rfl) ?_
      obtain ⟨v3, e4, h⟩ := k_bd h
      refine va_iald hx hb hK hP 8 0 mw_8 rfl (k_rd e4).1 dX11_anchor_65 ?_
      refine lv_nmi (k_rd e4).2 ?_
      obtain rfl := k_sm h
      exact W.iret hx hb hr (fun t ht hW => ⟨rfl, ht⟩) (fun _ h => by cases h) dX11_anchor_66
    replace h := k_in c11_0 h
    by_cases c11_1 : x2 = 1
    · replace h := k_ip c11_1 h
      refine lv_tableIn (tgt := 67) hx hb dX11_anchor_11 (by rw [c11_1] <;> decide) (by rw [c11_1] <;> decide) (by rw [c11_1] <;> rfl) (by decide) ?_
      refine lv_aload_n hx hb dX11_anchor_67 rfl (lv_at hl 0 rfl) ?_
      refine va_get (D := D) (ci := 11) (v := .ref (am 13)) (C := RX11) (T := TX11) (N := 30) hx hb hts iX11_anchor_X11 hown hK hP 0 mw_0 rfl 19 (by decide) (hts (.fieldLink RX11 47 RX11 "now" "[I") (by decide +kernel)) (fun _ h9 => h9) rfl dX11_anchor_68 ?_
      refine lv_iconst (v := 0) hx hb dX11_anchor_71 (by decide) ?_
      refine lv_iload_n hx hb dX11_anchor_72 rfl (lv_at hl 1 rfl) ?_
      refine lv_iadd hx hb dX11_anchor_73 ?_
      obtain ⟨v5, e6, h⟩ := k_bd h
      refine va_iald hx hb hK hP 13 0 mw_13 rfl (k_rd e6).1 dX11_anchor_74 ?_
      refine lv_nmi (k_rd e6).2 ?_
      obtain rfl := k_sm h
      exact W.iret hx hb hr (fun t ht hW => ⟨rfl, ht⟩) (fun _ h => by cases h) dX11_anchor_75
    replace h := k_in c11_1 h
    by_cases c11_2 : x2 = 2
    · replace h := k_ip c11_2 h
      refine lv_tableIn (tgt := 76) hx hb dX11_anchor_11 (by rw [c11_2] <;> decide) (by rw [c11_2] <;> decide) (by rw [c11_2] <;> rfl) (by decide) ?_
      refine lv_aload_n hx hb dX11_anchor_76 rfl (lv_at hl 0 rfl) ?_
      refine va_get (D := D) (ci := 11) (v := .ref (am 10)) (C := RX11) (T := TX11) (N := 30) hx hb hts iX11_anchor_X11 hown hK hP 0 mw_0 rfl 10 (by decide) (hts (.fieldLink RX11 38 RX11 "weight" "[I") (by decide +kernel)) (fun _ h9 => h9) rfl dX11_anchor_77 ?_
      refine lv_iload_n hx hb dX11_anchor_80 rfl (lv_at hl 1 rfl) ?_
      obtain ⟨v7, e8, h⟩ := k_bd h
      refine va_iald hx hb hK hP 10 0 mw_10 rfl (k_rd e8).1 dX11_anchor_81 ?_
      refine lv_nmi (k_rd e8).2 ?_
      obtain rfl := k_sm h
      exact W.iret hx hb hr (fun t ht hW => ⟨rfl, ht⟩) (fun _ h => by cases h) dX11_anchor_82
    replace h := k_in c11_2 h
    by_cases c11_3 : x2 = 3
    · replace h := k_ip c11_3 h
      refine lv_tableIn (tgt := 83) hx hb dX11_anchor_11 (by rw [c11_3] <;> decide) (by rw [c11_3] <;> decide) (by rw [c11_3] <;> rfl) (by decide) ?_
      refine lv_aload_n hx hb dX11_anchor_83 rfl (lv_at hl 0 rfl) ?_
      refine va_get (D := D) (ci := 11) (v := .ref (am 13)) (C := RX11) (T := TX11) (N := 30) hx hb hts iX11_anchor_X11 hown hK hP 0 mw_0 rfl 19 (by decide) (hts (.fieldLink RX11 47 RX11 "now" "[I") (by decide +kernel)) (fun _ h9 => h9) rfl dX11_anchor_84 ?_
      refine lv_bipush (v := 8) hx hb dX11_anchor_87 (by decide) ?_
      refine lv_iload_n hx hb dX11_anchor_89 rfl (lv_at hl 1 rfl) ?_
      refine lv_iadd hx hb dX11_anchor_90 ?_
      obtain ⟨v9, e10, h⟩ := k_bd h
      refine va_iald hx hb hK hP 13 0 mw_13 rfl (k_rd e10).1 dX11_anchor_91 ?_
      refine lv_nmi (k_rd e10).2 ?_
      obtain rfl := k_sm h
      exact W.iret hx hb hr (fun t ht hW => ⟨rfl, ht⟩) (fun _ h => by cases h) dX11_anchor_92
    replace h := k_in c11_3 h
    by_cases c11_4 : x2 = 4
    · replace h := k_ip c11_4 h
      refine lv_tableIn (tgt := 93) hx hb dX11_anchor_11 (by rw [c11_4] <;> decide) (by rw [c11_4] <;> decide) (by rw [c11_4] <;> rfl) (by decide) ?_
      refine lv_aload_n hx hb dX11_anchor_93 rfl (lv_at hl 0 rfl) ?_
      refine va_get (D := D) (ci := 11) (v := .ref (am 12)) (C := RX11) (T := TX11) (N := 30) hx hb hts iX11_anchor_X11 hown hK hP 0 mw_0 rfl 12 (by decide) (hts (.fieldLink RX11 44 RX11 "worth" "[I") (by decide +kernel)) (fun _ h9 => h9) rfl dX11_anchor_94 ?_
      refine lv_iload_n hx hb dX11_anchor_97 rfl (lv_at hl 1 rfl) ?_
      obtain ⟨v11, e12, h⟩ := k_bd h
      refine va_iald hx hb hK hP 12 0 mw_12 rfl (k_rd e12).1 dX11_anchor_98 ?_
      refine lv_nmi (k_rd e12).2 ?_
      obtain rfl := k_sm h
      exact W.iret hx hb hr (fun t ht hW => ⟨rfl, ht⟩) (fun _ h => by cases h) dX11_anchor_99
    replace h := k_in c11_4 h
    by_cases c11_5 : x2 = 5
    · replace h := k_ip c11_5 h
      refine lv_tableIn (tgt := 100) hx hb dX11_anchor_11 (by rw [c11_5] <;> decide) (by rw [c11_5] <;> decide) (by rw [c11_5] <;> rfl) (by decide) ?_
      refine lv_aload_n hx hb dX11_anchor_100 rfl (lv_at hl 0 rfl) ?_
      refine va_get (D := D) (ci := 11) (v := .ref (am 13)) (C := RX11) (T := TX11) (N := 30) hx hb hts iX11_anchor_X11 hown hK hP 0 mw_0 rfl 19 (by decide) (hts (.fieldLink RX11 47 RX11 "now" "[I") (by decide +kernel)) (fun _ h9 => h9) rfl dX11_anchor_101 ?_
      refine lv_bipush (v := 16) hx hb dX11_anchor_104 (by decide) ?_
      refine lv_iload_n hx hb dX11_anchor_106 rfl (lv_at hl 1 rfl) ?_
      refine lv_iadd hx hb dX11_anchor_107 ?_
      obtain ⟨v13, e14, h⟩ := k_bd h
      refine va_iald hx hb hK hP 13 0 mw_13 rfl (k_rd e14).1 dX11_anchor_108 ?_
      refine lv_nmi (k_rd e14).2 ?_
      obtain rfl := k_sm h
      exact W.iret hx hb hr (fun t ht hW => ⟨rfl, ht⟩) (fun _ h => by cases h) dX11_anchor_109
    replace h := k_in c11_5 h
    by_cases c11_6 : x2 = 6
    · replace h := k_ip c11_6 h
      refine lv_tableIn (tgt := 110) hx hb dX11_anchor_11 (by rw [c11_6] <;> decide) (by rw [c11_6] <;> decide) (by rw [c11_6] <;> rfl) (by decide) ?_
      refine lv_aload_n hx hb dX11_anchor_110 rfl (lv_at hl 0 rfl) ?_
      refine va_get (D := D) (ci := 11) (v := .ref (am 13)) (C := RX11) (T := TX11) (N := 30) hx hb hts iX11_anchor_X11 hown hK hP 0 mw_0 rfl 19 (by decide) (hts (.fieldLink RX11 47 RX11 "now" "[I") (by decide +kernel)) (fun _ h9 => h9) rfl dX11_anchor_111 ?_
      refine lv_bipush (v := 24) hx hb dX11_anchor_114 (by decide) ?_
      refine lv_iload_n hx hb dX11_anchor_116 rfl (lv_at hl 1 rfl) ?_
      refine lv_iadd hx hb dX11_anchor_117 ?_
      obtain ⟨v15, e16, h⟩ := k_bd h
      refine va_iald hx hb hK hP 13 0 mw_13 rfl (k_rd e16).1 dX11_anchor_118 ?_
      refine lv_nmi (k_rd e16).2 ?_
      obtain rfl := k_sm h
      exact W.iret hx hb hr (fun t ht hW => ⟨rfl, ht⟩) (fun _ h => by cases h) dX11_anchor_119
    replace h := k_in c11_6 h
    by_cases c11_7 : x2 = 7
    · replace h := k_ip c11_7 h
      refine lv_tableIn (tgt := 120) hx hb dX11_anchor_11 (by rw [c11_7] <;> decide) (by rw [c11_7] <;> decide) (by rw [c11_7] <;> rfl) (by decide) ?_
      refine lv_aload_n hx hb dX11_anchor_120 rfl (lv_at hl 0 rfl) ?_
      refine lv_iload_n hx hb dX11_anchor_121 rfl (lv_at hl 1 rfl) ?_
      obtain ⟨v17, e18, h⟩ := k_bd h
      refine rd_calli (va_runV (As := [.int x1]) (rest := []) C0.1 (kX11_isLying l (D := D) (cI := cI) (cB := cB) (cZ := cZ) (am := am) (τ := τ) σ x1 _ e18) (wX11_anchor_X11_isLying hts ⟨Nat.le_of_ble_eq_true rfl, Nat.le_of_ble_eq_true rfl⟩) ⟨PW.blind, mw_r0 hK hP, PW.mk hP hK hN⟩ rfl rfl hl.1 rfl (lv_room (Nat.le_of_ble_eq_true rfl)) dX11_anchor_122 ⟨Nat.zero_le _, Nat.zero_le _⟩) ?_
      refine lv_if_eq (tgt := 136) hx hb dX11_anchor_125 (by decide) (fun c125 => ?_) (fun c125 => ?_)
      · replace h := k_ip c125 h
        refine lv_bipush (v := (-9)) hx hb dX11_anchor_136 (by decide) ?_
        obtain rfl := k_sm h
        exact W.iret hx hb hr (fun t ht hW => ⟨rfl, ht⟩) (fun _ h => by cases h) dX11_anchor_138
      · replace h := k_in c125 h
        refine lv_aload_n hx hb dX11_anchor_128 rfl (lv_at hl 0 rfl) ?_
        refine lv_iload_n hx hb dX11_anchor_129 rfl (lv_at hl 1 rfl) ?_
        obtain ⟨v19, e20, h⟩ := k_bd h
        refine rd_calli (va_runV (As := [.int x1]) (rest := []) C0.1 (kX11_hold l (D := D) (cI := cI) (cB := cB) (cZ := cZ) (am := am) (τ := τ) σ x1 _ e20) (wX11_anchor_X11_hold hts ⟨Nat.le_of_ble_eq_true rfl, Nat.le_of_ble_eq_true rfl⟩) ⟨PW.blind, mw_r0 hK hP, PW.mk hP hK hN⟩ rfl rfl hl.1 rfl (lv_room (Nat.le_of_ble_eq_true rfl)) dX11_anchor_130 ⟨Nat.zero_le _, Nat.zero_le _⟩) ?_
        refine lv_goto (tgt := 138) hx hb dX11_anchor_133 (by decide) ?_
        obtain rfl := k_sm h
        exact W.iret hx hb hr (fun t ht hW => ⟨rfl, ht⟩) (fun _ h => by cases h) dX11_anchor_138
    replace h := k_in c11_7 h
    by_cases c11_8 : x2 = 8
    · replace h := k_ip c11_8 h
      refine lv_tableIn (tgt := 139) hx hb dX11_anchor_11 (by rw [c11_8] <;> decide) (by rw [c11_8] <;> decide) (by rw [c11_8] <;> rfl) (by decide) ?_
      refine lv_aload_n hx hb dX11_anchor_139 rfl (lv_at hl 0 rfl) ?_
      refine lv_iload_n hx hb dX11_anchor_140 rfl (lv_at hl 1 rfl) ?_
      obtain ⟨v21, e22, h⟩ := k_bd h
      refine rd_calli (va_runV (As := [.int x1]) (rest := []) C0.1 (kX11_whose l (D := D) (cI := cI) (cB := cB) (cZ := cZ) (am := am) (τ := τ) σ x1 _ e22) (wX11_anchor_X11_whose hts ⟨Nat.le_of_ble_eq_true rfl, Nat.le_of_ble_eq_true rfl⟩) ⟨PW.blind, mw_r0 hK hP, PW.mk hP hK hN⟩ rfl rfl hl.1 rfl (lv_room (Nat.le_of_ble_eq_true rfl)) dX11_anchor_141 ⟨Nat.zero_le _, Nat.zero_le _⟩) ?_
      obtain rfl := k_sm h
      exact W.iret hx hb hr (fun t ht hW => ⟨rfl, ht⟩) (fun _ h => by cases h) dX11_anchor_144
    replace h := k_in c11_8 h
    refine lv_tableOut (tgt := 145) hx hb dX11_anchor_11 (by have z0 := lv_neT (a := 0) c11_0 (by decide); have z1 := lv_neT (a := 1) c11_1 (by decide); have z2 := lv_neT (a := 2) c11_2 (by decide); have z3 := lv_neT (a := 3) c11_3 (by decide); have z4 := lv_neT (a := 4) c11_4 (by decide); have z5 := lv_neT (a := 5) c11_5 (by decide); have z6 := lv_neT (a := 6) c11_6 (by decide); have z7 := lv_neT (a := 7) c11_7 (by decide); have z8 := lv_neT (a := 8) c11_8 (by decide); omega) (by decide) ?_
    refine lv_iconst (v := (-1)) hx hb dX11_anchor_145 (by decide) ?_
    obtain rfl := k_sm h
    exact W.iret hx hb hr (fun t ht hW => ⟨rfl, ht⟩) (fun _ h => by cases h) dX11_anchor_146
  · replace h := k_ip c5 h
    refine lv_iconst (v := (-1)) hx hb dX11_anchor_8 (by decide) ?_
    obtain rfl := k_sm h
    exact W.iret hx hb hr (fun t ht hW => ⟨rfl, ht⟩) (fun _ h => by cases h) dX11_anchor_9
set_option maxHeartbeats 4000000 in
set_option maxRecDepth 100000 in
theorem bX11_know_L53 {p : Program} {l : Launch} {e : Env} {s : State} {m : MethodId} {args : Array Value} {below : List Frame} {meth : Method} {c : Code} {Q : State → Prop} {D : va_G} {cI cB cZ : ClassId} {am : Nat → Nat} (C0 : Cx p s m args meth c cX11_know 2 none RX11 wsX11_know) (hK : va_K D vwCl (tysA cI cB cZ) s) (hN : NW s) (hap : mwX am) {τ : Int64}  : ∀ (n : Nat) (x1 : Int32) (σ : Sg) (v : Sg) (H : Heap) (locs : List Loc) (ls : Array Slot), va_P D vwCl (MW cI cB cZ am τ σ) H → va_S (mwA am) s.heap H locs → lv_has ls 2 [(0, .ref (am 0)), (1, .int x1)] → pX11_know_L53  n x1 σ = some v → (∀ (H1 : Heap) (locs1 : List Loc) (ls1 : Array Slot), va_P D vwCl (MW cI cB cZ am τ v) H1 → va_S (mwA am) s.heap H1 locs1 → lv_has ls1 2 [(0, .ref (am 0))] → W p l e rmX11_know s m args below meth c H1 locs1 0 0 Q (F0 m 87 ls1 [])) → W p l e rmX11_know s m args below meth c H locs 0 0 Q (F0 m 53 ls []) := by
  obtain ⟨⟨hx, hb, hml, hown, hts⟩, hr, hlk⟩ := id C0
  intro n
  induction n with
  | zero =>
    intro x1 σ v H locs ls hP hS hl h kk
    exact absurd h (by simp [pX11_know_L53])
  | succ n ih =>
    intro x1 σ v H locs ls hP hS hl h kk
    rw [pX11_know_L53] at h
    refine lv_iload_n hx hb dX11_know_53 rfl (lv_at hl 1 rfl) ?_
    refine lv_bipush (v := 45) hx hb dX11_know_54 (by decide) ?_
    refine lv_icmp_ge (tgt := 87) hx hb dX11_know_56 (by decide) (fun c56 => ?_) (fun c56 => ?_)
    · replace h := k_ip c56 h
      obtain rfl := k_sm h
      exact kk _ _ _ hP hS (lv_sub hl [0] rfl)
    · replace h := k_in c56 h
      refine lv_aload_n hx hb dX11_know_59 rfl (lv_at hl 0 rfl) ?_
      refine va_get (D := D) (ci := 11) (v := .ref (am 15)) (C := RX11) (T := TX11) (N := 30) hx hb hts iX11_know_X11 hown hK hP 0 mw_0 rfl 21 (by decide) (hts (.fieldLink RX11 53 RX11 "before" "[I") (by decide +kernel)) (fun _ h9 => h9) rfl dX11_know_60 ?_
      refine lv_bipush (v := 45) hx hb dX11_know_63 (by decide) ?_
      refine lv_aload_n hx hb dX11_know_65 rfl (lv_at hl 0 rfl) ?_
      refine va_get (D := D) (ci := 11) (v := .ref (am 14)) (C := RX11) (T := TX11) (N := 30) hx hb hts iX11_know_X11 hown hK hP 0 mw_0 rfl 20 (by decide) (hts (.fieldLink RX11 50 RX11 "known" "[I") (by decide +kernel)) (fun _ h9 => h9) rfl dX11_know_66 ?_
      refine lv_iconst (v := 0) hx hb dX11_know_69 (by decide) ?_
      obtain ⟨v3, e4, h⟩ := k_bd h
      refine va_iald hx hb hK hP 14 0 mw_14 rfl (k_rd e4).1 dX11_know_70 ?_
      refine lv_nmi (k_rd e4).2 ?_
      refine lv_imul hx hb dX11_know_71 ?_
      refine lv_iload_n hx hb dX11_know_72 rfl (lv_at hl 1 rfl) ?_
      refine lv_iadd hx hb dX11_know_73 ?_
      refine lv_aload_n hx hb dX11_know_74 rfl (lv_at hl 0 rfl) ?_
      refine va_get (D := D) (ci := 11) (v := .ref (am 13)) (C := RX11) (T := TX11) (N := 30) hx hb hts iX11_know_X11 hown hK hP 0 mw_0 rfl 19 (by decide) (hts (.fieldLink RX11 47 RX11 "now" "[I") (by decide +kernel)) (fun _ h9 => h9) rfl dX11_know_75 ?_
      refine lv_iload_n hx hb dX11_know_78 rfl (lv_at hl 1 rfl) ?_
      obtain ⟨v5, e6, h⟩ := k_bd h
      refine va_iald hx hb hK hP 13 0 mw_13 rfl (k_rd e6).1 dX11_know_79 ?_
      refine lv_nmi (k_rd e6).2 ?_
      obtain ⟨σ7, e8, h⟩ := k_bd h
      refine va_iast hx hb hK hP (mw_D hap) hS 15 0 mw_15 rfl (k_wr e8).1 dX11_know_80 (fun H locs hP _ hS => ?_)
      have hP := mw_s15 hP
      rw [(k_wr e8).2] at hP
      refine lv_iinc (v := (x1 + 1)) (lv' := [(1, .int (x1 + 1)), (0, .ref (am 0))]) hx hb dX11_know_81 hl (k := 1) rfl rfl (by decide) rfl (fun ls hl => ?_)
      refine lv_goto (tgt := 53) hx hb dX11_know_84 (by decide) ?_
      exact ih (x1 + 1) σ7 _ _ _ ls hP hS (lv_sub hl [1, 0] rfl) h kk
set_option maxHeartbeats 4000000 in
set_option maxRecDepth 100000 in
theorem bX11_know_L13 {p : Program} {l : Launch} {e : Env} {s : State} {m : MethodId} {args : Array Value} {below : List Frame} {meth : Method} {c : Code} {Q : State → Prop} {D : va_G} {cI cB cZ : ClassId} {am : Nat → Nat} (C0 : Cx p s m args meth c cX11_know 2 none RX11 wsX11_know) (hK : va_K D vwCl (tysA cI cB cZ) s) (hN : NW s) (hap : mwX am) {τ : Int64}  : ∀ (n : Nat) (x1 : Int32) (σ : Sg) (v : Sg) (H : Heap) (locs : List Loc) (ls : Array Slot), va_P D vwCl (MW cI cB cZ am τ σ) H → va_S (mwA am) s.heap H locs → lv_has ls 2 [(0, .ref (am 0)), (1, .int x1)] → pX11_know_L13  n x1 σ = some v → (∀ (H1 : Heap) (locs1 : List Loc) (ls1 : Array Slot), va_P D vwCl (MW cI cB cZ am τ v) H1 → va_S (mwA am) s.heap H1 locs1 → lv_has ls1 2 [(0, .ref (am 0))] → W p l e rmX11_know s m args below meth c H1 locs1 0 0 Q (F0 m 41 ls1 [])) → W p l e rmX11_know s m args below meth c H locs 0 0 Q (F0 m 13 ls []) := by
  obtain ⟨⟨hx, hb, hml, hown, hts⟩, hr, hlk⟩ := id C0
  intro n
  induction n with
  | zero =>
    intro x1 σ v H locs ls hP hS hl h kk
    exact absurd h (by simp [pX11_know_L13])
  | succ n ih =>
    intro x1 σ v H locs ls hP hS hl h kk
    rw [pX11_know_L13] at h
    refine lv_iload_n hx hb dX11_know_13 rfl (lv_at hl 1 rfl) ?_
    refine lv_sipush (v := 405) hx hb dX11_know_14 (by decide) ?_
    refine lv_icmp_ge (tgt := 41) hx hb dX11_know_17 (by decide) (fun c17 => ?_) (fun c17 => ?_)
    · replace h := k_ip c17 h
      obtain rfl := k_sm h
      exact kk _ _ _ hP hS (lv_sub hl [0] rfl)
    · replace h := k_in c17 h
      refine lv_aload_n hx hb dX11_know_20 rfl (lv_at hl 0 rfl) ?_
      refine va_get (D := D) (ci := 11) (v := .ref (am 15)) (C := RX11) (T := TX11) (N := 30) hx hb hts iX11_know_X11 hown hK hP 0 mw_0 rfl 21 (by decide) (hts (.fieldLink RX11 53 RX11 "before" "[I") (by decide +kernel)) (fun _ h9 => h9) rfl dX11_know_21 ?_
      refine lv_iload_n hx hb dX11_know_24 rfl (lv_at hl 1 rfl) ?_
      refine lv_aload_n hx hb dX11_know_25 rfl (lv_at hl 0 rfl) ?_
      refine va_get (D := D) (ci := 11) (v := .ref (am 15)) (C := RX11) (T := TX11) (N := 30) hx hb hts iX11_know_X11 hown hK hP 0 mw_0 rfl 21 (by decide) (hts (.fieldLink RX11 53 RX11 "before" "[I") (by decide +kernel)) (fun _ h9 => h9) rfl dX11_know_26 ?_
      refine lv_bipush (v := 45) hx hb dX11_know_29 (by decide) ?_
      refine lv_iload_n hx hb dX11_know_31 rfl (lv_at hl 1 rfl) ?_
      refine lv_iadd hx hb dX11_know_32 ?_
      obtain ⟨v15, e16, h⟩ := k_bd h
      refine va_iald hx hb hK hP 15 0 mw_15 rfl (k_rd e16).1 dX11_know_33 ?_
      refine lv_nmi (k_rd e16).2 ?_
      obtain ⟨σ17, e18, h⟩ := k_bd h
      refine va_iast hx hb hK hP (mw_D hap) hS 15 0 mw_15 rfl (k_wr e18).1 dX11_know_34 (fun H locs hP _ hS => ?_)
      have hP := mw_s15 hP
      rw [(k_wr e18).2] at hP
      refine lv_iinc (v := (x1 + 1)) (lv' := [(1, .int (x1 + 1)), (0, .ref (am 0))]) hx hb dX11_know_35 hl (k := 1) rfl rfl (by decide) rfl (fun ls hl => ?_)
      refine lv_goto (tgt := 13) hx hb dX11_know_38 (by decide) ?_
      exact ih (x1 + 1) σ17 _ _ _ ls hP hS (lv_sub hl [1, 0] rfl) h kk
set_option maxHeartbeats 4000000 in
set_option maxRecDepth 100000 in
theorem kX11_know (l : Launch) {D : va_G} {cI cB cZ : ClassId} {am : Nat → Nat} {τ : Int64} (hap : mwX am) (σ : Sg) (o : Sg) (h : pX11_know σ = some o) : Met l yX11_know wsX11_know rmX11_know (va_Pc [.ref (am 0)] (PW D cI cB cZ (MW cI cB cZ am τ σ))) (QV D (MW cI cB cZ am τ) (mwA am) o) 0 0 (mwA am) := by
  refine Met.ofW (cc := cX11_know) (maxL := 2) (ret := none) (by decide) rfl ?_
  intro p e s m args below meth c s₁ B hml hv
  obtain ⟨rfl, hP, hK, hN⟩ := hv
  have C0 : Cx p s m _ meth c cX11_know 2 none RX11 wsX11_know := ⟨⟨B.exec, B.bytes, hml, findClass_of_methodNamed B.named, atoms_spec B.pre⟩, B.returns, B.notSynchronized⟩
  obtain ⟨⟨hx, hb, -, hown, hts⟩, hr, hlk⟩ := id C0
  have hS : va_S (mwA am) s.heap s.heap [] := va_S.rf
  have hl := lv_entry ([.ref (am 0)]) (n := 2) (Nat.le_of_ble_eq_true rfl)
  rw [lg_entry_eq]
  generalize (lg_sl ([.ref (am 0)]) ++ List.replicate (2 - (lg_sl ([.ref (am 0)])).length) Slot.unset).toArray = ls at hl ⊢
  have hl : lv_has ls 2 [(0, .ref (am 0))] := hl
  rw [pX11_know] at h
  refine lv_aload_n hx hb dX11_know_0 rfl (lv_at hl 0 rfl) ?_
  refine va_get (D := D) (ci := 11) (v := .ref (am 14)) (C := RX11) (T := TX11) (N := 30) hx hb hts iX11_know_X11 hown hK hP 0 mw_0 rfl 20 (by decide) (hts (.fieldLink RX11 50 RX11 "known" "[I") (by decide +kernel)) (fun _ h9 => h9) rfl dX11_know_1 ?_
  refine lv_iconst (v := 0) hx hb dX11_know_4 (by decide) ?_
  obtain ⟨v1, e2, h⟩ := k_bd h
  refine va_iald hx hb hK hP 14 0 mw_14 rfl (k_rd e2).1 dX11_know_5 ?_
  refine lv_nmi (k_rd e2).2 ?_
  refine lv_bipush (v := 10) hx hb dX11_know_6 (by decide) ?_
  refine lv_icmp_ne (tgt := 51) hx hb dX11_know_8 (by decide) (fun c8 => ?_) (fun c8 => ?_)
  · replace h := k_in c8 h
    refine lv_iconst (v := 0) hx hb dX11_know_51 (by decide) ?_
    refine lv_istore_n (lv' := [(1, .int 0), (0, .ref (am 0))]) hx hb dX11_know_52 rfl hl (by decide) rfl (fun ls hl => ?_)
    obtain ⟨w9, e10, h⟩ := k_bd h
    refine bX11_know_L53 C0 hK hN hap  2000 0 σ _ _ _ ls hP hS (lv_sub hl [1, 0] rfl) e10 (fun H locs ls hP hS hl => ?_)
    refine lv_aload_n hx hb dX11_know_87 rfl (lv_at hl 0 rfl) ?_
    refine va_get (D := D) (ci := 11) (v := .ref (am 14)) (C := RX11) (T := TX11) (N := 30) hx hb hts iX11_know_X11 hown hK hP 0 mw_0 rfl 20 (by decide) (hts (.fieldLink RX11 50 RX11 "known" "[I") (by decide +kernel)) (fun _ h9 => h9) rfl dX11_know_88 ?_
    refine lv_iconst (v := 0) hx hb dX11_know_91 (by decide) ?_
    refine lv_dup2_11 hx hb dX11_know_92 rfl rfl ?_
    obtain ⟨v11, e12, h⟩ := k_bd h
    refine va_iald hx hb hK hP 14 0 mw_14 rfl (k_rd e12).1 dX11_know_93 ?_
    refine lv_nmi (k_rd e12).2 ?_
    refine lv_iconst (v := 1) hx hb dX11_know_94 (by decide) ?_
    refine lv_iadd hx hb dX11_know_95 ?_
    obtain ⟨σ13, e14, h⟩ := k_bd h
    refine va_iast hx hb hK hP (mw_D hap) hS 14 0 mw_14 rfl (k_wr e14).1 dX11_know_96 (fun H locs hP _ hS => ?_)
    have hP := mw_s14 hP
    rw [(k_wr e14).2] at hP
    obtain rfl := k_sm h
    exact W.vret hx hb hr (fun t ht hW => ⟨⟨_, rfl, rfl, pw_end ht hP⟩, hS.F ht⟩) hS.2.2 dX11_know_97
  · replace h := k_ip c8 h
    refine lv_iconst (v := 0) hx hb dX11_know_11 (by decide) ?_
    refine lv_istore_n (lv' := [(1, .int 0), (0, .ref (am 0))]) hx hb dX11_know_12 rfl hl (by decide) rfl (fun ls hl => ?_)
    obtain ⟨w19, e20, h⟩ := k_bd h
    refine bX11_know_L13 C0 hK hN hap  2000 0 σ _ _ _ ls hP hS (lv_sub hl [1, 0] rfl) e20 (fun H locs ls hP hS hl => ?_)
    refine lv_aload_n hx hb dX11_know_41 rfl (lv_at hl 0 rfl) ?_
    refine va_get (D := D) (ci := 11) (v := .ref (am 14)) (C := RX11) (T := TX11) (N := 30) hx hb hts iX11_know_X11 hown hK hP 0 mw_0 rfl 20 (by decide) (hts (.fieldLink RX11 50 RX11 "known" "[I") (by decide +kernel)) (fun _ h9 => h9) rfl dX11_know_42 ?_
    refine lv_iconst (v := 0) hx hb dX11_know_45 (by decide) ?_
    refine lv_dup2_11 hx hb dX11_know_46 rfl rfl ?_
    obtain ⟨v21, e22, h⟩ := k_bd h
    refine va_iald hx hb hK hP 14 0 mw_14 rfl (k_rd e22).1 dX11_know_47 ?_
    refine lv_nmi (k_rd e22).2 ?_
    refine lv_iconst (v := 1) hx hb dX11_know_48 (by decide) ?_
    refine lv_isub hx hb dX11_know_49 ?_
    obtain ⟨σ23, e24, h⟩ := k_bd h
    refine va_iast hx hb hK hP (mw_D hap) hS 14 0 mw_14 rfl (k_wr e24).1 dX11_know_50 (fun H locs hP _ hS => ?_)
    have hP := mw_s14 hP
    rw [(k_wr e24).2] at hP
    refine lv_iconst (v := 0) hx hb dX11_know_51 (by decide) ?_
    refine lv_istore_n (lv' := [(1, .int 0), (0, .ref (am 0))]) hx hb dX11_know_52 rfl hl (by decide) rfl (fun ls hl => ?_)
    obtain ⟨w25, e26, h⟩ := k_bd h
    refine bX11_know_L53 C0 hK hN hap  2000 0 σ23 _ _ _ ls hP hS (lv_sub hl [1, 0] rfl) e26 (fun H locs ls hP hS hl => ?_)
    refine lv_aload_n hx hb dX11_know_87 rfl (lv_at hl 0 rfl) ?_
    refine va_get (D := D) (ci := 11) (v := .ref (am 14)) (C := RX11) (T := TX11) (N := 30) hx hb hts iX11_know_X11 hown hK hP 0 mw_0 rfl 20 (by decide) (hts (.fieldLink RX11 50 RX11 "known" "[I") (by decide +kernel)) (fun _ h9 => h9) rfl dX11_know_88 ?_
    refine lv_iconst (v := 0) hx hb dX11_know_91 (by decide) ?_
    refine lv_dup2_11 hx hb dX11_know_92 rfl rfl ?_
    obtain ⟨v27, e28, h⟩ := k_bd h
    refine va_iald hx hb hK hP 14 0 mw_14 rfl (k_rd e28).1 dX11_know_93 ?_
    refine lv_nmi (k_rd e28).2 ?_
    refine lv_iconst (v := 1) hx hb dX11_know_94 (by decide) ?_
    refine lv_iadd hx hb dX11_know_95 ?_
    obtain ⟨σ29, e30, h⟩ := k_bd h
    refine va_iast hx hb hK hP (mw_D hap) hS 14 0 mw_14 rfl (k_wr e30).1 dX11_know_96 (fun H locs hP _ hS => ?_)
    have hP := mw_s14 hP
    rw [(k_wr e30).2] at hP
    obtain rfl := k_sm h
    exact W.vret hx hb hr (fun t ht hW => ⟨⟨_, rfl, rfl, pw_end ht hP⟩, hS.F ht⟩) hS.2.2 dX11_know_97
set_option maxHeartbeats 4000000 in
set_option maxRecDepth 100000 in
theorem kX11_isStorm (l : Launch) (x0 : Int32) : Met l yX11_isStorm wsX11_isStorm rmX11_isStorm (va_Pc [.int x0] (fun _ => True)) (QcRead (pX11_isStorm x0)) 0 0 (fun _ => False) := by
  obtain ⟨o, h⟩ : ∃ o, pX11_isStorm x0 = o := ⟨_, rfl⟩
  rw [h]
  refine Met.ofW (cc := cX11_isStorm) (maxL := 1) (ret := (some .boolean)) (by decide) rfl ?_
  intro p e s m args below meth c s₁ B hml hv
  obtain ⟨rfl, -⟩ := hv
  have C0 : Cx p s m _ meth c cX11_isStorm 1 (some .boolean) RX11 wsX11_isStorm := ⟨⟨B.exec, B.bytes, hml, findClass_of_methodNamed B.named, atoms_spec B.pre⟩, B.returns, B.notSynchronized⟩
  obtain ⟨⟨hx, hb, -, hown, hts⟩, hr, hlk⟩ := id C0
  have hl := lv_entry ([.int x0]) (n := 1) (Nat.le_of_ble_eq_true rfl)
  rw [lg_entry_eq]
  generalize (lg_sl ([.int x0]) ++ List.replicate (1 - (lg_sl ([.int x0])).length) Slot.unset).toArray = ls at hl ⊢
  have hl : lv_has ls 1 [(0, .int x0)] := hl
  rw [pX11_isStorm] at h
  refine lv_iload_n hx hb dX11_isStorm_0 rfl (lv_at hl 0 rfl) ?_
  refine lv_iconst (v := 1) hx hb dX11_isStorm_1 (by decide) ?_
  refine lv_bipush (v := 99) hx hb dX11_isStorm_2 (by decide) ?_
  refine rd_calli (va_runS (As := [.int x0, .int 1, .int 99]) (rest := []) C0.1 (kX11_in l x0 1 99) (wX11_isStorm_X11_in hts ⟨Nat.le_of_ble_eq_true rfl, Nat.le_of_ble_eq_true rfl⟩) ⟨PT.blind, fun _ _ _ => ⟨rfl, trivial⟩⟩ rfl rfl hl.1 rfl (lv_room (Nat.le_of_ble_eq_true rfl)) dX11_isStorm_4 ⟨Nat.zero_le _, Nat.zero_le _⟩) ?_
  subst h
  exact W.zret hx hb hr (k_01 (z_pX11_in x0 1 99)) (fun t ht hW => ⟨rfl, ht⟩) (fun _ h => by cases h) dX11_isStorm_7
set_option maxHeartbeats 4000000 in
set_option maxRecDepth 100000 in
theorem kX11_isSide (l : Launch) (x0 : Int32) : Met l yX11_isSide wsX11_isSide rmX11_isSide (va_Pc [.int x0] (fun _ => True)) (QcRead (pX11_isSide x0)) 0 0 (fun _ => False) := by
  obtain ⟨o, h⟩ : ∃ o, pX11_isSide x0 = o := ⟨_, rfl⟩
  rw [h]
  refine Met.ofW (cc := cX11_isSide) (maxL := 1) (ret := (some .boolean)) (by decide) rfl ?_
  intro p e s m args below meth c s₁ B hml hv
  obtain ⟨rfl, -⟩ := hv
  have C0 : Cx p s m _ meth c cX11_isSide 1 (some .boolean) RX11 wsX11_isSide := ⟨⟨B.exec, B.bytes, hml, findClass_of_methodNamed B.named, atoms_spec B.pre⟩, B.returns, B.notSynchronized⟩
  obtain ⟨⟨hx, hb, -, hown, hts⟩, hr, hlk⟩ := id C0
  have hl := lv_entry ([.int x0]) (n := 1) (Nat.le_of_ble_eq_true rfl)
  rw [lg_entry_eq]
  generalize (lg_sl ([.int x0]) ++ List.replicate (1 - (lg_sl ([.int x0])).length) Slot.unset).toArray = ls at hl ⊢
  have hl : lv_has ls 1 [(0, .int x0)] := hl
  rw [pX11_isSide] at h
  refine lv_iload_n hx hb dX11_isSide_0 rfl (lv_at hl 0 rfl) ?_
  refine lv_iconst (v := 0) hx hb dX11_isSide_1 (by decide) ?_
  refine lv_iconst (v := 1) hx hb dX11_isSide_2 (by decide) ?_
  refine rd_calli (va_runS (As := [.int x0, .int 0, .int 1]) (rest := []) C0.1 (kX11_in l x0 0 1) (wX11_isSide_X11_in hts ⟨Nat.le_of_ble_eq_true rfl, Nat.le_of_ble_eq_true rfl⟩) ⟨PT.blind, fun _ _ _ => ⟨rfl, trivial⟩⟩ rfl rfl hl.1 rfl (lv_room (Nat.le_of_ble_eq_true rfl)) dX11_isSide_3 ⟨Nat.zero_le _, Nat.zero_le _⟩) ?_
  subst h
  exact W.zret hx hb hr (k_01 (z_pX11_in x0 0 1)) (fun t ht hW => ⟨rfl, ht⟩) (fun _ h => by cases h) dX11_isSide_6
set_option maxHeartbeats 4000000 in
set_option maxRecDepth 100000 in
theorem bX11_blow_L8 {p : Program} {l : Launch} {e : Env} {s : State} {m : MethodId} {args : Array Value} {below : List Frame} {meth : Method} {c : Code} {Q : State → Prop} {D : va_G} {cI cB cZ : ClassId} {am : Nat → Nat} (C0 : Cx p s m args meth c cX11_blow 7 (some .int) RX11 wsX11_blow) (hK : va_K D vwCl (tysA cI cB cZ) s) (hN : NW s) (hap : mwX am) {τ : Int64} {σ : Sg} (x1 : Int32) (x2 : Int32) (x4 : Int32) : ∀ (n : Nat) (x3 : Int32) (x5 : Int32) (v : Int32) (H : Heap) (locs : List Loc) (ls : Array Slot), va_P D vwCl (MW cI cB cZ am τ σ) H → va_S (mwA am) s.heap H locs → lv_has ls 7 [(0, .ref (am 0)), (1, .int x1), (2, .int x2), (3, .int x3), (4, .int x4), (5, .int x5)] → pX11_blow_L8 σ x1 x2 x4 n x3 x5 = some v → (∀ (H1 : Heap) (locs1 : List Loc) (ls1 : Array Slot), va_P D vwCl (MW cI cB cZ am τ σ) H1 → va_S (mwA am) s.heap H1 locs1 → lv_has ls1 7 [(0, .ref (am 0)), (2, .int x2), (3, .int v), (4, .int x4)] → W p l e rmX11_blow s m args below meth c H1 locs1 0 0 Q (F0 m 55 ls1 [])) → W p l e rmX11_blow s m args below meth c H locs 0 0 Q (F0 m 8 ls []) := by
  obtain ⟨⟨hx, hb, hml, hown, hts⟩, hr, hlk⟩ := id C0
  intro n
  induction n with
  | zero =>
    intro x3 x5 v H locs ls hP hS hl h kk
    exact absurd h (by simp [pX11_blow_L8])
  | succ n ih =>
    intro x3 x5 v H locs ls hP hS hl h kk
    rw [pX11_blow_L8] at h
    refine lv_iload hx hb dX11_blow_8 (lv_at hl 5 rfl) ?_
    refine lv_aload_n hx hb dX11_blow_10 rfl (lv_at hl 0 rfl) ?_
    refine va_get (D := D) (ci := 11) (v := .ref (am 7)) (C := RX11) (T := TX11) (N := 30) hx hb hts iX11_blow_X11 hown hK hP 0 mw_0 rfl 7 (by decide) (hts (.fieldLink RX11 29 RX11 "anchors" "[I") (by decide +kernel)) (fun _ h9 => h9) rfl dX11_blow_11 ?_
    refine lv_iconst (v := 0) hx hb dX11_blow_14 (by decide) ?_
    obtain ⟨v1, e2, h⟩ := k_bd h
    refine va_iald hx hb hK hP 7 0 mw_7 rfl (k_rd e2).1 dX11_blow_15 ?_
    refine lv_nmi (k_rd e2).2 ?_
    refine lv_icmp_ge (tgt := 55) hx hb dX11_blow_16 (by decide) (fun c16 => ?_) (fun c16 => ?_)
    · replace h := k_ip c16 h
      obtain rfl := k_sm h
      exact kk _ _ _ hP hS (lv_sub hl [0, 2, 3, 4] rfl)
    · replace h := k_in c16 h
      refine lv_iload_n hx hb dX11_blow_19 rfl (lv_at hl 3 rfl) ?_
      refine lv_aload_n hx hb dX11_blow_20 rfl (lv_at hl 0 rfl) ?_
      refine lv_iload hx hb dX11_blow_21 (lv_at hl 5 rfl) ?_
      obtain ⟨v3, e4, h⟩ := k_bd h
      refine rd_calli (va_runV (As := [.int x5]) (rest := [.int x3]) C0.1 (kX11_isLying l (D := D) (cI := cI) (cB := cB) (cZ := cZ) (am := am) (τ := τ) σ x5 _ e4) (wX11_blow_X11_isLying hts ⟨Nat.le_of_ble_eq_true rfl, Nat.le_of_ble_eq_true rfl⟩) ⟨PW.blind, mw_r0 hK hP, PW.mk hP hK hN⟩ rfl rfl hl.1 rfl (lv_room (Nat.le_of_ble_eq_true rfl)) dX11_blow_23 ⟨Nat.zero_le _, Nat.zero_le _⟩) ?_
      refine lv_if_eq (tgt := 46) hx hb dX11_blow_26 (by decide) (fun c26 => ?_) (fun c26 => ?_)
      · replace h := k_ip c26 h
        refine lv_iconst (v := 0) hx hb dX11_blow_46 (by decide) ?_
        refine lv_ior hx hb dX11_blow_47 ?_
        obtain ⟨v5, e6, h⟩ := k_bd h
        refine lv_nmi (k_sm e6) ?_
        refine lv_istore_n (lv' := [(3, .int v5), (0, .ref (am 0)), (1, .int x1), (2, .int x2), (4, .int x4), (5, .int x5)]) hx hb dX11_blow_48 rfl hl (by decide) rfl (fun ls hl => ?_)
        refine lv_iinc (v := (x5 + 1)) (lv' := [(5, .int (x5 + 1)), (3, .int v5), (0, .ref (am 0)), (1, .int x1), (2, .int x2), (4, .int x4)]) hx hb dX11_blow_49 hl (k := 5) rfl rfl (by decide) rfl (fun ls hl => ?_)
        refine lv_goto (tgt := 8) hx hb dX11_blow_52 (by decide) ?_
        exact ih v5 (x5 + 1) _ _ _ ls hP hS (lv_sub hl [2, 3, 4, 1, 5, 0] rfl) h kk
      · replace h := k_in c26 h
        refine lv_aload_n hx hb dX11_blow_29 rfl (lv_at hl 0 rfl) ?_
        refine lv_iload hx hb dX11_blow_30 (lv_at hl 5 rfl) ?_
        obtain ⟨v7, e8, h⟩ := k_bd h
        refine rd_calli (va_runV (As := [.int x5]) (rest := [.int x3]) C0.1 (kX11_hold l (D := D) (cI := cI) (cB := cB) (cZ := cZ) (am := am) (τ := τ) σ x5 _ e8) (wX11_blow_X11_hold hts ⟨Nat.le_of_ble_eq_true rfl, Nat.le_of_ble_eq_true rfl⟩) ⟨PW.blind, mw_r0 hK hP, PW.mk hP hK hN⟩ rfl rfl hl.1 rfl (lv_room (Nat.le_of_ble_eq_true rfl)) dX11_blow_32 ⟨Nat.zero_le _, Nat.zero_le _⟩) ?_
        refine lv_iload_n hx hb dX11_blow_35 rfl (lv_at hl 1 rfl) ?_
        refine lv_icmp_ge (tgt := 46) hx hb dX11_blow_36 (by decide) (fun c36 => ?_) (fun c36 => ?_)
        · replace h := k_ip c36 h
          refine lv_iconst (v := 0) hx hb dX11_blow_46 (by decide) ?_
          refine lv_ior hx hb dX11_blow_47 ?_
          obtain ⟨v9, e10, h⟩ := k_bd h
          refine lv_nmi (k_sm e10) ?_
          refine lv_istore_n (lv' := [(3, .int v9), (0, .ref (am 0)), (1, .int x1), (2, .int x2), (4, .int x4), (5, .int x5)]) hx hb dX11_blow_48 rfl hl (by decide) rfl (fun ls hl => ?_)
          refine lv_iinc (v := (x5 + 1)) (lv' := [(5, .int (x5 + 1)), (3, .int v9), (0, .ref (am 0)), (1, .int x1), (2, .int x2), (4, .int x4)]) hx hb dX11_blow_49 hl (k := 5) rfl rfl (by decide) rfl (fun ls hl => ?_)
          refine lv_goto (tgt := 8) hx hb dX11_blow_52 (by decide) ?_
          exact ih v9 (x5 + 1) _ _ _ ls hP hS (lv_sub hl [2, 3, 4, 1, 5, 0] rfl) h kk
        · replace h := k_in c36 h
          refine lv_iconst (v := 1) hx hb dX11_blow_39 (by decide) ?_
          refine lv_iload hx hb dX11_blow_40 (lv_at hl 5 rfl) ?_
          refine lv_ishl hx hb dX11_blow_42 ?_
          refine lv_goto (tgt := 47) hx hb dX11_blow_43 (by decide) ?_
          refine lv_ior hx hb dX11_blow_47 ?_
          obtain ⟨v11, e12, h⟩ := k_bd h
          refine lv_nmi (k_sm e12) ?_
          refine lv_istore_n (lv' := [(3, .int v11), (0, .ref (am 0)), (1, .int x1), (2, .int x2), (4, .int x4), (5, .int x5)]) hx hb dX11_blow_48 rfl hl (by decide) rfl (fun ls hl => ?_)
          refine lv_iinc (v := (x5 + 1)) (lv' := [(5, .int (x5 + 1)), (3, .int v11), (0, .ref (am 0)), (1, .int x1), (2, .int x2), (4, .int x4)]) hx hb dX11_blow_49 hl (k := 5) rfl rfl (by decide) rfl (fun ls hl => ?_)
          refine lv_goto (tgt := 8) hx hb dX11_blow_52 (by decide) ?_
          exact ih v11 (x5 + 1) _ _ _ ls hP hS (lv_sub hl [2, 3, 4, 1, 5, 0] rfl) h kk
set_option maxHeartbeats 4000000 in
set_option maxRecDepth 100000 in
theorem bX11_blow_L70 {p : Program} {l : Launch} {e : Env} {s : State} {m : MethodId} {args : Array Value} {below : List Frame} {meth : Method} {c : Code} {Q : State → Prop} {D : va_G} {cI cB cZ : ClassId} {am : Nat → Nat} (C0 : Cx p s m args meth c cX11_blow 7 (some .int) RX11 wsX11_blow) (hK : va_K D vwCl (tysA cI cB cZ) s) (hN : NW s) (hap : mwX am) {τ : Int64} (x2 : Int32) (x3 : Int32) (x5 : Int32) : ∀ (n : Nat) (x4 : Int32) (x6 : Int32) (σ : Sg) (v : (Int32 × Sg)) (H : Heap) (locs : List Loc) (ls : Array Slot), va_P D vwCl (MW cI cB cZ am τ σ) H → va_S (mwA am) s.heap H locs → lv_has ls 7 [(0, .ref (am 0)), (2, .int x2), (3, .int x3), (4, .int x4), (5, .int x5), (6, .int x6)] → pX11_blow_L70 x2 x3 x5 n x4 x6 σ = some v → (∀ (H1 : Heap) (locs1 : List Loc) (ls1 : Array Slot), va_P D vwCl (MW cI cB cZ am τ v.2) H1 → va_S (mwA am) s.heap H1 locs1 → lv_has ls1 7 [(4, .int v.1)] → W p l e rmX11_blow s m args below meth c H1 locs1 0 0 Q (F0 m 148 ls1 [])) → W p l e rmX11_blow s m args below meth c H locs 0 0 Q (F0 m 70 ls []) := by
  obtain ⟨⟨hx, hb, hml, hown, hts⟩, hr, hlk⟩ := id C0
  intro n
  induction n with
  | zero =>
    intro x4 x6 σ v H locs ls hP hS hl h kk
    exact absurd h (by simp [pX11_blow_L70])
  | succ n ih =>
    intro x4 x6 σ v H locs ls hP hS hl h kk
    rw [pX11_blow_L70] at h
    refine lv_iload hx hb dX11_blow_70 (lv_at hl 5 rfl) ?_
    refine lv_aload_n hx hb dX11_blow_72 rfl (lv_at hl 0 rfl) ?_
    refine va_get (D := D) (ci := 11) (v := .ref (am 7)) (C := RX11) (T := TX11) (N := 30) hx hb hts iX11_blow_X11 hown hK hP 0 mw_0 rfl 7 (by decide) (hts (.fieldLink RX11 29 RX11 "anchors" "[I") (by decide +kernel)) (fun _ h9 => h9) rfl dX11_blow_73 ?_
    refine lv_iconst (v := 0) hx hb dX11_blow_76 (by decide) ?_
    obtain ⟨v15, e16, h⟩ := k_bd h
    refine va_iald hx hb hK hP 7 0 mw_7 rfl (k_rd e16).1 dX11_blow_77 ?_
    refine lv_nmi (k_rd e16).2 ?_
    refine lv_icmp_ge (tgt := 148) hx hb dX11_blow_78 (by decide) (fun c78 => ?_) (fun c78 => ?_)
    · replace h := k_ip c78 h
      obtain rfl := k_sm h
      exact kk _ _ _ hP hS (lv_sub hl [3] rfl)
    · replace h := k_in c78 h
      refine lv_iload_n hx hb dX11_blow_81 rfl (lv_at hl 2 rfl) ?_
      refine lv_iload hx hb dX11_blow_82 (lv_at hl 5 rfl) ?_
      refine rd_calli (va_runS (As := [.int x3, .int x6]) (rest := []) C0.1 (kX11_has l x3 x6) (wX11_blow_X11_has hts ⟨Nat.le_of_ble_eq_true rfl, Nat.le_of_ble_eq_true rfl⟩) ⟨PT.blind, fun _ _ _ => ⟨rfl, trivial⟩⟩ rfl rfl hl.1 rfl (lv_room (Nat.le_of_ble_eq_true rfl)) dX11_blow_84 ⟨Nat.zero_le _, Nat.zero_le _⟩) ?_
      refine lv_if_eq (tgt := 142) hx hb dX11_blow_87 (by decide) (fun c87 => ?_) (fun c87 => ?_)
      · replace h := k_ip c87 h
        refine lv_iinc (v := (x6 + 1)) (lv' := [(6, .int (x6 + 1)), (0, .ref (am 0)), (2, .int x2), (3, .int x3), (4, .int x4), (5, .int x5)]) hx hb dX11_blow_142 hl (k := 5) rfl rfl (by decide) rfl (fun ls hl => ?_)
        refine lv_goto (tgt := 70) hx hb dX11_blow_145 (by decide) ?_
        exact ih x4 (x6 + 1) σ _ _ _ ls hP hS (lv_sub hl [1, 2, 3, 4, 5, 0] rfl) h kk
      · replace h := k_in c87 h
        refine lv_aload_n hx hb dX11_blow_90 rfl (lv_at hl 0 rfl) ?_
        refine va_get (D := D) (ci := 11) (v := .ref (am 13)) (C := RX11) (T := TX11) (N := 30) hx hb hts iX11_blow_X11 hown hK hP 0 mw_0 rfl 19 (by decide) (hts (.fieldLink RX11 47 RX11 "now" "[I") (by decide +kernel)) (fun _ h9 => h9) rfl dX11_blow_91 ?_
        refine lv_iconst (v := 0) hx hb dX11_blow_94 (by decide) ?_
        refine lv_iload hx hb dX11_blow_95 (lv_at hl 5 rfl) ?_
        refine lv_iadd hx hb dX11_blow_97 ?_
        obtain ⟨v17, e18, h⟩ := k_bd h
        refine va_iald hx hb hK hP 13 0 mw_13 rfl (k_rd e18).1 dX11_blow_98 ?_
        refine lv_nmi (k_rd e18).2 ?_
        refine lv_iload hx hb dX11_blow_99 (lv_at hl 4 rfl) ?_
        refine lv_icmp_ne (tgt := 121) hx hb dX11_blow_101 (by decide) (fun c101 => ?_) (fun c101 => ?_)
        · replace h := k_in c101 h
          refine lv_aload_n hx hb dX11_blow_121 rfl (lv_at hl 0 rfl) ?_
          refine va_get (D := D) (ci := 11) (v := .ref (am 13)) (C := RX11) (T := TX11) (N := 30) hx hb hts iX11_blow_X11 hown hK hP 0 mw_0 rfl 19 (by decide) (hts (.fieldLink RX11 47 RX11 "now" "[I") (by decide +kernel)) (fun _ h9 => h9) rfl dX11_blow_122 ?_
          refine lv_iconst (v := 0) hx hb dX11_blow_125 (by decide) ?_
          refine lv_iload hx hb dX11_blow_126 (lv_at hl 5 rfl) ?_
          refine lv_iadd hx hb dX11_blow_128 ?_
          refine lv_dup2_11 hx hb dX11_blow_129 rfl rfl ?_
          obtain ⟨v19, e20, h⟩ := k_bd h
          refine va_iald hx hb hK hP 13 0 mw_13 rfl (k_rd e20).1 dX11_blow_130 ?_
          refine lv_nmi (k_rd e20).2 ?_
          refine lv_iload_n hx hb dX11_blow_131 rfl (lv_at hl 1 rfl) ?_
          refine lv_if_ne (tgt := 139) hx hb dX11_blow_132 (by decide) (fun c132 => ?_) (fun c132 => ?_)
          · replace h := k_in c132 h
            refine lv_iconst (v := 1) hx hb dX11_blow_139 (by decide) ?_
            refine lv_iadd hx hb dX11_blow_140 ?_
            obtain ⟨σ21, e22, h⟩ := k_bd h
            refine va_iast hx hb hK hP (mw_D hap) hS 13 0 mw_13 rfl (k_wr e22).1 dX11_blow_141 (fun H locs hP _ hS => ?_)
            have hP := mw_s13 hP
            rw [(k_wr e22).2] at hP
            refine lv_iinc (v := (x6 + 1)) (lv' := [(6, .int (x6 + 1)), (0, .ref (am 0)), (2, .int x2), (3, .int x3), (4, .int x4), (5, .int x5)]) hx hb dX11_blow_142 hl (k := 5) rfl rfl (by decide) rfl (fun ls hl => ?_)
            refine lv_goto (tgt := 70) hx hb dX11_blow_145 (by decide) ?_
            exact ih x4 (x6 + 1) σ21 _ _ _ ls hP hS (lv_sub hl [1, 2, 3, 4, 5, 0] rfl) h kk
          · replace h := k_ip c132 h
            refine lv_iconst (v := (-1)) hx hb dX11_blow_135 (by decide) ?_
            refine lv_goto (tgt := 140) hx hb dX11_blow_136 (by decide) ?_
            refine lv_iadd hx hb dX11_blow_140 ?_
            obtain ⟨σ23, e24, h⟩ := k_bd h
            refine va_iast hx hb hK hP (mw_D hap) hS 13 0 mw_13 rfl (k_wr e24).1 dX11_blow_141 (fun H locs hP _ hS => ?_)
            have hP := mw_s13 hP
            rw [(k_wr e24).2] at hP
            refine lv_iinc (v := (x6 + 1)) (lv' := [(6, .int (x6 + 1)), (0, .ref (am 0)), (2, .int x2), (3, .int x3), (4, .int x4), (5, .int x5)]) hx hb dX11_blow_142 hl (k := 5) rfl rfl (by decide) rfl (fun ls hl => ?_)
            refine lv_goto (tgt := 70) hx hb dX11_blow_145 (by decide) ?_
            exact ih x4 (x6 + 1) σ23 _ _ _ ls hP hS (lv_sub hl [1, 2, 3, 4, 5, 0] rfl) h kk
        · replace h := k_ip c101 h
          refine lv_aload_n hx hb dX11_blow_104 rfl (lv_at hl 0 rfl) ?_
          refine va_get (D := D) (ci := 11) (v := .ref (am 13)) (C := RX11) (T := TX11) (N := 30) hx hb hts iX11_blow_X11 hown hK hP 0 mw_0 rfl 19 (by decide) (hts (.fieldLink RX11 47 RX11 "now" "[I") (by decide +kernel)) (fun _ h9 => h9) rfl dX11_blow_105 ?_
          refine lv_bipush (v := 24) hx hb dX11_blow_108 (by decide) ?_
          refine lv_iload hx hb dX11_blow_110 (lv_at hl 5 rfl) ?_
          refine lv_iadd hx hb dX11_blow_112 ?_
          refine lv_iconst (v := 2) hx hb dX11_blow_113 (by decide) ?_
          obtain ⟨σ25, e26, h⟩ := k_bd h
          refine va_iast hx hb hK hP (mw_D hap) hS 13 0 mw_13 rfl (k_wr e26).1 dX11_blow_114 (fun H locs hP _ hS => ?_)
          have hP := mw_s13 hP
          rw [(k_wr e26).2] at hP
          refine lv_iinc (v := (x4 + 1)) (lv' := [(4, .int (x4 + 1)), (0, .ref (am 0)), (2, .int x2), (3, .int x3), (5, .int x5), (6, .int x6)]) hx hb dX11_blow_115 hl (k := 3) rfl rfl (by decide) rfl (fun ls hl => ?_)
          refine lv_goto (tgt := 142) hx hb dX11_blow_118 (by decide) ?_
          refine lv_iinc (v := (x6 + 1)) (lv' := [(6, .int (x6 + 1)), (4, .int (x4 + 1)), (0, .ref (am 0)), (2, .int x2), (3, .int x3), (5, .int x5)]) hx hb dX11_blow_142 hl (k := 5) rfl rfl (by decide) rfl (fun ls hl => ?_)
          refine lv_goto (tgt := 70) hx hb dX11_blow_145 (by decide) ?_
          exact ih (x4 + 1) (x6 + 1) σ25 _ _ _ ls hP hS (lv_sub hl [2, 3, 4, 1, 5, 0] rfl) h kk
set_option maxHeartbeats 4000000 in
set_option maxRecDepth 100000 in
theorem kX11_blow (l : Launch) {D : va_G} {cI cB cZ : ClassId} {am : Nat → Nat} {τ : Int64} (hap : mwX am) (σ : Sg) (x1 : Int32) (x2 : Int32) (o : (Int32 × Sg)) (h : pX11_blow σ x1 x2 = some o) : Met l yX11_blow wsX11_blow rmX11_blow (va_Pc [.ref (am 0), .int x1, .int x2] (PW D cI cB cZ (MW cI cB cZ am τ σ))) (QI D (MW cI cB cZ am τ) (mwA am) o.1 o.2) 0 0 (mwA am) := by
  refine Met.ofW (cc := cX11_blow) (maxL := 7) (ret := (some .int)) (by decide) rfl ?_
  intro p e s m args below meth c s₁ B hml hv
  obtain ⟨rfl, hP, hK, hN⟩ := hv
  have C0 : Cx p s m _ meth c cX11_blow 7 (some .int) RX11 wsX11_blow := ⟨⟨B.exec, B.bytes, hml, findClass_of_methodNamed B.named, atoms_spec B.pre⟩, B.returns, B.notSynchronized⟩
  obtain ⟨⟨hx, hb, -, hown, hts⟩, hr, hlk⟩ := id C0
  have hS : va_S (mwA am) s.heap s.heap [] := va_S.rf
  have hl := lv_entry ([.ref (am 0), .int x1, .int x2]) (n := 7) (Nat.le_of_ble_eq_true rfl)
  rw [lg_entry_eq]
  generalize (lg_sl ([.ref (am 0), .int x1, .int x2]) ++ List.replicate (7 - (lg_sl ([.ref (am 0), .int x1, .int x2])).length) Slot.unset).toArray = ls at hl ⊢
  have hl : lv_has ls 7 [(0, .ref (am 0)), (1, .int x1), (2, .int x2)] := hl
  rw [pX11_blow] at h
  refine lv_iconst (v := 0) hx hb dX11_blow_0 (by decide) ?_
  refine lv_istore_n (lv' := [(3, .int 0), (0, .ref (am 0)), (1, .int x1), (2, .int x2)]) hx hb dX11_blow_1 rfl hl (by decide) rfl (fun ls hl => ?_)
  refine lv_iconst (v := 0) hx hb dX11_blow_2 (by decide) ?_
  refine lv_istore (lv' := [(4, .int 0), (3, .int 0), (0, .ref (am 0)), (1, .int x1), (2, .int x2)]) hx hb dX11_blow_3 hl (by decide) rfl (fun ls hl => ?_)
  refine lv_iconst (v := 0) hx hb dX11_blow_5 (by decide) ?_
  refine lv_istore (lv' := [(5, .int 0), (4, .int 0), (3, .int 0), (0, .ref (am 0)), (1, .int x1), (2, .int x2)]) hx hb dX11_blow_6 hl (by decide) rfl (fun ls hl => ?_)
  obtain ⟨w13, e14, h⟩ := k_bd h
  refine bX11_blow_L8 C0 hK hN hap x1 x2 0 2000 0 0 _ _ _ ls hP hS (lv_sub hl [3, 4, 5, 2, 1, 0] rfl) e14 (fun H locs ls hP hS hl => ?_)
  refine lv_iload_n hx hb dX11_blow_55 rfl (lv_at hl 1 rfl) ?_
  refine lv_if_ne (tgt := 63) hx hb dX11_blow_56 (by decide) (fun c56 => ?_) (fun c56 => ?_)
  · replace h := k_in c56 h
    refine lv_bipush (v := 9) hx hb dX11_blow_63 (by decide) ?_
    refine lv_istore (lv' := [(5, .int 9), (0, .ref (am 0)), (2, .int x2), (3, .int w13), (4, .int 0)]) hx hb dX11_blow_65 hl (by decide) rfl (fun ls hl => ?_)
    refine lv_iconst (v := 0) hx hb dX11_blow_67 (by decide) ?_
    refine lv_istore (lv' := [(6, .int 0), (5, .int 9), (0, .ref (am 0)), (2, .int x2), (3, .int w13), (4, .int 0)]) hx hb dX11_blow_68 hl (by decide) rfl (fun ls hl => ?_)
    obtain ⟨w27, e28, h⟩ := k_bd h
    refine bX11_blow_L70 C0 hK hN hap x2 w13 9 2000 0 0 σ _ _ _ ls hP hS (lv_sub hl [2, 3, 4, 5, 1, 0] rfl) e28 (fun H locs ls hP hS hl => ?_)
    refine lv_iload hx hb dX11_blow_148 (lv_at hl 0 rfl) ?_
    obtain rfl := k_sm h
    exact W.iret hx hb hr (fun t ht hW => ⟨⟨_, _, rfl, ⟨rfl, rfl⟩, pw_end ht hP⟩, hS.F ht⟩) hS.2.2 dX11_blow_150
  · replace h := k_ip c56 h
    refine lv_iconst (v := 0) hx hb dX11_blow_59 (by decide) ?_
    refine lv_goto (tgt := 65) hx hb dX11_blow_60 (by decide) ?_
    refine lv_istore (lv' := [(5, .int 0), (0, .ref (am 0)), (2, .int x2), (3, .int w13), (4, .int 0)]) hx hb dX11_blow_65 hl (by decide) rfl (fun ls hl => ?_)
    refine lv_iconst (v := 0) hx hb dX11_blow_67 (by decide) ?_
    refine lv_istore (lv' := [(6, .int 0), (5, .int 0), (0, .ref (am 0)), (2, .int x2), (3, .int w13), (4, .int 0)]) hx hb dX11_blow_68 hl (by decide) rfl (fun ls hl => ?_)
    obtain ⟨w29, e30, h⟩ := k_bd h
    refine bX11_blow_L70 C0 hK hN hap x2 w13 0 2000 0 0 σ _ _ _ ls hP hS (lv_sub hl [2, 3, 4, 5, 1, 0] rfl) e30 (fun H locs ls hP hS hl => ?_)
    refine lv_iload hx hb dX11_blow_148 (lv_at hl 0 rfl) ?_
    obtain rfl := k_sm h
    exact W.iret hx hb hr (fun t ht hW => ⟨⟨_, _, rfl, ⟨rfl, rfl⟩, pw_end ht hP⟩, hS.F ht⟩) hS.2.2 dX11_blow_150
set_option maxHeartbeats 4000000 in
set_option maxRecDepth 100000 in
theorem kX11_storms (l : Launch) {D : va_G} {cI cB cZ : ClassId} {am : Nat → Nat} {τ : Int64} (hap : mwX am) (σ : Sg) (x1 : Int32) (x2 : Int32) (o : (Int32 × Sg)) (h : pX11_storms σ x1 x2 = some o) : Met l yX11_storms wsX11_storms rmX11_storms (va_Pc [.ref (am 0), .int x1, .int x2] (PW D cI cB cZ (MW cI cB cZ am τ σ))) (QI D (MW cI cB cZ am τ) (mwA am) o.1 o.2) 0 0 (mwA am) := by
  refine Met.ofW (cc := cX11_storms) (maxL := 3) (ret := (some .int)) (by decide) rfl ?_
  intro p e s m args below meth c s₁ B hml hv
  obtain ⟨rfl, hP, hK, hN⟩ := hv
  have C0 : Cx p s m _ meth c cX11_storms 3 (some .int) RX11 wsX11_storms := ⟨⟨B.exec, B.bytes, hml, findClass_of_methodNamed B.named, atoms_spec B.pre⟩, B.returns, B.notSynchronized⟩
  obtain ⟨⟨hx, hb, -, hown, hts⟩, hr, hlk⟩ := id C0
  have hS : va_S (mwA am) s.heap s.heap [] := va_S.rf
  have hl := lv_entry ([.ref (am 0), .int x1, .int x2]) (n := 3) (Nat.le_of_ble_eq_true rfl)
  rw [lg_entry_eq]
  generalize (lg_sl ([.ref (am 0), .int x1, .int x2]) ++ List.replicate (3 - (lg_sl ([.ref (am 0), .int x1, .int x2])).length) Slot.unset).toArray = ls at hl ⊢
  have hl : lv_has ls 3 [(0, .ref (am 0)), (1, .int x1), (2, .int x2)] := hl
  rw [pX11_storms] at h
  refine lv_iload_n hx hb dX11_storms_0 rfl (lv_at hl 1 rfl) ?_
  refine rd_calli (va_runS (As := [.int x1]) (rest := []) C0.1 (kX11_isStorm l x1) (wX11_storms_X11_isStorm hts ⟨Nat.le_of_ble_eq_true rfl, Nat.le_of_ble_eq_true rfl⟩) ⟨PT.blind, fun _ _ _ => ⟨rfl, trivial⟩⟩ rfl rfl hl.1 rfl (lv_room (Nat.le_of_ble_eq_true rfl)) dX11_storms_1 ⟨Nat.zero_le _, Nat.zero_le _⟩) ?_
  refine lv_if_eq (tgt := 14) hx hb dX11_storms_4 (by decide) (fun c4 => ?_) (fun c4 => ?_)
  · replace h := k_ip c4 h
    refine lv_iconst (v := (-1)) hx hb dX11_storms_14 (by decide) ?_
    obtain rfl := k_sm h
    exact W.iret hx hb hr (fun t ht hW => ⟨⟨_, _, rfl, ⟨rfl, rfl⟩, pw_end ht hP⟩, hS.F ht⟩) hS.2.2 dX11_storms_15
  · replace h := k_in c4 h
    refine lv_iload_n hx hb dX11_storms_7 rfl (lv_at hl 2 rfl) ?_
    refine rd_calli (va_runS (As := [.int x2]) (rest := []) C0.1 (kX11_isSide l x2) (wX11_storms_X11_isSide hts ⟨Nat.le_of_ble_eq_true rfl, Nat.le_of_ble_eq_true rfl⟩) ⟨PT.blind, fun _ _ _ => ⟨rfl, trivial⟩⟩ rfl rfl hl.1 rfl (lv_room (Nat.le_of_ble_eq_true rfl)) dX11_storms_8 ⟨Nat.zero_le _, Nat.zero_le _⟩) ?_
    refine lv_if_ne (tgt := 16) hx hb dX11_storms_11 (by decide) (fun c11 => ?_) (fun c11 => ?_)
    · replace h := k_in c11 h
      refine lv_aload_n hx hb dX11_storms_16 rfl (lv_at hl 0 rfl) ?_
      obtain ⟨u1, e2, h⟩ := k_bd h
      refine wr_callv (va_runV (As := []) (rest := []) C0.1 (kX11_know l (D := D) (cI := cI) (cB := cB) (cZ := cZ) (τ := τ) hap σ  _ e2) (wX11_storms_X11_know hts ⟨Nat.le_of_ble_eq_true rfl, Nat.le_of_ble_eq_true rfl⟩) ⟨PW.blind, mw_r0 hK hP, PW.mk hP hK hN⟩ rfl rfl hl.1 rfl (lv_room (Nat.le_of_ble_eq_true rfl)) dX11_storms_17 ⟨Nat.zero_le _, Nat.zero_le _⟩) hS (fun _ h => h) (fun H locs hP hS => ?_)
      have hP : va_P D vwCl (MW cI cB cZ am τ u1) H := hP
      refine lv_aload_n hx hb dX11_storms_20 rfl (lv_at hl 0 rfl) ?_
      refine lv_iload_n hx hb dX11_storms_21 rfl (lv_at hl 1 rfl) ?_
      refine lv_iload_n hx hb dX11_storms_22 rfl (lv_at hl 2 rfl) ?_
      obtain ⟨u3, e4, h⟩ := k_bd h
      refine wr_calli (va_runV (As := [.int x1, .int x2]) (rest := []) C0.1 (kX11_blow l (D := D) (cI := cI) (cB := cB) (cZ := cZ) (τ := τ) hap u1 x1 x2 _ e4) (wX11_storms_X11_blow hts ⟨Nat.le_of_ble_eq_true rfl, Nat.le_of_ble_eq_true rfl⟩) ⟨PW.blind, mw_r0 hK hP, PW.mk hP hK hN⟩ rfl rfl hl.1 rfl (lv_room (Nat.le_of_ble_eq_true rfl)) dX11_storms_23 ⟨Nat.zero_le _, Nat.zero_le _⟩) hS (fun _ h => h) (fun H locs hP hS => ?_)
      have hP : va_P D vwCl (MW cI cB cZ am τ u3.2) H := hP
      obtain rfl := k_sm h
      exact W.iret hx hb hr (fun t ht hW => ⟨⟨_, _, rfl, ⟨rfl, rfl⟩, pw_end ht hP⟩, hS.F ht⟩) hS.2.2 dX11_storms_26
    · replace h := k_ip c11 h
      refine lv_iconst (v := (-1)) hx hb dX11_storms_14 (by decide) ?_
      obtain rfl := k_sm h
      exact W.iret hx hb hr (fun t ht hW => ⟨⟨_, _, rfl, ⟨rfl, rfl⟩, pw_end ht hP⟩, hS.F ht⟩) hS.2.2 dX11_storms_15
set_option maxHeartbeats 4000000 in
set_option maxRecDepth 100000 in
theorem kX11_pays (l : Launch) {D : va_G} {cI cB cZ : ClassId} {am : Nat → Nat} {τ : Int64} (hap : mwX am) (σ : Sg) (x1 : Int32) (x2 : Int32) (o : (Int32 × Sg)) (h : pX11_pays σ x1 x2 = some o) : Met l yX11_pays wsX11_pays rmX11_pays (va_Pc [.ref (am 0), .int x1, .int x2] (PW D cI cB cZ (MW cI cB cZ am τ σ))) (QI D (MW cI cB cZ am τ) (mwA am) o.1 o.2) 0 0 (mwA am) := by
  refine Met.ofW (cc := cX11_pays) (maxL := 3) (ret := (some .int)) (by decide) rfl ?_
  intro p e s m args below meth c s₁ B hml hv
  obtain ⟨rfl, hP, hK, hN⟩ := hv
  have C0 : Cx p s m _ meth c cX11_pays 3 (some .int) RX11 wsX11_pays := ⟨⟨B.exec, B.bytes, hml, findClass_of_methodNamed B.named, atoms_spec B.pre⟩, B.returns, B.notSynchronized⟩
  obtain ⟨⟨hx, hb, -, hown, hts⟩, hr, hlk⟩ := id C0
  have hS : va_S (mwA am) s.heap s.heap [] := va_S.rf
  have hl := lv_entry ([.ref (am 0), .int x1, .int x2]) (n := 3) (Nat.le_of_ble_eq_true rfl)
  rw [lg_entry_eq]
  generalize (lg_sl ([.ref (am 0), .int x1, .int x2]) ++ List.replicate (3 - (lg_sl ([.ref (am 0), .int x1, .int x2])).length) Slot.unset).toArray = ls at hl ⊢
  have hl : lv_has ls 3 [(0, .ref (am 0)), (1, .int x1), (2, .int x2)] := hl
  rw [pX11_pays] at h
  refine lv_aload_n hx hb dX11_pays_0 rfl (lv_at hl 0 rfl) ?_
  refine lv_iload_n hx hb dX11_pays_1 rfl (lv_at hl 1 rfl) ?_
  obtain ⟨v1, e2, h⟩ := k_bd h
  refine rd_calli (va_runV (As := [.int x1]) (rest := []) C0.1 (kX11_isAnchor l (D := D) (cI := cI) (cB := cB) (cZ := cZ) (am := am) (τ := τ) σ x1 _ e2) (wX11_pays_X11_isAnchor hts ⟨Nat.le_of_ble_eq_true rfl, Nat.le_of_ble_eq_true rfl⟩) ⟨PW.blind, mw_r0 hK hP, PW.mk hP hK hN⟩ rfl rfl hl.1 rfl (lv_room (Nat.le_of_ble_eq_true rfl)) dX11_pays_2 ⟨Nat.zero_le _, Nat.zero_le _⟩) ?_
  refine lv_if_eq (tgt := 23) hx hb dX11_pays_5 (by decide) (fun c5 => ?_) (fun c5 => ?_)
  · replace h := k_ip c5 h
    refine lv_iconst (v := (-1)) hx hb dX11_pays_23 (by decide) ?_
    obtain rfl := k_sm h
    exact W.iret hx hb hr (fun t ht hW => ⟨⟨_, _, rfl, ⟨rfl, rfl⟩, pw_end ht hP⟩, hS.F ht⟩) hS.2.2 dX11_pays_24
  · replace h := k_in c5 h
    refine lv_iload_n hx hb dX11_pays_8 rfl (lv_at hl 2 rfl) ?_
    refine lv_bipush (v := (-9)) hx hb dX11_pays_9 (by decide) ?_
    refine lv_bipush (v := 9) hx hb dX11_pays_11 (by decide) ?_
    refine rd_calli (va_runS (As := [.int x2, .int (-9), .int 9]) (rest := []) C0.1 (kX11_in l x2 (-9) 9) (wX11_pays_X11_in hts ⟨Nat.le_of_ble_eq_true rfl, Nat.le_of_ble_eq_true rfl⟩) ⟨PT.blind, fun _ _ _ => ⟨rfl, trivial⟩⟩ rfl rfl hl.1 rfl (lv_room (Nat.le_of_ble_eq_true rfl)) dX11_pays_13 ⟨Nat.zero_le _, Nat.zero_le _⟩) ?_
    refine lv_if_eq (tgt := 23) hx hb dX11_pays_16 (by decide) (fun c16 => ?_) (fun c16 => ?_)
    · replace h := k_ip c16 h
      refine lv_iconst (v := (-1)) hx hb dX11_pays_23 (by decide) ?_
      obtain rfl := k_sm h
      exact W.iret hx hb hr (fun t ht hW => ⟨⟨_, _, rfl, ⟨rfl, rfl⟩, pw_end ht hP⟩, hS.F ht⟩) hS.2.2 dX11_pays_24
    · replace h := k_in c16 h
      refine lv_iload_n hx hb dX11_pays_19 rfl (lv_at hl 2 rfl) ?_
      refine lv_if_ne (tgt := 25) hx hb dX11_pays_20 (by decide) (fun c20 => ?_) (fun c20 => ?_)
      · replace h := k_in c20 h
        refine lv_aload_n hx hb dX11_pays_25 rfl (lv_at hl 0 rfl) ?_
        refine lv_iload_n hx hb dX11_pays_26 rfl (lv_at hl 1 rfl) ?_
        obtain ⟨v3, e4, h⟩ := k_bd h
        refine rd_calli (va_runV (As := [.int x1]) (rest := []) C0.1 (kX11_isLying l (D := D) (cI := cI) (cB := cB) (cZ := cZ) (am := am) (τ := τ) σ x1 _ e4) (wX11_pays_X11_isLying hts ⟨Nat.le_of_ble_eq_true rfl, Nat.le_of_ble_eq_true rfl⟩) ⟨PW.blind, mw_r0 hK hP, PW.mk hP hK hN⟩ rfl rfl hl.1 rfl (lv_room (Nat.le_of_ble_eq_true rfl)) dX11_pays_27 ⟨Nat.zero_le _, Nat.zero_le _⟩) ?_
        refine lv_if_eq (tgt := 53) hx hb dX11_pays_30 (by decide) (fun c30 => ?_) (fun c30 => ?_)
        · replace h := k_ip c30 h
          refine lv_bipush (v := (-2)) hx hb dX11_pays_53 (by decide) ?_
          obtain rfl := k_sm h
          exact W.iret hx hb hr (fun t ht hW => ⟨⟨_, _, rfl, ⟨rfl, rfl⟩, pw_end ht hP⟩, hS.F ht⟩) hS.2.2 dX11_pays_55
        · replace h := k_in c30 h
          refine lv_aload_n hx hb dX11_pays_33 rfl (lv_at hl 0 rfl) ?_
          refine va_get (D := D) (ci := 11) (v := .ref (am 13)) (C := RX11) (T := TX11) (N := 30) hx hb hts iX11_pays_X11 hown hK hP 0 mw_0 rfl 19 (by decide) (hts (.fieldLink RX11 47 RX11 "now" "[I") (by decide +kernel)) (fun _ h9 => h9) rfl dX11_pays_34 ?_
          refine lv_bipush (v := 8) hx hb dX11_pays_37 (by decide) ?_
          refine lv_iload_n hx hb dX11_pays_39 rfl (lv_at hl 1 rfl) ?_
          refine lv_iadd hx hb dX11_pays_40 ?_
          obtain ⟨v5, e6, h⟩ := k_bd h
          refine va_iald hx hb hK hP 13 0 mw_13 rfl (k_rd e6).1 dX11_pays_41 ?_
          refine lv_nmi (k_rd e6).2 ?_
          refine lv_iload_n hx hb dX11_pays_42 rfl (lv_at hl 2 rfl) ?_
          refine lv_iadd hx hb dX11_pays_43 ?_
          refine lv_iconst (v := 1) hx hb dX11_pays_44 (by decide) ?_
          refine lv_bipush (v := 60) hx hb dX11_pays_45 (by decide) ?_
          refine rd_calli (va_runS (As := [.int (v5 + x2), .int 1, .int 60]) (rest := []) C0.1 (kX11_in l (v5 + x2) 1 60) (wX11_pays_X11_in hts ⟨Nat.le_of_ble_eq_true rfl, Nat.le_of_ble_eq_true rfl⟩) ⟨PT.blind, fun _ _ _ => ⟨rfl, trivial⟩⟩ rfl rfl hl.1 rfl (lv_room (Nat.le_of_ble_eq_true rfl)) dX11_pays_47 ⟨Nat.zero_le _, Nat.zero_le _⟩) ?_
          refine lv_if_ne (tgt := 56) hx hb dX11_pays_50 (by decide) (fun c50 => ?_) (fun c50 => ?_)
          · replace h := k_in c50 h
            refine lv_aload_n hx hb dX11_pays_56 rfl (lv_at hl 0 rfl) ?_
            obtain ⟨u7, e8, h⟩ := k_bd h
            refine wr_callv (va_runV (As := []) (rest := []) C0.1 (kX11_know l (D := D) (cI := cI) (cB := cB) (cZ := cZ) (τ := τ) hap σ  _ e8) (wX11_pays_X11_know hts ⟨Nat.le_of_ble_eq_true rfl, Nat.le_of_ble_eq_true rfl⟩) ⟨PW.blind, mw_r0 hK hP, PW.mk hP hK hN⟩ rfl rfl hl.1 rfl (lv_room (Nat.le_of_ble_eq_true rfl)) dX11_pays_57 ⟨Nat.zero_le _, Nat.zero_le _⟩) hS (fun _ h => h) (fun H locs hP hS => ?_)
            have hP : va_P D vwCl (MW cI cB cZ am τ u7) H := hP
            refine lv_aload_n hx hb dX11_pays_60 rfl (lv_at hl 0 rfl) ?_
            refine va_get (D := D) (ci := 11) (v := .ref (am 13)) (C := RX11) (T := TX11) (N := 30) hx hb hts iX11_pays_X11 hown hK hP 0 mw_0 rfl 19 (by decide) (hts (.fieldLink RX11 47 RX11 "now" "[I") (by decide +kernel)) (fun _ h9 => h9) rfl dX11_pays_61 ?_
            refine lv_bipush (v := 8) hx hb dX11_pays_64 (by decide) ?_
            refine lv_iload_n hx hb dX11_pays_66 rfl (lv_at hl 1 rfl) ?_
            refine lv_iadd hx hb dX11_pays_67 ?_
            refine lv_dup2_11 hx hb dX11_pays_68 rfl rfl ?_
            obtain ⟨v9, e10, h⟩ := k_bd h
            refine va_iald hx hb hK hP 13 0 mw_13 rfl (k_rd e10).1 dX11_pays_69 ?_
            refine lv_nmi (k_rd e10).2 ?_
            refine lv_iload_n hx hb dX11_pays_70 rfl (lv_at hl 2 rfl) ?_
            refine lv_iadd hx hb dX11_pays_71 ?_
            obtain ⟨σ11, e12, h⟩ := k_bd h
            refine va_iast hx hb hK hP (mw_D hap) hS 13 0 mw_13 rfl (k_wr e12).1 dX11_pays_72 (fun H locs hP _ hS => ?_)
            have hP := mw_s13 hP
            rw [(k_wr e12).2] at hP
            refine lv_aload_n hx hb dX11_pays_73 rfl (lv_at hl 0 rfl) ?_
            refine va_get (D := D) (ci := 11) (v := .ref (am 13)) (C := RX11) (T := TX11) (N := 30) hx hb hts iX11_pays_X11 hown hK hP 0 mw_0 rfl 19 (by decide) (hts (.fieldLink RX11 47 RX11 "now" "[I") (by decide +kernel)) (fun _ h9 => h9) rfl dX11_pays_74 ?_
            refine lv_bipush (v := 8) hx hb dX11_pays_77 (by decide) ?_
            refine lv_iload_n hx hb dX11_pays_79 rfl (lv_at hl 1 rfl) ?_
            refine lv_iadd hx hb dX11_pays_80 ?_
            obtain ⟨v13, e14, h⟩ := k_bd h
            refine va_iald hx hb hK hP 13 0 mw_13 rfl (k_rd e14).1 dX11_pays_81 ?_
            refine lv_nmi (k_rd e14).2 ?_
            obtain rfl := k_sm h
            exact W.iret hx hb hr (fun t ht hW => ⟨⟨_, _, rfl, ⟨rfl, rfl⟩, pw_end ht hP⟩, hS.F ht⟩) hS.2.2 dX11_pays_82
          · replace h := k_ip c50 h
            refine lv_bipush (v := (-2)) hx hb dX11_pays_53 (by decide) ?_
            obtain rfl := k_sm h
            exact W.iret hx hb hr (fun t ht hW => ⟨⟨_, _, rfl, ⟨rfl, rfl⟩, pw_end ht hP⟩, hS.F ht⟩) hS.2.2 dX11_pays_55
      · replace h := k_ip c20 h
        refine lv_iconst (v := (-1)) hx hb dX11_pays_23 (by decide) ?_
        obtain rfl := k_sm h
        exact W.iret hx hb hr (fun t ht hW => ⟨⟨_, _, rfl, ⟨rfl, rfl⟩, pw_end ht hP⟩, hS.F ht⟩) hS.2.2 dX11_pays_24
set_option maxHeartbeats 4000000 in
set_option maxRecDepth 100000 in
theorem kX11_dies (l : Launch) {D : va_G} {cI cB cZ : ClassId} {am : Nat → Nat} {τ : Int64} (hap : mwX am) (σ : Sg) (x1 : Int32) (o : (Int32 × Sg)) (h : pX11_dies σ x1 = some o) : Met l yX11_dies wsX11_dies rmX11_dies (va_Pc [.ref (am 0), .int x1] (PW D cI cB cZ (MW cI cB cZ am τ σ))) (QI D (MW cI cB cZ am τ) (mwA am) o.1 o.2) 0 0 (mwA am) := by
  refine Met.ofW (cc := cX11_dies) (maxL := 2) (ret := (some .int)) (by decide) rfl ?_
  intro p e s m args below meth c s₁ B hml hv
  obtain ⟨rfl, hP, hK, hN⟩ := hv
  have C0 : Cx p s m _ meth c cX11_dies 2 (some .int) RX11 wsX11_dies := ⟨⟨B.exec, B.bytes, hml, findClass_of_methodNamed B.named, atoms_spec B.pre⟩, B.returns, B.notSynchronized⟩
  obtain ⟨⟨hx, hb, -, hown, hts⟩, hr, hlk⟩ := id C0
  have hS : va_S (mwA am) s.heap s.heap [] := va_S.rf
  have hl := lv_entry ([.ref (am 0), .int x1]) (n := 2) (Nat.le_of_ble_eq_true rfl)
  rw [lg_entry_eq]
  generalize (lg_sl ([.ref (am 0), .int x1]) ++ List.replicate (2 - (lg_sl ([.ref (am 0), .int x1])).length) Slot.unset).toArray = ls at hl ⊢
  have hl : lv_has ls 2 [(0, .ref (am 0)), (1, .int x1)] := hl
  rw [pX11_dies] at h
  refine lv_aload_n hx hb dX11_dies_0 rfl (lv_at hl 0 rfl) ?_
  refine lv_iload_n hx hb dX11_dies_1 rfl (lv_at hl 1 rfl) ?_
  obtain ⟨v1, e2, h⟩ := k_bd h
  refine rd_calli (va_runV (As := [.int x1]) (rest := []) C0.1 (kX11_isRaft l (D := D) (cI := cI) (cB := cB) (cZ := cZ) (am := am) (τ := τ) σ x1 _ e2) (wX11_dies_X11_isRaft hts ⟨Nat.le_of_ble_eq_true rfl, Nat.le_of_ble_eq_true rfl⟩) ⟨PW.blind, mw_r0 hK hP, PW.mk hP hK hN⟩ rfl rfl hl.1 rfl (lv_room (Nat.le_of_ble_eq_true rfl)) dX11_dies_2 ⟨Nat.zero_le _, Nat.zero_le _⟩) ?_
  refine lv_if_ne (tgt := 10) hx hb dX11_dies_5 (by decide) (fun c5 => ?_) (fun c5 => ?_)
  · replace h := k_in c5 h
    refine lv_aload_n hx hb dX11_dies_10 rfl (lv_at hl 0 rfl) ?_
    refine va_get (D := D) (ci := 11) (v := .ref (am 13)) (C := RX11) (T := TX11) (N := 30) hx hb hts iX11_dies_X11 hown hK hP 0 mw_0 rfl 19 (by decide) (hts (.fieldLink RX11 47 RX11 "now" "[I") (by decide +kernel)) (fun _ h9 => h9) rfl dX11_dies_11 ?_
    refine lv_bipush (v := 32) hx hb dX11_dies_14 (by decide) ?_
    obtain ⟨v3, e4, h⟩ := k_bd h
    refine va_iald hx hb hK hP 13 0 mw_13 rfl (k_rd e4).1 dX11_dies_16 ?_
    refine lv_nmi (k_rd e4).2 ?_
    refine lv_iload_n hx hb dX11_dies_17 rfl (lv_at hl 1 rfl) ?_
    refine rd_calli (va_runS (As := [.int v3, .int x1]) (rest := []) C0.1 (kX11_has l v3 x1) (wX11_dies_X11_has hts ⟨Nat.le_of_ble_eq_true rfl, Nat.le_of_ble_eq_true rfl⟩) ⟨PT.blind, fun _ _ _ => ⟨rfl, trivial⟩⟩ rfl rfl hl.1 rfl (lv_room (Nat.le_of_ble_eq_true rfl)) dX11_dies_18 ⟨Nat.zero_le _, Nat.zero_le _⟩) ?_
    refine lv_if_eq (tgt := 27) hx hb dX11_dies_21 (by decide) (fun c21 => ?_) (fun c21 => ?_)
    · replace h := k_ip c21 h
      refine lv_aload_n hx hb dX11_dies_27 rfl (lv_at hl 0 rfl) ?_
      obtain ⟨u5, e6, h⟩ := k_bd h
      refine wr_callv (va_runV (As := []) (rest := []) C0.1 (kX11_know l (D := D) (cI := cI) (cB := cB) (cZ := cZ) (τ := τ) hap σ  _ e6) (wX11_dies_X11_know hts ⟨Nat.le_of_ble_eq_true rfl, Nat.le_of_ble_eq_true rfl⟩) ⟨PW.blind, mw_r0 hK hP, PW.mk hP hK hN⟩ rfl rfl hl.1 rfl (lv_room (Nat.le_of_ble_eq_true rfl)) dX11_dies_28 ⟨Nat.zero_le _, Nat.zero_le _⟩) hS (fun _ h => h) (fun H locs hP hS => ?_)
      have hP : va_P D vwCl (MW cI cB cZ am τ u5) H := hP
      refine lv_aload_n hx hb dX11_dies_31 rfl (lv_at hl 0 rfl) ?_
      refine va_get (D := D) (ci := 11) (v := .ref (am 13)) (C := RX11) (T := TX11) (N := 30) hx hb hts iX11_dies_X11 hown hK hP 0 mw_0 rfl 19 (by decide) (hts (.fieldLink RX11 47 RX11 "now" "[I") (by decide +kernel)) (fun _ h9 => h9) rfl dX11_dies_32 ?_
      refine lv_bipush (v := 32) hx hb dX11_dies_35 (by decide) ?_
      refine lv_dup2_11 hx hb dX11_dies_37 rfl rfl ?_
      obtain ⟨v7, e8, h⟩ := k_bd h
      refine va_iald hx hb hK hP 13 0 mw_13 rfl (k_rd e8).1 dX11_dies_38 ?_
      refine lv_nmi (k_rd e8).2 ?_
      refine lv_iconst (v := 1) hx hb dX11_dies_39 (by decide) ?_
      refine lv_iload_n hx hb dX11_dies_40 rfl (lv_at hl 1 rfl) ?_
      refine lv_ishl hx hb dX11_dies_41 ?_
      refine lv_ior hx hb dX11_dies_42 ?_
      obtain ⟨σ9, e10, h⟩ := k_bd h
      refine va_iast hx hb hK hP (mw_D hap) hS 13 0 mw_13 rfl (k_wr e10).1 dX11_dies_43 (fun H locs hP _ hS => ?_)
      have hP := mw_s13 hP
      rw [(k_wr e10).2] at hP
      refine lv_aload_n hx hb dX11_dies_44 rfl (lv_at hl 0 rfl) ?_
      refine va_get (D := D) (ci := 11) (v := .ref (am 13)) (C := RX11) (T := TX11) (N := 30) hx hb hts iX11_dies_X11 hown hK hP 0 mw_0 rfl 19 (by decide) (hts (.fieldLink RX11 47 RX11 "now" "[I") (by decide +kernel)) (fun _ h9 => h9) rfl dX11_dies_45 ?_
      refine lv_bipush (v := 32) hx hb dX11_dies_48 (by decide) ?_
      obtain ⟨v11, e12, h⟩ := k_bd h
      refine va_iald hx hb hK hP 13 0 mw_13 rfl (k_rd e12).1 dX11_dies_50 ?_
      refine lv_nmi (k_rd e12).2 ?_
      obtain ⟨v13, e14, h⟩ := k_bd h
      refine rd_calli (va_runS (As := [.int v11]) (rest := []) C0.1 (kX11_bitsOf l v11 _ e14) (wX11_dies_X11_bitsOf hts ⟨Nat.le_of_ble_eq_true rfl, Nat.le_of_ble_eq_true rfl⟩) ⟨PT.blind, fun _ _ _ => ⟨rfl, trivial⟩⟩ rfl rfl hl.1 rfl (lv_room (Nat.le_of_ble_eq_true rfl)) dX11_dies_51 ⟨Nat.zero_le _, Nat.zero_le _⟩) ?_
      obtain rfl := k_sm h
      exact W.iret hx hb hr (fun t ht hW => ⟨⟨_, _, rfl, ⟨rfl, rfl⟩, pw_end ht hP⟩, hS.F ht⟩) hS.2.2 dX11_dies_54
    · replace h := k_in c21 h
      refine lv_bipush (v := (-2)) hx hb dX11_dies_24 (by decide) ?_
      obtain rfl := k_sm h
      exact W.iret hx hb hr (fun t ht hW => ⟨⟨_, _, rfl, ⟨rfl, rfl⟩, pw_end ht hP⟩, hS.F ht⟩) hS.2.2 dX11_dies_26
  · replace h := k_ip c5 h
    refine lv_iconst (v := (-1)) hx hb dX11_dies_8 (by decide) ?_
    obtain rfl := k_sm h
    exact W.iret hx hb hr (fun t ht hW => ⟨⟨_, _, rfl, ⟨rfl, rfl⟩, pw_end ht hP⟩, hS.F ht⟩) hS.2.2 dX11_dies_9
set_option maxHeartbeats 4000000 in
set_option maxRecDepth 100000 in
theorem kX11_wills (l : Launch) {D : va_G} {cI cB cZ : ClassId} {am : Nat → Nat} {τ : Int64} (hap : mwX am) (σ : Sg) (x1 : Int32) (x2 : Int32) (o : (Int32 × Sg)) (h : pX11_wills σ x1 x2 = some o) : Met l yX11_wills wsX11_wills rmX11_wills (va_Pc [.ref (am 0), .int x1, .int x2] (PW D cI cB cZ (MW cI cB cZ am τ σ))) (QI D (MW cI cB cZ am τ) (mwA am) o.1 o.2) 0 0 (mwA am) := by
  refine Met.ofW (cc := cX11_wills) (maxL := 4) (ret := (some .int)) (by decide) rfl ?_
  intro p e s m args below meth c s₁ B hml hv
  obtain ⟨rfl, hP, hK, hN⟩ := hv
  have C0 : Cx p s m _ meth c cX11_wills 4 (some .int) RX11 wsX11_wills := ⟨⟨B.exec, B.bytes, hml, findClass_of_methodNamed B.named, atoms_spec B.pre⟩, B.returns, B.notSynchronized⟩
  obtain ⟨⟨hx, hb, -, hown, hts⟩, hr, hlk⟩ := id C0
  have hS : va_S (mwA am) s.heap s.heap [] := va_S.rf
  have hl := lv_entry ([.ref (am 0), .int x1, .int x2]) (n := 4) (Nat.le_of_ble_eq_true rfl)
  rw [lg_entry_eq]
  generalize (lg_sl ([.ref (am 0), .int x1, .int x2]) ++ List.replicate (4 - (lg_sl ([.ref (am 0), .int x1, .int x2])).length) Slot.unset).toArray = ls at hl ⊢
  have hl : lv_has ls 4 [(0, .ref (am 0)), (1, .int x1), (2, .int x2)] := hl
  rw [pX11_wills] at h
  refine lv_aload_n hx hb dX11_wills_0 rfl (lv_at hl 0 rfl) ?_
  refine lv_iload_n hx hb dX11_wills_1 rfl (lv_at hl 1 rfl) ?_
  obtain ⟨v1, e2, h⟩ := k_bd h
  refine rd_calli (va_runV (As := [.int x1]) (rest := []) C0.1 (kX11_isRaft l (D := D) (cI := cI) (cB := cB) (cZ := cZ) (am := am) (τ := τ) σ x1 _ e2) (wX11_wills_X11_isRaft hts ⟨Nat.le_of_ble_eq_true rfl, Nat.le_of_ble_eq_true rfl⟩) ⟨PW.blind, mw_r0 hK hP, PW.mk hP hK hN⟩ rfl rfl hl.1 rfl (lv_room (Nat.le_of_ble_eq_true rfl)) dX11_wills_2 ⟨Nat.zero_le _, Nat.zero_le _⟩) ?_
  refine lv_if_eq (tgt := 16) hx hb dX11_wills_5 (by decide) (fun c5 => ?_) (fun c5 => ?_)
  · replace h := k_ip c5 h
    refine lv_iconst (v := (-1)) hx hb dX11_wills_16 (by decide) ?_
    obtain rfl := k_sm h
    exact W.iret hx hb hr (fun t ht hW => ⟨⟨_, _, rfl, ⟨rfl, rfl⟩, pw_end ht hP⟩, hS.F ht⟩) hS.2.2 dX11_wills_17
  · replace h := k_in c5 h
    refine lv_aload_n hx hb dX11_wills_8 rfl (lv_at hl 0 rfl) ?_
    refine lv_iload_n hx hb dX11_wills_9 rfl (lv_at hl 2 rfl) ?_
    obtain ⟨v3, e4, h⟩ := k_bd h
    refine rd_calli (va_runV (As := [.int x2]) (rest := []) C0.1 (kX11_isRaft l (D := D) (cI := cI) (cB := cB) (cZ := cZ) (am := am) (τ := τ) σ x2 _ e4) (wX11_wills_X11_isRaft hts ⟨Nat.le_of_ble_eq_true rfl, Nat.le_of_ble_eq_true rfl⟩) ⟨PW.blind, mw_r0 hK hP, PW.mk hP hK hN⟩ rfl rfl hl.1 rfl (lv_room (Nat.le_of_ble_eq_true rfl)) dX11_wills_10 ⟨Nat.zero_le _, Nat.zero_le _⟩) ?_
    refine lv_if_ne (tgt := 18) hx hb dX11_wills_13 (by decide) (fun c13 => ?_) (fun c13 => ?_)
    · replace h := k_in c13 h
      refine lv_aload_n hx hb dX11_wills_18 rfl (lv_at hl 0 rfl) ?_
      refine va_get (D := D) (ci := 11) (v := .ref (am 13)) (C := RX11) (T := TX11) (N := 30) hx hb hts iX11_wills_X11 hown hK hP 0 mw_0 rfl 19 (by decide) (hts (.fieldLink RX11 47 RX11 "now" "[I") (by decide +kernel)) (fun _ h9 => h9) rfl dX11_wills_19 ?_
      refine lv_bipush (v := 33) hx hb dX11_wills_22 (by decide) ?_
      refine lv_iload_n hx hb dX11_wills_24 rfl (lv_at hl 1 rfl) ?_
      refine lv_iadd hx hb dX11_wills_25 ?_
      obtain ⟨v5, e6, h⟩ := k_bd h
      refine va_iald hx hb hK hP 13 0 mw_13 rfl (k_rd e6).1 dX11_wills_26 ?_
      refine lv_nmi (k_rd e6).2 ?_
      refine lv_istore_n (lv' := [(3, .int v5), (0, .ref (am 0)), (1, .int x1), (2, .int x2)]) hx hb dX11_wills_27 rfl hl (by decide) rfl (fun ls hl => ?_)
      refine lv_aload_n hx hb dX11_wills_28 rfl (lv_at hl 1 rfl) ?_
      refine va_get (D := D) (ci := 11) (v := .ref (am 13)) (C := RX11) (T := TX11) (N := 30) hx hb hts iX11_wills_X11 hown hK hP 0 mw_0 rfl 19 (by decide) (hts (.fieldLink RX11 47 RX11 "now" "[I") (by decide +kernel)) (fun _ h9 => h9) rfl dX11_wills_29 ?_
      refine lv_bipush (v := 32) hx hb dX11_wills_32 (by decide) ?_
      obtain ⟨v7, e8, h⟩ := k_bd h
      refine va_iald hx hb hK hP 13 0 mw_13 rfl (k_rd e8).1 dX11_wills_34 ?_
      refine lv_nmi (k_rd e8).2 ?_
      refine lv_iload_n hx hb dX11_wills_35 rfl (lv_at hl 2 rfl) ?_
      refine rd_calli (va_runS (As := [.int v7, .int x1]) (rest := []) C0.1 (kX11_has l v7 x1) (wX11_wills_X11_has hts ⟨Nat.le_of_ble_eq_true rfl, Nat.le_of_ble_eq_true rfl⟩) ⟨PT.blind, fun _ _ _ => ⟨rfl, trivial⟩⟩ rfl rfl hl.1 rfl (lv_room (Nat.le_of_ble_eq_true rfl)) dX11_wills_36 ⟨Nat.zero_le _, Nat.zero_le _⟩) ?_
      refine lv_if_ne (tgt := 47) hx hb dX11_wills_39 (by decide) (fun c39 => ?_) (fun c39 => ?_)
      · replace h := k_in c39 h
        refine lv_bipush (v := (-2)) hx hb dX11_wills_47 (by decide) ?_
        obtain rfl := k_sm h
        exact W.iret hx hb hr (fun t ht hW => ⟨⟨_, _, rfl, ⟨rfl, rfl⟩, pw_end ht hP⟩, hS.F ht⟩) hS.2.2 dX11_wills_49
      · replace h := k_ip c39 h
        refine lv_iload_n hx hb dX11_wills_42 rfl (lv_at hl 0 rfl) ?_
        refine lv_iload_n hx hb dX11_wills_43 rfl (lv_at hl 3 rfl) ?_
        refine lv_icmp_ne (tgt := 50) hx hb dX11_wills_44 (by decide) (fun c44 => ?_) (fun c44 => ?_)
        · replace h := k_in c44 h
          refine lv_aload_n hx hb dX11_wills_50 rfl (lv_at hl 1 rfl) ?_
          obtain ⟨u9, e10, h⟩ := k_bd h
          refine wr_callv (va_runV (As := []) (rest := []) C0.1 (kX11_know l (D := D) (cI := cI) (cB := cB) (cZ := cZ) (τ := τ) hap σ  _ e10) (wX11_wills_X11_know hts ⟨Nat.le_of_ble_eq_true rfl, Nat.le_of_ble_eq_true rfl⟩) ⟨PW.blind, mw_r0 hK hP, PW.mk hP hK hN⟩ rfl rfl hl.1 rfl (lv_room (Nat.le_of_ble_eq_true rfl)) dX11_wills_51 ⟨Nat.zero_le _, Nat.zero_le _⟩) hS (fun _ h => h) (fun H locs hP hS => ?_)
          have hP : va_P D vwCl (MW cI cB cZ am τ u9) H := hP
          refine lv_aload_n hx hb dX11_wills_54 rfl (lv_at hl 1 rfl) ?_
          refine va_get (D := D) (ci := 11) (v := .ref (am 13)) (C := RX11) (T := TX11) (N := 30) hx hb hts iX11_wills_X11 hown hK hP 0 mw_0 rfl 19 (by decide) (hts (.fieldLink RX11 47 RX11 "now" "[I") (by decide +kernel)) (fun _ h9 => h9) rfl dX11_wills_55 ?_
          refine lv_bipush (v := 33) hx hb dX11_wills_58 (by decide) ?_
          refine lv_iload_n hx hb dX11_wills_60 rfl (lv_at hl 2 rfl) ?_
          refine lv_iadd hx hb dX11_wills_61 ?_
          refine lv_iload_n hx hb dX11_wills_62 rfl (lv_at hl 3 rfl) ?_
          obtain ⟨σ11, e12, h⟩ := k_bd h
          refine va_iast hx hb hK hP (mw_D hap) hS 13 0 mw_13 rfl (k_wr e12).1 dX11_wills_63 (fun H locs hP _ hS => ?_)
          have hP := mw_s13 hP
          rw [(k_wr e12).2] at hP
          refine lv_iload_n hx hb dX11_wills_64 rfl (lv_at hl 0 rfl) ?_
          obtain rfl := k_sm h
          exact W.iret hx hb hr (fun t ht hW => ⟨⟨_, _, rfl, ⟨rfl, rfl⟩, pw_end ht hP⟩, hS.F ht⟩) hS.2.2 dX11_wills_65
        · replace h := k_ip c44 h
          refine lv_bipush (v := (-2)) hx hb dX11_wills_47 (by decide) ?_
          obtain rfl := k_sm h
          exact W.iret hx hb hr (fun t ht hW => ⟨⟨_, _, rfl, ⟨rfl, rfl⟩, pw_end ht hP⟩, hS.F ht⟩) hS.2.2 dX11_wills_49
    · replace h := k_ip c13 h
      refine lv_iconst (v := (-1)) hx hb dX11_wills_16 (by decide) ?_
      obtain rfl := k_sm h
      exact W.iret hx hb hr (fun t ht hW => ⟨⟨_, _, rfl, ⟨rfl, rfl⟩, pw_end ht hP⟩, hS.F ht⟩) hS.2.2 dX11_wills_17
set_option maxHeartbeats 4000000 in
set_option maxRecDepth 100000 in
theorem bX11_year_L8 {p : Program} {l : Launch} {e : Env} {s : State} {m : MethodId} {args : Array Value} {below : List Frame} {meth : Method} {c : Code} {Q : State → Prop} {D : va_G} {cI cB cZ : ClassId} {am : Nat → Nat} (C0 : Cx p s m args meth c cX11_year 3 (some .int) RX11 wsX11_year) (hK : va_K D vwCl (tysA cI cB cZ) s) (hN : NW s) (hap : mwX am) {τ : Int64}  : ∀ (n : Nat) (x1 : Int32) (x2 : Int32) (σ : Sg) (v : (Int32 × Sg)) (H : Heap) (locs : List Loc) (ls : Array Slot), va_P D vwCl (MW cI cB cZ am τ σ) H → va_S (mwA am) s.heap H locs → lv_has ls 3 [(0, .ref (am 0)), (1, .int x1), (2, .int x2)] → pX11_year_L8  n x1 x2 σ = some v → (∀ (H1 : Heap) (locs1 : List Loc) (ls1 : Array Slot), va_P D vwCl (MW cI cB cZ am τ v.2) H1 → va_S (mwA am) s.heap H1 locs1 → lv_has ls1 3 [(1, .int v.1)] → W p l e rmX11_year s m args below meth c H1 locs1 0 0 Q (F0 m 87 ls1 [])) → W p l e rmX11_year s m args below meth c H locs 0 0 Q (F0 m 8 ls []) := by
  obtain ⟨⟨hx, hb, hml, hown, hts⟩, hr, hlk⟩ := id C0
  intro n
  induction n with
  | zero =>
    intro x1 x2 σ v H locs ls hP hS hl h kk
    exact absurd h (by simp [pX11_year_L8])
  | succ n ih =>
    intro x1 x2 σ v H locs ls hP hS hl h kk
    rw [pX11_year_L8] at h
    refine lv_iload_n hx hb dX11_year_8 rfl (lv_at hl 2 rfl) ?_
    refine lv_aload_n hx hb dX11_year_9 rfl (lv_at hl 0 rfl) ?_
    refine va_get (D := D) (ci := 11) (v := .ref (am 7)) (C := RX11) (T := TX11) (N := 30) hx hb hts iX11_year_X11 hown hK hP 0 mw_0 rfl 7 (by decide) (hts (.fieldLink RX11 29 RX11 "anchors" "[I") (by decide +kernel)) (fun _ h9 => h9) rfl dX11_year_10 ?_
    refine lv_iconst (v := 0) hx hb dX11_year_13 (by decide) ?_
    obtain ⟨v3, e4, h⟩ := k_bd h
    refine va_iald hx hb hK hP 7 0 mw_7 rfl (k_rd e4).1 dX11_year_14 ?_
    refine lv_nmi (k_rd e4).2 ?_
    refine lv_icmp_ge (tgt := 87) hx hb dX11_year_15 (by decide) (fun c15 => ?_) (fun c15 => ?_)
    · replace h := k_ip c15 h
      obtain rfl := k_sm h
      exact kk _ _ _ hP hS (lv_sub hl [1] rfl)
    · replace h := k_in c15 h
      refine lv_aload_n hx hb dX11_year_18 rfl (lv_at hl 0 rfl) ?_
      refine va_get (D := D) (ci := 11) (v := .ref (am 13)) (C := RX11) (T := TX11) (N := 30) hx hb hts iX11_year_X11 hown hK hP 0 mw_0 rfl 19 (by decide) (hts (.fieldLink RX11 47 RX11 "now" "[I") (by decide +kernel)) (fun _ h9 => h9) rfl dX11_year_19 ?_
      refine lv_bipush (v := 16) hx hb dX11_year_22 (by decide) ?_
      refine lv_iload_n hx hb dX11_year_24 rfl (lv_at hl 2 rfl) ?_
      refine lv_iadd hx hb dX11_year_25 ?_
      refine lv_dup2_11 hx hb dX11_year_26 rfl rfl ?_
      obtain ⟨v5, e6, h⟩ := k_bd h
      refine va_iald hx hb hK hP 13 0 mw_13 rfl (k_rd e6).1 dX11_year_27 ?_
      refine lv_nmi (k_rd e6).2 ?_
      refine lv_aload_n hx hb dX11_year_28 rfl (lv_at hl 0 rfl) ?_
      refine lv_iload_n hx hb dX11_year_29 rfl (lv_at hl 2 rfl) ?_
      obtain ⟨v7, e8, h⟩ := k_bd h
      refine rd_calli (va_runV (As := [.int x2]) (rest := [.int v5, .int (16 + x2), .ref (am 13)]) C0.1 (kX11_isLying l (D := D) (cI := cI) (cB := cB) (cZ := cZ) (am := am) (τ := τ) σ x2 _ e8) (wX11_year_X11_isLying hts ⟨Nat.le_of_ble_eq_true rfl, Nat.le_of_ble_eq_true rfl⟩) ⟨PW.blind, mw_r0 hK hP, PW.mk hP hK hN⟩ rfl rfl hl.1 rfl (lv_room (Nat.le_of_ble_eq_true rfl)) dX11_year_30 ⟨Nat.zero_le _, Nat.zero_le _⟩) ?_
      obtain ⟨j9, e12, h⟩ := k_bd h
      have key : ∀ (H : Heap) (locs : List Loc) (ls : Array Slot), va_P D vwCl (MW cI cB cZ am τ σ) H → va_S (mwA am) s.heap H locs → lv_has ls 3 [(0, .ref (am 0)), (1, .int x1), (2, .int x2)] → W p l e rmX11_year s m args below meth c H locs 0 0 Q (F0 m 55 ls [.int j9, .int v5, .int (16 + x2), .ref (am 13)]) := by
        intro H locs ls hP hS hl
        refine lv_iadd hx hb dX11_year_55 ?_
        obtain ⟨σ13, e14, h⟩ := k_bd h
        refine va_iast hx hb hK hP (mw_D hap) hS 13 0 mw_13 rfl (k_wr e14).1 dX11_year_56 (fun H locs hP _ hS => ?_)
        have hP := mw_s13 hP
        rw [(k_wr e14).2] at hP
        refine lv_iload_n hx hb dX11_year_57 rfl (lv_at hl 1 rfl) ?_
        refine lv_aload_n hx hb dX11_year_58 rfl (lv_at hl 0 rfl) ?_
        refine lv_iload_n hx hb dX11_year_59 rfl (lv_at hl 2 rfl) ?_
        obtain ⟨v15, e16, h⟩ := k_bd h
        refine rd_calli (va_runV (As := [.int x2]) (rest := [.int x1]) C0.1 (kX11_isLying l (D := D) (cI := cI) (cB := cB) (cZ := cZ) (am := am) (τ := τ) σ13 x2 _ e16) (wX11_year_X11_isLying hts ⟨Nat.le_of_ble_eq_true rfl, Nat.le_of_ble_eq_true rfl⟩) ⟨PW.blind, mw_r0 hK hP, PW.mk hP hK hN⟩ rfl rfl hl.1 rfl (lv_room (Nat.le_of_ble_eq_true rfl)) dX11_year_60 ⟨Nat.zero_le _, Nat.zero_le _⟩) ?_
        refine lv_if_eq (tgt := 78) hx hb dX11_year_63 (by decide) (fun c63 => ?_) (fun c63 => ?_)
        · replace h := k_ip c63 h
          refine lv_iconst (v := 0) hx hb dX11_year_78 (by decide) ?_
          refine lv_iadd hx hb dX11_year_79 ?_
          obtain ⟨v17, e18, h⟩ := k_bd h
          refine lv_nmi (k_sm e18) ?_
          refine lv_istore_n (lv' := [(1, .int v17), (0, .ref (am 0)), (2, .int x2)]) hx hb dX11_year_80 rfl hl (by decide) rfl (fun ls hl => ?_)
          refine lv_iinc (v := (x2 + 1)) (lv' := [(2, .int (x2 + 1)), (1, .int v17), (0, .ref (am 0))]) hx hb dX11_year_81 hl (k := 2) rfl rfl (by decide) rfl (fun ls hl => ?_)
          refine lv_goto (tgt := 8) hx hb dX11_year_84 (by decide) ?_
          exact ih v17 (x2 + 1) σ13 _ _ _ ls hP hS (lv_sub hl [2, 1, 0] rfl) h kk
        · replace h := k_in c63 h
          refine lv_aload_n hx hb dX11_year_66 rfl (lv_at hl 0 rfl) ?_
          refine va_get (D := D) (ci := 11) (v := .ref (am 13)) (C := RX11) (T := TX11) (N := 30) hx hb hts iX11_year_X11 hown hK hP 0 mw_0 rfl 19 (by decide) (hts (.fieldLink RX11 47 RX11 "now" "[I") (by decide +kernel)) (fun _ h9 => h9) rfl dX11_year_67 ?_
          refine lv_bipush (v := 16) hx hb dX11_year_70 (by decide) ?_
          refine lv_iload_n hx hb dX11_year_72 rfl (lv_at hl 2 rfl) ?_
          refine lv_iadd hx hb dX11_year_73 ?_
          obtain ⟨v19, e20, h⟩ := k_bd h
          refine va_iald hx hb hK hP 13 0 mw_13 rfl (k_rd e20).1 dX11_year_74 ?_
          refine lv_nmi (k_rd e20).2 ?_
          refine lv_goto (tgt := 79) hx hb dX11_year_75 (by decide) ?_
          refine lv_iadd hx hb dX11_year_79 ?_
          obtain ⟨v21, e22, h⟩ := k_bd h
          refine lv_nmi (k_sm e22) ?_
          refine lv_istore_n (lv' := [(1, .int v21), (0, .ref (am 0)), (2, .int x2)]) hx hb dX11_year_80 rfl hl (by decide) rfl (fun ls hl => ?_)
          refine lv_iinc (v := (x2 + 1)) (lv' := [(2, .int (x2 + 1)), (1, .int v21), (0, .ref (am 0))]) hx hb dX11_year_81 hl (k := 2) rfl rfl (by decide) rfl (fun ls hl => ?_)
          refine lv_goto (tgt := 8) hx hb dX11_year_84 (by decide) ?_
          exact ih v21 (x2 + 1) σ13 _ _ _ ls hP hS (lv_sub hl [2, 1, 0] rfl) h kk
      clear h
      have h := e12
      clear e12
      refine lv_if_eq (tgt := 54) hx hb dX11_year_33 (by decide) (fun c33 => ?_) (fun c33 => ?_)
      · replace h := k_ip c33 h
        refine lv_iconst (v := 0) hx hb dX11_year_54 (by decide) ?_
        obtain rfl := k_sm h
        exact key _ _ _ hP hS (lv_sub hl [0, 1, 2] rfl)
      · replace h := k_in c33 h
        refine lv_aload_n hx hb dX11_year_36 rfl (lv_at hl 0 rfl) ?_
        refine va_get (D := D) (ci := 11) (v := .ref (am 13)) (C := RX11) (T := TX11) (N := 30) hx hb hts iX11_year_X11 hown hK hP 0 mw_0 rfl 19 (by decide) (hts (.fieldLink RX11 47 RX11 "now" "[I") (by decide +kernel)) (fun _ h9 => h9) rfl dX11_year_37 ?_
        refine lv_bipush (v := 16) hx hb dX11_year_40 (by decide) ?_
        refine lv_iload_n hx hb dX11_year_42 rfl (lv_at hl 2 rfl) ?_
        refine lv_iadd hx hb dX11_year_43 ?_
        obtain ⟨v10, e11, h⟩ := k_bd h
        refine va_iald hx hb hK hP 13 0 mw_13 rfl (k_rd e11).1 dX11_year_44 ?_
        refine lv_nmi (k_rd e11).2 ?_
        refine lv_bipush (v := 99) hx hb dX11_year_45 (by decide) ?_
        refine lv_icmp_ge (tgt := 54) hx hb dX11_year_47 (by decide) (fun c47 => ?_) (fun c47 => ?_)
        · replace h := k_ip c47 h
          refine lv_iconst (v := 0) hx hb dX11_year_54 (by decide) ?_
          obtain rfl := k_sm h
          exact key _ _ _ hP hS (lv_sub hl [0, 1, 2] rfl)
        · replace h := k_in c47 h
          refine lv_iconst (v := 1) hx hb dX11_year_50 (by decide) ?_
          refine lv_goto (tgt := 55) hx hb dX11_year_51 (by decide) ?_
          obtain rfl := k_sm h
          exact key _ _ _ hP hS (lv_sub hl [0, 1, 2] rfl)
set_option maxHeartbeats 4000000 in
set_option maxRecDepth 100000 in
theorem kX11_year (l : Launch) {D : va_G} {cI cB cZ : ClassId} {am : Nat → Nat} {τ : Int64} (hap : mwX am) (σ : Sg) (o : (Int32 × Sg)) (h : pX11_year σ = some o) : Met l yX11_year wsX11_year rmX11_year (va_Pc [.ref (am 0)] (PW D cI cB cZ (MW cI cB cZ am τ σ))) (QI D (MW cI cB cZ am τ) (mwA am) o.1 o.2) 0 0 (mwA am) := by
  refine Met.ofW (cc := cX11_year) (maxL := 3) (ret := (some .int)) (by decide) rfl ?_
  intro p e s m args below meth c s₁ B hml hv
  obtain ⟨rfl, hP, hK, hN⟩ := hv
  have C0 : Cx p s m _ meth c cX11_year 3 (some .int) RX11 wsX11_year := ⟨⟨B.exec, B.bytes, hml, findClass_of_methodNamed B.named, atoms_spec B.pre⟩, B.returns, B.notSynchronized⟩
  obtain ⟨⟨hx, hb, -, hown, hts⟩, hr, hlk⟩ := id C0
  have hS : va_S (mwA am) s.heap s.heap [] := va_S.rf
  have hl := lv_entry ([.ref (am 0)]) (n := 3) (Nat.le_of_ble_eq_true rfl)
  rw [lg_entry_eq]
  generalize (lg_sl ([.ref (am 0)]) ++ List.replicate (3 - (lg_sl ([.ref (am 0)])).length) Slot.unset).toArray = ls at hl ⊢
  have hl : lv_has ls 3 [(0, .ref (am 0))] := hl
  rw [pX11_year] at h
  refine lv_aload_n hx hb dX11_year_0 rfl (lv_at hl 0 rfl) ?_
  obtain ⟨u1, e2, h⟩ := k_bd h
  refine wr_callv (va_runV (As := []) (rest := []) C0.1 (kX11_know l (D := D) (cI := cI) (cB := cB) (cZ := cZ) (τ := τ) hap σ  _ e2) (wX11_year_X11_know hts ⟨Nat.le_of_ble_eq_true rfl, Nat.le_of_ble_eq_true rfl⟩) ⟨PW.blind, mw_r0 hK hP, PW.mk hP hK hN⟩ rfl rfl hl.1 rfl (lv_room (Nat.le_of_ble_eq_true rfl)) dX11_year_1 ⟨Nat.zero_le _, Nat.zero_le _⟩) hS (fun _ h => h) (fun H locs hP hS => ?_)
  have hP : va_P D vwCl (MW cI cB cZ am τ u1) H := hP
  refine lv_iconst (v := 0) hx hb dX11_year_4 (by decide) ?_
  refine lv_istore_n (lv' := [(1, .int 0), (0, .ref (am 0))]) hx hb dX11_year_5 rfl hl (by decide) rfl (fun ls hl => ?_)
  refine lv_iconst (v := 0) hx hb dX11_year_6 (by decide) ?_
  refine lv_istore_n (lv' := [(2, .int 0), (1, .int 0), (0, .ref (am 0))]) hx hb dX11_year_7 rfl hl (by decide) rfl (fun ls hl => ?_)
  obtain ⟨w23, e24, h⟩ := k_bd h
  refine bX11_year_L8 C0 hK hN hap  2000 0 0 u1 _ _ _ ls hP hS (lv_sub hl [2, 1, 0] rfl) e24 (fun H locs ls hP hS hl => ?_)
  refine lv_iload_n hx hb dX11_year_87 rfl (lv_at hl 0 rfl) ?_
  obtain rfl := k_sm h
  exact W.iret hx hb hr (fun t ht hW => ⟨⟨_, _, rfl, ⟨rfl, rfl⟩, pw_end ht hP⟩, hS.F ht⟩) hS.2.2 dX11_year_88
set_option maxHeartbeats 4000000 in
set_option maxRecDepth 100000 in
theorem bX11_hauls_L44 {p : Program} {l : Launch} {e : Env} {s : State} {m : MethodId} {args : Array Value} {below : List Frame} {meth : Method} {c : Code} {Q : State → Prop} {D : va_G} {cI cB cZ : ClassId} {am : Nat → Nat} (C0 : Cx p s m args meth c cX11_hauls 6 (some .int) RX11 wsX11_hauls) (hK : va_K D vwCl (tysA cI cB cZ) s) (hN : NW s) (hap : mwX am) {τ : Int64} {σ : Sg} (x1 : Int32) (x2 : Int32) : ∀ (n : Nat) (x3 : Int32) (x4 : Int32) (v : Int32) (H : Heap) (locs : List Loc) (ls : Array Slot), va_P D vwCl (MW cI cB cZ am τ σ) H → va_S (mwA am) s.heap H locs → lv_has ls 6 [(0, .ref (am 0)), (1, .int x1), (2, .int x2), (3, .int x3), (4, .int x4)] → pX11_hauls_L44 σ x1 x2 n x3 x4 = some v → (∀ (H1 : Heap) (locs1 : List Loc) (ls1 : Array Slot), va_P D vwCl (MW cI cB cZ am τ σ) H1 → va_S (mwA am) s.heap H1 locs1 → lv_has ls1 6 [(0, .ref (am 0)), (1, .int x1), (2, .int x2), (3, .int v)] → W p l e rmX11_hauls s m args below meth c H1 locs1 0 0 Q (F0 m 133 ls1 [])) → W p l e rmX11_hauls s m args below meth c H locs 0 0 Q (F0 m 44 ls []) := by
  obtain ⟨⟨hx, hb, hml, hown, hts⟩, hr, hlk⟩ := id C0
  intro n
  induction n with
  | zero =>
    intro x3 x4 v H locs ls hP hS hl h kk
    exact absurd h (by simp [pX11_hauls_L44])
  | succ n ih =>
    intro x3 x4 v H locs ls hP hS hl h kk
    rw [pX11_hauls_L44] at h
    refine lv_iload hx hb dX11_hauls_44 (lv_at hl 4 rfl) ?_
    refine lv_aload_n hx hb dX11_hauls_46 rfl (lv_at hl 0 rfl) ?_
    refine va_get (D := D) (ci := 11) (v := .ref (am 7)) (C := RX11) (T := TX11) (N := 30) hx hb hts iX11_hauls_X11 hown hK hP 0 mw_0 rfl 7 (by decide) (hts (.fieldLink RX11 29 RX11 "anchors" "[I") (by decide +kernel)) (fun _ h9 => h9) rfl dX11_hauls_47 ?_
    refine lv_iconst (v := 0) hx hb dX11_hauls_50 (by decide) ?_
    obtain ⟨v7, e8, h⟩ := k_bd h
    refine va_iald hx hb hK hP 7 0 mw_7 rfl (k_rd e8).1 dX11_hauls_51 ?_
    refine lv_nmi (k_rd e8).2 ?_
    refine lv_icmp_ge (tgt := 133) hx hb dX11_hauls_52 (by decide) (fun c52 => ?_) (fun c52 => ?_)
    · replace h := k_ip c52 h
      obtain rfl := k_sm h
      exact kk _ _ _ hP hS (lv_sub hl [0, 1, 2, 3] rfl)
    · replace h := k_in c52 h
      refine lv_aload_n hx hb dX11_hauls_55 rfl (lv_at hl 0 rfl) ?_
      refine lv_iload hx hb dX11_hauls_56 (lv_at hl 4 rfl) ?_
      obtain ⟨v9, e10, h⟩ := k_bd h
      refine rd_calli (va_runV (As := [.int x4]) (rest := []) C0.1 (kX11_isLying l (D := D) (cI := cI) (cB := cB) (cZ := cZ) (am := am) (τ := τ) σ x4 _ e10) (wX11_hauls_X11_isLying hts ⟨Nat.le_of_ble_eq_true rfl, Nat.le_of_ble_eq_true rfl⟩) ⟨PW.blind, mw_r0 hK hP, PW.mk hP hK hN⟩ rfl rfl hl.1 rfl (lv_room (Nat.le_of_ble_eq_true rfl)) dX11_hauls_58 ⟨Nat.zero_le _, Nat.zero_le _⟩) ?_
      obtain ⟨j11, e16, h⟩ := k_bd h
      have key : ∀ (H : Heap) (locs : List Loc) (ls : Array Slot), va_P D vwCl (MW cI cB cZ am τ σ) H → va_S (mwA am) s.heap H locs → lv_has ls 6 [(0, .ref (am 0)), (1, .int x1), (2, .int x2), (3, .int x3), (4, .int x4)] → W p l e rmX11_hauls s m args below meth c H locs 0 0 Q (F0 m 89 ls [.int j11]) := by
        intro H locs ls hP hS hl
        refine lv_istore (lv' := [(5, .int j11), (0, .ref (am 0)), (1, .int x1), (2, .int x2), (3, .int x3), (4, .int x4)]) hx hb dX11_hauls_89 hl (by decide) rfl (fun ls hl => ?_)
        refine lv_iload_n hx hb dX11_hauls_91 rfl (lv_at hl 4 rfl) ?_
        refine lv_if_eq (tgt := 125) hx hb dX11_hauls_92 (by decide) (fun c92 => ?_) (fun c92 => ?_)
        · replace h := k_ip c92 h
          refine lv_iconst (v := 0) hx hb dX11_hauls_125 (by decide) ?_
          refine lv_istore_n (lv' := [(3, .int 0), (5, .int j11), (0, .ref (am 0)), (1, .int x1), (2, .int x2), (4, .int x4)]) hx hb dX11_hauls_126 rfl hl (by decide) rfl (fun ls hl => ?_)
          refine lv_iinc (v := (x4 + 1)) (lv' := [(4, .int (x4 + 1)), (3, .int 0), (5, .int j11), (0, .ref (am 0)), (1, .int x1), (2, .int x2)]) hx hb dX11_hauls_127 hl (k := 5) rfl rfl (by decide) rfl (fun ls hl => ?_)
          refine lv_goto (tgt := 44) hx hb dX11_hauls_130 (by decide) ?_
          exact ih 0 (x4 + 1) _ _ _ ls hP hS (lv_sub hl [3, 4, 5, 1, 0] rfl) h kk
        · replace h := k_in c92 h
          refine lv_iload hx hb dX11_hauls_95 (lv_at hl 0 rfl) ?_
          refine lv_if_eq (tgt := 121) hx hb dX11_hauls_97 (by decide) (fun c97 => ?_) (fun c97 => ?_)
          · replace h := k_ip c97 h
            refine lv_iconst (v := 1) hx hb dX11_hauls_121 (by decide) ?_
            refine lv_goto (tgt := 126) hx hb dX11_hauls_122 (by decide) ?_
            refine lv_istore_n (lv' := [(3, .int 1), (5, .int j11), (0, .ref (am 0)), (1, .int x1), (2, .int x2), (4, .int x4)]) hx hb dX11_hauls_126 rfl hl (by decide) rfl (fun ls hl => ?_)
            refine lv_iinc (v := (x4 + 1)) (lv' := [(4, .int (x4 + 1)), (3, .int 1), (5, .int j11), (0, .ref (am 0)), (1, .int x1), (2, .int x2)]) hx hb dX11_hauls_127 hl (k := 5) rfl rfl (by decide) rfl (fun ls hl => ?_)
            refine lv_goto (tgt := 44) hx hb dX11_hauls_130 (by decide) ?_
            exact ih 1 (x4 + 1) _ _ _ ls hP hS (lv_sub hl [3, 4, 5, 1, 0] rfl) h kk
          · replace h := k_in c97 h
            refine lv_aload_n hx hb dX11_hauls_100 rfl (lv_at hl 1 rfl) ?_
            refine lv_iload hx hb dX11_hauls_101 (lv_at hl 5 rfl) ?_
            obtain ⟨v17, e18, h⟩ := k_bd h
            refine rd_calli (va_runV (As := [.int x4]) (rest := []) C0.1 (kX11_whose l (D := D) (cI := cI) (cB := cB) (cZ := cZ) (am := am) (τ := τ) σ x4 _ e18) (wX11_hauls_X11_whose hts ⟨Nat.le_of_ble_eq_true rfl, Nat.le_of_ble_eq_true rfl⟩) ⟨PW.blind, mw_r0 hK hP, PW.mk hP hK hN⟩ rfl rfl hl.1 rfl (lv_room (Nat.le_of_ble_eq_true rfl)) dX11_hauls_103 ⟨Nat.zero_le _, Nat.zero_le _⟩) ?_
            refine lv_iload_n hx hb dX11_hauls_106 rfl (lv_at hl 2 rfl) ?_
            refine lv_icmp_eq (tgt := 121) hx hb dX11_hauls_107 (by decide) (fun c107 => ?_) (fun c107 => ?_)
            · replace h := k_ip c107 h
              refine lv_iconst (v := 1) hx hb dX11_hauls_121 (by decide) ?_
              refine lv_goto (tgt := 126) hx hb dX11_hauls_122 (by decide) ?_
              refine lv_istore_n (lv' := [(3, .int 1), (5, .int j11), (0, .ref (am 0)), (1, .int x1), (2, .int x2), (4, .int x4)]) hx hb dX11_hauls_126 rfl hl (by decide) rfl (fun ls hl => ?_)
              refine lv_iinc (v := (x4 + 1)) (lv' := [(4, .int (x4 + 1)), (3, .int 1), (5, .int j11), (0, .ref (am 0)), (1, .int x1), (2, .int x2)]) hx hb dX11_hauls_127 hl (k := 5) rfl rfl (by decide) rfl (fun ls hl => ?_)
              refine lv_goto (tgt := 44) hx hb dX11_hauls_130 (by decide) ?_
              exact ih 1 (x4 + 1) _ _ _ ls hP hS (lv_sub hl [3, 4, 5, 1, 0] rfl) h kk
            · replace h := k_in c107 h
              refine lv_aload_n hx hb dX11_hauls_110 rfl (lv_at hl 1 rfl) ?_
              refine lv_iload hx hb dX11_hauls_111 (lv_at hl 5 rfl) ?_
              obtain ⟨v19, e20, h⟩ := k_bd h
              refine rd_calli (va_runV (As := [.int x4]) (rest := []) C0.1 (kX11_whose l (D := D) (cI := cI) (cB := cB) (cZ := cZ) (am := am) (τ := τ) σ x4 _ e20) (wX11_hauls_X11_whose hts ⟨Nat.le_of_ble_eq_true rfl, Nat.le_of_ble_eq_true rfl⟩) ⟨PW.blind, mw_r0 hK hP, PW.mk hP hK hN⟩ rfl rfl hl.1 rfl (lv_room (Nat.le_of_ble_eq_true rfl)) dX11_hauls_113 ⟨Nat.zero_le _, Nat.zero_le _⟩) ?_
              refine lv_bipush (v := (-9)) hx hb dX11_hauls_116 (by decide) ?_
              refine lv_icmp_ne (tgt := 125) hx hb dX11_hauls_118 (by decide) (fun c118 => ?_) (fun c118 => ?_)
              · replace h := k_in c118 h
                refine lv_iconst (v := 0) hx hb dX11_hauls_125 (by decide) ?_
                refine lv_istore_n (lv' := [(3, .int 0), (5, .int j11), (0, .ref (am 0)), (1, .int x1), (2, .int x2), (4, .int x4)]) hx hb dX11_hauls_126 rfl hl (by decide) rfl (fun ls hl => ?_)
                refine lv_iinc (v := (x4 + 1)) (lv' := [(4, .int (x4 + 1)), (3, .int 0), (5, .int j11), (0, .ref (am 0)), (1, .int x1), (2, .int x2)]) hx hb dX11_hauls_127 hl (k := 5) rfl rfl (by decide) rfl (fun ls hl => ?_)
                refine lv_goto (tgt := 44) hx hb dX11_hauls_130 (by decide) ?_
                exact ih 0 (x4 + 1) _ _ _ ls hP hS (lv_sub hl [3, 4, 5, 1, 0] rfl) h kk
              · replace h := k_ip c118 h
                refine lv_iconst (v := 1) hx hb dX11_hauls_121 (by decide) ?_
                refine lv_goto (tgt := 126) hx hb dX11_hauls_122 (by decide) ?_
                refine lv_istore_n (lv' := [(3, .int 1), (5, .int j11), (0, .ref (am 0)), (1, .int x1), (2, .int x2), (4, .int x4)]) hx hb dX11_hauls_126 rfl hl (by decide) rfl (fun ls hl => ?_)
                refine lv_iinc (v := (x4 + 1)) (lv' := [(4, .int (x4 + 1)), (3, .int 1), (5, .int j11), (0, .ref (am 0)), (1, .int x1), (2, .int x2)]) hx hb dX11_hauls_127 hl (k := 5) rfl rfl (by decide) rfl (fun ls hl => ?_)
                refine lv_goto (tgt := 44) hx hb dX11_hauls_130 (by decide) ?_
                exact ih 1 (x4 + 1) _ _ _ ls hP hS (lv_sub hl [3, 4, 5, 1, 0] rfl) h kk
      clear h
      have h := e16
      clear e16
      refine lv_if_eq (tgt := 88) hx hb dX11_hauls_61 (by decide) (fun c61 => ?_) (fun c61 => ?_)
      · replace h := k_ip c61 h
        refine lv_iconst (v := 0) hx hb dX11_hauls_88 (by decide) ?_
        obtain rfl := k_sm h
        exact key _ _ _ hP hS (lv_sub hl [0, 1, 2, 3, 4] rfl)
      · replace h := k_in c61 h
        refine lv_aload_n hx hb dX11_hauls_64 rfl (lv_at hl 0 rfl) ?_
        refine va_get (D := D) (ci := 11) (v := .ref (am 13)) (C := RX11) (T := TX11) (N := 30) hx hb hts iX11_hauls_X11 hown hK hP 0 mw_0 rfl 19 (by decide) (hts (.fieldLink RX11 47 RX11 "now" "[I") (by decide +kernel)) (fun _ h9 => h9) rfl dX11_hauls_65 ?_
        refine lv_iconst (v := 0) hx hb dX11_hauls_68 (by decide) ?_
        refine lv_iload hx hb dX11_hauls_69 (lv_at hl 4 rfl) ?_
        refine lv_iadd hx hb dX11_hauls_71 ?_
        obtain ⟨v12, e13, h⟩ := k_bd h
        refine va_iald hx hb hK hP 13 0 mw_13 rfl (k_rd e13).1 dX11_hauls_72 ?_
        refine lv_nmi (k_rd e13).2 ?_
        refine lv_aload_n hx hb dX11_hauls_73 rfl (lv_at hl 0 rfl) ?_
        refine va_get (D := D) (ci := 11) (v := .ref (am 13)) (C := RX11) (T := TX11) (N := 30) hx hb hts iX11_hauls_X11 hown hK hP 0 mw_0 rfl 19 (by decide) (hts (.fieldLink RX11 47 RX11 "now" "[I") (by decide +kernel)) (fun _ h9 => h9) rfl dX11_hauls_74 ?_
        refine lv_iconst (v := 0) hx hb dX11_hauls_77 (by decide) ?_
        refine lv_iload_n hx hb dX11_hauls_78 rfl (lv_at hl 2 rfl) ?_
        refine lv_iadd hx hb dX11_hauls_79 ?_
        obtain ⟨v14, e15, h⟩ := k_bd h
        refine va_iald hx hb hK hP 13 0 mw_13 rfl (k_rd e15).1 dX11_hauls_80 ?_
        refine lv_nmi (k_rd e15).2 ?_
        refine lv_icmp_ne (tgt := 88) hx hb dX11_hauls_81 (by decide) (fun c81 => ?_) (fun c81 => ?_)
        · replace h := k_in c81 h
          refine lv_iconst (v := 0) hx hb dX11_hauls_88 (by decide) ?_
          obtain rfl := k_sm h
          exact key _ _ _ hP hS (lv_sub hl [0, 1, 2, 3, 4] rfl)
        · replace h := k_ip c81 h
          refine lv_iconst (v := 1) hx hb dX11_hauls_84 (by decide) ?_
          refine lv_goto (tgt := 89) hx hb dX11_hauls_85 (by decide) ?_
          obtain rfl := k_sm h
          exact key _ _ _ hP hS (lv_sub hl [0, 1, 2, 3, 4] rfl)
set_option maxHeartbeats 4000000 in
set_option maxRecDepth 100000 in
theorem kX11_hauls (l : Launch) {D : va_G} {cI cB cZ : ClassId} {am : Nat → Nat} {τ : Int64} (hap : mwX am) (σ : Sg) (x1 : Int32) (x2 : Int32) (o : (Int32 × Sg)) (h : pX11_hauls σ x1 x2 = some o) : Met l yX11_hauls wsX11_hauls rmX11_hauls (va_Pc [.ref (am 0), .int x1, .int x2] (PW D cI cB cZ (MW cI cB cZ am τ σ))) (QI D (MW cI cB cZ am τ) (mwA am) o.1 o.2) 0 0 (mwA am) := by
  refine Met.ofW (cc := cX11_hauls) (maxL := 6) (ret := (some .int)) (by decide) rfl ?_
  intro p e s m args below meth c s₁ B hml hv
  obtain ⟨rfl, hP, hK, hN⟩ := hv
  have C0 : Cx p s m _ meth c cX11_hauls 6 (some .int) RX11 wsX11_hauls := ⟨⟨B.exec, B.bytes, hml, findClass_of_methodNamed B.named, atoms_spec B.pre⟩, B.returns, B.notSynchronized⟩
  obtain ⟨⟨hx, hb, -, hown, hts⟩, hr, hlk⟩ := id C0
  have hS : va_S (mwA am) s.heap s.heap [] := va_S.rf
  have hl := lv_entry ([.ref (am 0), .int x1, .int x2]) (n := 6) (Nat.le_of_ble_eq_true rfl)
  rw [lg_entry_eq]
  generalize (lg_sl ([.ref (am 0), .int x1, .int x2]) ++ List.replicate (6 - (lg_sl ([.ref (am 0), .int x1, .int x2])).length) Slot.unset).toArray = ls at hl ⊢
  have hl : lv_has ls 6 [(0, .ref (am 0)), (1, .int x1), (2, .int x2)] := hl
  rw [pX11_hauls] at h
  refine lv_aload_n hx hb dX11_hauls_0 rfl (lv_at hl 0 rfl) ?_
  refine lv_iload_n hx hb dX11_hauls_1 rfl (lv_at hl 1 rfl) ?_
  obtain ⟨v1, e2, h⟩ := k_bd h
  refine rd_calli (va_runV (As := [.int x1]) (rest := []) C0.1 (kX11_isRaft l (D := D) (cI := cI) (cB := cB) (cZ := cZ) (am := am) (τ := τ) σ x1 _ e2) (wX11_hauls_X11_isRaft hts ⟨Nat.le_of_ble_eq_true rfl, Nat.le_of_ble_eq_true rfl⟩) ⟨PW.blind, mw_r0 hK hP, PW.mk hP hK hN⟩ rfl rfl hl.1 rfl (lv_room (Nat.le_of_ble_eq_true rfl)) dX11_hauls_2 ⟨Nat.zero_le _, Nat.zero_le _⟩) ?_
  refine lv_if_eq (tgt := 16) hx hb dX11_hauls_5 (by decide) (fun c5 => ?_) (fun c5 => ?_)
  · replace h := k_ip c5 h
    refine lv_iconst (v := (-1)) hx hb dX11_hauls_16 (by decide) ?_
    obtain rfl := k_sm h
    exact W.iret hx hb hr (fun t ht hW => ⟨⟨_, _, rfl, ⟨rfl, rfl⟩, pw_end ht hP⟩, hS.F ht⟩) hS.2.2 dX11_hauls_17
  · replace h := k_in c5 h
    refine lv_aload_n hx hb dX11_hauls_8 rfl (lv_at hl 0 rfl) ?_
    refine lv_iload_n hx hb dX11_hauls_9 rfl (lv_at hl 2 rfl) ?_
    obtain ⟨v3, e4, h⟩ := k_bd h
    refine rd_calli (va_runV (As := [.int x2]) (rest := []) C0.1 (kX11_isAnchor l (D := D) (cI := cI) (cB := cB) (cZ := cZ) (am := am) (τ := τ) σ x2 _ e4) (wX11_hauls_X11_isAnchor hts ⟨Nat.le_of_ble_eq_true rfl, Nat.le_of_ble_eq_true rfl⟩) ⟨PW.blind, mw_r0 hK hP, PW.mk hP hK hN⟩ rfl rfl hl.1 rfl (lv_room (Nat.le_of_ble_eq_true rfl)) dX11_hauls_10 ⟨Nat.zero_le _, Nat.zero_le _⟩) ?_
    refine lv_if_ne (tgt := 18) hx hb dX11_hauls_13 (by decide) (fun c13 => ?_) (fun c13 => ?_)
    · replace h := k_in c13 h
      refine lv_aload_n hx hb dX11_hauls_18 rfl (lv_at hl 0 rfl) ?_
      refine lv_iload_n hx hb dX11_hauls_19 rfl (lv_at hl 2 rfl) ?_
      obtain ⟨v5, e6, h⟩ := k_bd h
      refine rd_calli (va_runV (As := [.int x2]) (rest := []) C0.1 (kX11_isLying l (D := D) (cI := cI) (cB := cB) (cZ := cZ) (am := am) (τ := τ) σ x2 _ e6) (wX11_hauls_X11_isLying hts ⟨Nat.le_of_ble_eq_true rfl, Nat.le_of_ble_eq_true rfl⟩) ⟨PW.blind, mw_r0 hK hP, PW.mk hP hK hN⟩ rfl rfl hl.1 rfl (lv_room (Nat.le_of_ble_eq_true rfl)) dX11_hauls_20 ⟨Nat.zero_le _, Nat.zero_le _⟩) ?_
      refine lv_if_eq (tgt := 39) hx hb dX11_hauls_23 (by decide) (fun c23 => ?_) (fun c23 => ?_)
      · replace h := k_ip c23 h
        refine lv_iconst (v := 0) hx hb dX11_hauls_39 (by decide) ?_
        refine lv_istore_n (lv' := [(3, .int 0), (0, .ref (am 0)), (1, .int x1), (2, .int x2)]) hx hb dX11_hauls_40 rfl hl (by decide) rfl (fun ls hl => ?_)
        refine lv_iconst (v := 0) hx hb dX11_hauls_41 (by decide) ?_
        refine lv_istore (lv' := [(4, .int 0), (3, .int 0), (0, .ref (am 0)), (1, .int x1), (2, .int x2)]) hx hb dX11_hauls_42 hl (by decide) rfl (fun ls hl => ?_)
        obtain ⟨w21, e22, h⟩ := k_bd h
        refine bX11_hauls_L44 C0 hK hN hap x1 x2 2000 0 0 _ _ _ ls hP hS (lv_sub hl [2, 3, 4, 1, 0] rfl) e22 (fun H locs ls hP hS hl => ?_)
        refine lv_iload_n hx hb dX11_hauls_133 rfl (lv_at hl 3 rfl) ?_
        refine lv_if_ne (tgt := 140) hx hb dX11_hauls_134 (by decide) (fun c134 => ?_) (fun c134 => ?_)
        · replace h := k_in c134 h
          refine lv_aload_n hx hb dX11_hauls_140 rfl (lv_at hl 0 rfl) ?_
          obtain ⟨u23, e24, h⟩ := k_bd h
          refine wr_callv (va_runV (As := []) (rest := []) C0.1 (kX11_know l (D := D) (cI := cI) (cB := cB) (cZ := cZ) (τ := τ) hap σ  _ e24) (wX11_hauls_X11_know hts ⟨Nat.le_of_ble_eq_true rfl, Nat.le_of_ble_eq_true rfl⟩) ⟨PW.blind, mw_r0 hK hP, PW.mk hP hK hN⟩ rfl rfl hl.1 rfl (lv_room (Nat.le_of_ble_eq_true rfl)) dX11_hauls_141 ⟨Nat.zero_le _, Nat.zero_le _⟩) hS (fun _ h => h) (fun H locs hP hS => ?_)
          have hP : va_P D vwCl (MW cI cB cZ am τ u23) H := hP
          refine lv_aload_n hx hb dX11_hauls_144 rfl (lv_at hl 0 rfl) ?_
          refine va_get (D := D) (ci := 11) (v := .ref (am 13)) (C := RX11) (T := TX11) (N := 30) hx hb hts iX11_hauls_X11 hown hK hP 0 mw_0 rfl 19 (by decide) (hts (.fieldLink RX11 47 RX11 "now" "[I") (by decide +kernel)) (fun _ h9 => h9) rfl dX11_hauls_145 ?_
          refine lv_bipush (v := 24) hx hb dX11_hauls_148 (by decide) ?_
          refine lv_iload_n hx hb dX11_hauls_150 rfl (lv_at hl 2 rfl) ?_
          refine lv_iadd hx hb dX11_hauls_151 ?_
          refine lv_iconst (v := 1) hx hb dX11_hauls_152 (by decide) ?_
          obtain ⟨σ25, e26, h⟩ := k_bd h
          refine va_iast hx hb hK hP (mw_D hap) hS 13 0 mw_13 rfl (k_wr e26).1 dX11_hauls_153 (fun H locs hP _ hS => ?_)
          have hP := mw_s13 hP
          rw [(k_wr e26).2] at hP
          refine lv_aload_n hx hb dX11_hauls_154 rfl (lv_at hl 0 rfl) ?_
          refine va_get (D := D) (ci := 11) (v := .ref (am 13)) (C := RX11) (T := TX11) (N := 30) hx hb hts iX11_hauls_X11 hown hK hP 0 mw_0 rfl 19 (by decide) (hts (.fieldLink RX11 47 RX11 "now" "[I") (by decide +kernel)) (fun _ h9 => h9) rfl dX11_hauls_155 ?_
          refine lv_bipush (v := 39) hx hb dX11_hauls_158 (by decide) ?_
          refine lv_iload_n hx hb dX11_hauls_160 rfl (lv_at hl 1 rfl) ?_
          refine lv_iadd hx hb dX11_hauls_161 ?_
          obtain ⟨v27, e28, h⟩ := k_bd h
          refine va_iald hx hb hK hP 13 0 mw_13 rfl (k_rd e28).1 dX11_hauls_162 ?_
          refine lv_nmi (k_rd e28).2 ?_
          refine lv_aload_n hx hb dX11_hauls_163 rfl (lv_at hl 0 rfl) ?_
          refine lv_iload_n hx hb dX11_hauls_164 rfl (lv_at hl 2 rfl) ?_
          obtain ⟨v29, e30, h⟩ := k_bd h
          refine rd_calli (va_runV (As := [.int x2]) (rest := [.int v27]) C0.1 (kX11_leftOf l (D := D) (cI := cI) (cB := cB) (cZ := cZ) (am := am) (τ := τ) σ25 x2 _ e30) (wX11_hauls_X11_leftOf hts ⟨Nat.le_of_ble_eq_true rfl, Nat.le_of_ble_eq_true rfl⟩) ⟨PW.blind, mw_r0 hK hP, PW.mk hP hK hN⟩ rfl rfl hl.1 rfl (lv_room (Nat.le_of_ble_eq_true rfl)) dX11_hauls_165 ⟨Nat.zero_le _, Nat.zero_le _⟩) ?_
          refine lv_iadd hx hb dX11_hauls_168 ?_
          obtain ⟨v31, e32, h⟩ := k_bd h
          refine lv_nmi (k_sm e32) ?_
          refine lv_istore (lv' := [(4, .int v31), (0, .ref (am 0)), (1, .int x1), (2, .int x2), (3, .int w21)]) hx hb dX11_hauls_169 hl (by decide) rfl (fun ls hl => ?_)
          refine lv_aload_n hx hb dX11_hauls_171 rfl (lv_at hl 1 rfl) ?_
          refine va_get (D := D) (ci := 11) (v := .ref (am 13)) (C := RX11) (T := TX11) (N := 30) hx hb hts iX11_hauls_X11 hown hK hP 0 mw_0 rfl 19 (by decide) (hts (.fieldLink RX11 47 RX11 "now" "[I") (by decide +kernel)) (fun _ h9 => h9) rfl dX11_hauls_172 ?_
          refine lv_bipush (v := 39) hx hb dX11_hauls_175 (by decide) ?_
          refine lv_iload_n hx hb dX11_hauls_177 rfl (lv_at hl 2 rfl) ?_
          refine lv_iadd hx hb dX11_hauls_178 ?_
          refine lv_iload hx hb dX11_hauls_179 (lv_at hl 0 rfl) ?_
          refine lv_sipush (v := 9999) hx hb dX11_hauls_181 (by decide) ?_
          refine lv_icmp_le (tgt := 193) hx hb dX11_hauls_184 (by decide) (fun c184 => ?_) (fun c184 => ?_)
          · replace h := k_ip c184 h
            refine lv_iload hx hb dX11_hauls_193 (lv_at hl 0 rfl) ?_
            obtain ⟨σ33, e34, h⟩ := k_bd h
            refine va_iast hx hb hK hP (mw_D hap) hS 13 0 mw_13 rfl (k_wr e34).1 dX11_hauls_195 (fun H locs hP _ hS => ?_)
            have hP := mw_s13 hP
            rw [(k_wr e34).2] at hP
            refine lv_aload_n hx hb dX11_hauls_196 rfl (lv_at hl 1 rfl) ?_
            refine va_get (D := D) (ci := 11) (v := .ref (am 13)) (C := RX11) (T := TX11) (N := 30) hx hb hts iX11_hauls_X11 hown hK hP 0 mw_0 rfl 19 (by decide) (hts (.fieldLink RX11 47 RX11 "now" "[I") (by decide +kernel)) (fun _ h9 => h9) rfl dX11_hauls_197 ?_
            refine lv_bipush (v := 39) hx hb dX11_hauls_200 (by decide) ?_
            refine lv_iload_n hx hb dX11_hauls_202 rfl (lv_at hl 2 rfl) ?_
            refine lv_iadd hx hb dX11_hauls_203 ?_
            obtain ⟨v35, e36, h⟩ := k_bd h
            refine va_iald hx hb hK hP 13 0 mw_13 rfl (k_rd e36).1 dX11_hauls_204 ?_
            refine lv_nmi (k_rd e36).2 ?_
            obtain rfl := k_sm h
            exact W.iret hx hb hr (fun t ht hW => ⟨⟨_, _, rfl, ⟨rfl, rfl⟩, pw_end ht hP⟩, hS.F ht⟩) hS.2.2 dX11_hauls_205
          · replace h := k_in c184 h
            refine lv_sipush (v := 9999) hx hb dX11_hauls_187 (by decide) ?_
            refine lv_goto (tgt := 195) hx hb dX11_hauls_190 (by decide) ?_
            obtain ⟨σ37, e38, h⟩ := k_bd h
            refine va_iast hx hb hK hP (mw_D hap) hS 13 0 mw_13 rfl (k_wr e38).1 dX11_hauls_195 (fun H locs hP _ hS => ?_)
            have hP := mw_s13 hP
            rw [(k_wr e38).2] at hP
            refine lv_aload_n hx hb dX11_hauls_196 rfl (lv_at hl 1 rfl) ?_
            refine va_get (D := D) (ci := 11) (v := .ref (am 13)) (C := RX11) (T := TX11) (N := 30) hx hb hts iX11_hauls_X11 hown hK hP 0 mw_0 rfl 19 (by decide) (hts (.fieldLink RX11 47 RX11 "now" "[I") (by decide +kernel)) (fun _ h9 => h9) rfl dX11_hauls_197 ?_
            refine lv_bipush (v := 39) hx hb dX11_hauls_200 (by decide) ?_
            refine lv_iload_n hx hb dX11_hauls_202 rfl (lv_at hl 2 rfl) ?_
            refine lv_iadd hx hb dX11_hauls_203 ?_
            obtain ⟨v39, e40, h⟩ := k_bd h
            refine va_iald hx hb hK hP 13 0 mw_13 rfl (k_rd e40).1 dX11_hauls_204 ?_
            refine lv_nmi (k_rd e40).2 ?_
            obtain rfl := k_sm h
            exact W.iret hx hb hr (fun t ht hW => ⟨⟨_, _, rfl, ⟨rfl, rfl⟩, pw_end ht hP⟩, hS.F ht⟩) hS.2.2 dX11_hauls_205
        · replace h := k_ip c134 h
          refine lv_bipush (v := (-2)) hx hb dX11_hauls_137 (by decide) ?_
          obtain rfl := k_sm h
          exact W.iret hx hb hr (fun t ht hW => ⟨⟨_, _, rfl, ⟨rfl, rfl⟩, pw_end ht hP⟩, hS.F ht⟩) hS.2.2 dX11_hauls_139
      · replace h := k_in c23 h
        refine lv_aload_n hx hb dX11_hauls_26 rfl (lv_at hl 0 rfl) ?_
        refine lv_iload_n hx hb dX11_hauls_27 rfl (lv_at hl 2 rfl) ?_
        obtain ⟨v41, e42, h⟩ := k_bd h
        refine rd_calli (va_runV (As := [.int x2]) (rest := []) C0.1 (kX11_whose l (D := D) (cI := cI) (cB := cB) (cZ := cZ) (am := am) (τ := τ) σ x2 _ e42) (wX11_hauls_X11_whose hts ⟨Nat.le_of_ble_eq_true rfl, Nat.le_of_ble_eq_true rfl⟩) ⟨PW.blind, mw_r0 hK hP, PW.mk hP hK hN⟩ rfl rfl hl.1 rfl (lv_room (Nat.le_of_ble_eq_true rfl)) dX11_hauls_28 ⟨Nat.zero_le _, Nat.zero_le _⟩) ?_
        refine lv_iload_n hx hb dX11_hauls_31 rfl (lv_at hl 1 rfl) ?_
        refine lv_icmp_ne (tgt := 39) hx hb dX11_hauls_32 (by decide) (fun c32 => ?_) (fun c32 => ?_)
        · replace h := k_in c32 h
          refine lv_iconst (v := 0) hx hb dX11_hauls_39 (by decide) ?_
          refine lv_istore_n (lv' := [(3, .int 0), (0, .ref (am 0)), (1, .int x1), (2, .int x2)]) hx hb dX11_hauls_40 rfl hl (by decide) rfl (fun ls hl => ?_)
          refine lv_iconst (v := 0) hx hb dX11_hauls_41 (by decide) ?_
          refine lv_istore (lv' := [(4, .int 0), (3, .int 0), (0, .ref (am 0)), (1, .int x1), (2, .int x2)]) hx hb dX11_hauls_42 hl (by decide) rfl (fun ls hl => ?_)
          obtain ⟨w43, e44, h⟩ := k_bd h
          refine bX11_hauls_L44 C0 hK hN hap x1 x2 2000 0 0 _ _ _ ls hP hS (lv_sub hl [2, 3, 4, 1, 0] rfl) e44 (fun H locs ls hP hS hl => ?_)
          refine lv_iload_n hx hb dX11_hauls_133 rfl (lv_at hl 3 rfl) ?_
          refine lv_if_ne (tgt := 140) hx hb dX11_hauls_134 (by decide) (fun c134 => ?_) (fun c134 => ?_)
          · replace h := k_in c134 h
            refine lv_aload_n hx hb dX11_hauls_140 rfl (lv_at hl 0 rfl) ?_
            obtain ⟨u45, e46, h⟩ := k_bd h
            refine wr_callv (va_runV (As := []) (rest := []) C0.1 (kX11_know l (D := D) (cI := cI) (cB := cB) (cZ := cZ) (τ := τ) hap σ  _ e46) (wX11_hauls_X11_know hts ⟨Nat.le_of_ble_eq_true rfl, Nat.le_of_ble_eq_true rfl⟩) ⟨PW.blind, mw_r0 hK hP, PW.mk hP hK hN⟩ rfl rfl hl.1 rfl (lv_room (Nat.le_of_ble_eq_true rfl)) dX11_hauls_141 ⟨Nat.zero_le _, Nat.zero_le _⟩) hS (fun _ h => h) (fun H locs hP hS => ?_)
            have hP : va_P D vwCl (MW cI cB cZ am τ u45) H := hP
            refine lv_aload_n hx hb dX11_hauls_144 rfl (lv_at hl 0 rfl) ?_
            refine va_get (D := D) (ci := 11) (v := .ref (am 13)) (C := RX11) (T := TX11) (N := 30) hx hb hts iX11_hauls_X11 hown hK hP 0 mw_0 rfl 19 (by decide) (hts (.fieldLink RX11 47 RX11 "now" "[I") (by decide +kernel)) (fun _ h9 => h9) rfl dX11_hauls_145 ?_
            refine lv_bipush (v := 24) hx hb dX11_hauls_148 (by decide) ?_
            refine lv_iload_n hx hb dX11_hauls_150 rfl (lv_at hl 2 rfl) ?_
            refine lv_iadd hx hb dX11_hauls_151 ?_
            refine lv_iconst (v := 1) hx hb dX11_hauls_152 (by decide) ?_
            obtain ⟨σ47, e48, h⟩ := k_bd h
            refine va_iast hx hb hK hP (mw_D hap) hS 13 0 mw_13 rfl (k_wr e48).1 dX11_hauls_153 (fun H locs hP _ hS => ?_)
            have hP := mw_s13 hP
            rw [(k_wr e48).2] at hP
            refine lv_aload_n hx hb dX11_hauls_154 rfl (lv_at hl 0 rfl) ?_
            refine va_get (D := D) (ci := 11) (v := .ref (am 13)) (C := RX11) (T := TX11) (N := 30) hx hb hts iX11_hauls_X11 hown hK hP 0 mw_0 rfl 19 (by decide) (hts (.fieldLink RX11 47 RX11 "now" "[I") (by decide +kernel)) (fun _ h9 => h9) rfl dX11_hauls_155 ?_
            refine lv_bipush (v := 39) hx hb dX11_hauls_158 (by decide) ?_
            refine lv_iload_n hx hb dX11_hauls_160 rfl (lv_at hl 1 rfl) ?_
            refine lv_iadd hx hb dX11_hauls_161 ?_
            obtain ⟨v49, e50, h⟩ := k_bd h
            refine va_iald hx hb hK hP 13 0 mw_13 rfl (k_rd e50).1 dX11_hauls_162 ?_
            refine lv_nmi (k_rd e50).2 ?_
            refine lv_aload_n hx hb dX11_hauls_163 rfl (lv_at hl 0 rfl) ?_
            refine lv_iload_n hx hb dX11_hauls_164 rfl (lv_at hl 2 rfl) ?_
            obtain ⟨v51, e52, h⟩ := k_bd h
            refine rd_calli (va_runV (As := [.int x2]) (rest := [.int v49]) C0.1 (kX11_leftOf l (D := D) (cI := cI) (cB := cB) (cZ := cZ) (am := am) (τ := τ) σ47 x2 _ e52) (wX11_hauls_X11_leftOf hts ⟨Nat.le_of_ble_eq_true rfl, Nat.le_of_ble_eq_true rfl⟩) ⟨PW.blind, mw_r0 hK hP, PW.mk hP hK hN⟩ rfl rfl hl.1 rfl (lv_room (Nat.le_of_ble_eq_true rfl)) dX11_hauls_165 ⟨Nat.zero_le _, Nat.zero_le _⟩) ?_
            refine lv_iadd hx hb dX11_hauls_168 ?_
            obtain ⟨v53, e54, h⟩ := k_bd h
            refine lv_nmi (k_sm e54) ?_
            refine lv_istore (lv' := [(4, .int v53), (0, .ref (am 0)), (1, .int x1), (2, .int x2), (3, .int w43)]) hx hb dX11_hauls_169 hl (by decide) rfl (fun ls hl => ?_)
            refine lv_aload_n hx hb dX11_hauls_171 rfl (lv_at hl 1 rfl) ?_
            refine va_get (D := D) (ci := 11) (v := .ref (am 13)) (C := RX11) (T := TX11) (N := 30) hx hb hts iX11_hauls_X11 hown hK hP 0 mw_0 rfl 19 (by decide) (hts (.fieldLink RX11 47 RX11 "now" "[I") (by decide +kernel)) (fun _ h9 => h9) rfl dX11_hauls_172 ?_
            refine lv_bipush (v := 39) hx hb dX11_hauls_175 (by decide) ?_
            refine lv_iload_n hx hb dX11_hauls_177 rfl (lv_at hl 2 rfl) ?_
            refine lv_iadd hx hb dX11_hauls_178 ?_
            refine lv_iload hx hb dX11_hauls_179 (lv_at hl 0 rfl) ?_
            refine lv_sipush (v := 9999) hx hb dX11_hauls_181 (by decide) ?_
            refine lv_icmp_le (tgt := 193) hx hb dX11_hauls_184 (by decide) (fun c184 => ?_) (fun c184 => ?_)
            · replace h := k_ip c184 h
              refine lv_iload hx hb dX11_hauls_193 (lv_at hl 0 rfl) ?_
              obtain ⟨σ55, e56, h⟩ := k_bd h
              refine va_iast hx hb hK hP (mw_D hap) hS 13 0 mw_13 rfl (k_wr e56).1 dX11_hauls_195 (fun H locs hP _ hS => ?_)
              have hP := mw_s13 hP
              rw [(k_wr e56).2] at hP
              refine lv_aload_n hx hb dX11_hauls_196 rfl (lv_at hl 1 rfl) ?_
              refine va_get (D := D) (ci := 11) (v := .ref (am 13)) (C := RX11) (T := TX11) (N := 30) hx hb hts iX11_hauls_X11 hown hK hP 0 mw_0 rfl 19 (by decide) (hts (.fieldLink RX11 47 RX11 "now" "[I") (by decide +kernel)) (fun _ h9 => h9) rfl dX11_hauls_197 ?_
              refine lv_bipush (v := 39) hx hb dX11_hauls_200 (by decide) ?_
              refine lv_iload_n hx hb dX11_hauls_202 rfl (lv_at hl 2 rfl) ?_
              refine lv_iadd hx hb dX11_hauls_203 ?_
              obtain ⟨v57, e58, h⟩ := k_bd h
              refine va_iald hx hb hK hP 13 0 mw_13 rfl (k_rd e58).1 dX11_hauls_204 ?_
              refine lv_nmi (k_rd e58).2 ?_
              obtain rfl := k_sm h
              exact W.iret hx hb hr (fun t ht hW => ⟨⟨_, _, rfl, ⟨rfl, rfl⟩, pw_end ht hP⟩, hS.F ht⟩) hS.2.2 dX11_hauls_205
            · replace h := k_in c184 h
              refine lv_sipush (v := 9999) hx hb dX11_hauls_187 (by decide) ?_
              refine lv_goto (tgt := 195) hx hb dX11_hauls_190 (by decide) ?_
              obtain ⟨σ59, e60, h⟩ := k_bd h
              refine va_iast hx hb hK hP (mw_D hap) hS 13 0 mw_13 rfl (k_wr e60).1 dX11_hauls_195 (fun H locs hP _ hS => ?_)
              have hP := mw_s13 hP
              rw [(k_wr e60).2] at hP
              refine lv_aload_n hx hb dX11_hauls_196 rfl (lv_at hl 1 rfl) ?_
              refine va_get (D := D) (ci := 11) (v := .ref (am 13)) (C := RX11) (T := TX11) (N := 30) hx hb hts iX11_hauls_X11 hown hK hP 0 mw_0 rfl 19 (by decide) (hts (.fieldLink RX11 47 RX11 "now" "[I") (by decide +kernel)) (fun _ h9 => h9) rfl dX11_hauls_197 ?_
              refine lv_bipush (v := 39) hx hb dX11_hauls_200 (by decide) ?_
              refine lv_iload_n hx hb dX11_hauls_202 rfl (lv_at hl 2 rfl) ?_
              refine lv_iadd hx hb dX11_hauls_203 ?_
              obtain ⟨v61, e62, h⟩ := k_bd h
              refine va_iald hx hb hK hP 13 0 mw_13 rfl (k_rd e62).1 dX11_hauls_204 ?_
              refine lv_nmi (k_rd e62).2 ?_
              obtain rfl := k_sm h
              exact W.iret hx hb hr (fun t ht hW => ⟨⟨_, _, rfl, ⟨rfl, rfl⟩, pw_end ht hP⟩, hS.F ht⟩) hS.2.2 dX11_hauls_205
          · replace h := k_ip c134 h
            refine lv_bipush (v := (-2)) hx hb dX11_hauls_137 (by decide) ?_
            obtain rfl := k_sm h
            exact W.iret hx hb hr (fun t ht hW => ⟨⟨_, _, rfl, ⟨rfl, rfl⟩, pw_end ht hP⟩, hS.F ht⟩) hS.2.2 dX11_hauls_139
        · replace h := k_ip c32 h
          refine lv_iconst (v := 1) hx hb dX11_hauls_35 (by decide) ?_
          refine lv_goto (tgt := 40) hx hb dX11_hauls_36 (by decide) ?_
          refine lv_istore_n (lv' := [(3, .int 1), (0, .ref (am 0)), (1, .int x1), (2, .int x2)]) hx hb dX11_hauls_40 rfl hl (by decide) rfl (fun ls hl => ?_)
          refine lv_iconst (v := 0) hx hb dX11_hauls_41 (by decide) ?_
          refine lv_istore (lv' := [(4, .int 0), (3, .int 1), (0, .ref (am 0)), (1, .int x1), (2, .int x2)]) hx hb dX11_hauls_42 hl (by decide) rfl (fun ls hl => ?_)
          obtain ⟨w63, e64, h⟩ := k_bd h
          refine bX11_hauls_L44 C0 hK hN hap x1 x2 2000 1 0 _ _ _ ls hP hS (lv_sub hl [2, 3, 4, 1, 0] rfl) e64 (fun H locs ls hP hS hl => ?_)
          refine lv_iload_n hx hb dX11_hauls_133 rfl (lv_at hl 3 rfl) ?_
          refine lv_if_ne (tgt := 140) hx hb dX11_hauls_134 (by decide) (fun c134 => ?_) (fun c134 => ?_)
          · replace h := k_in c134 h
            refine lv_aload_n hx hb dX11_hauls_140 rfl (lv_at hl 0 rfl) ?_
            obtain ⟨u65, e66, h⟩ := k_bd h
            refine wr_callv (va_runV (As := []) (rest := []) C0.1 (kX11_know l (D := D) (cI := cI) (cB := cB) (cZ := cZ) (τ := τ) hap σ  _ e66) (wX11_hauls_X11_know hts ⟨Nat.le_of_ble_eq_true rfl, Nat.le_of_ble_eq_true rfl⟩) ⟨PW.blind, mw_r0 hK hP, PW.mk hP hK hN⟩ rfl rfl hl.1 rfl (lv_room (Nat.le_of_ble_eq_true rfl)) dX11_hauls_141 ⟨Nat.zero_le _, Nat.zero_le _⟩) hS (fun _ h => h) (fun H locs hP hS => ?_)
            have hP : va_P D vwCl (MW cI cB cZ am τ u65) H := hP
            refine lv_aload_n hx hb dX11_hauls_144 rfl (lv_at hl 0 rfl) ?_
            refine va_get (D := D) (ci := 11) (v := .ref (am 13)) (C := RX11) (T := TX11) (N := 30) hx hb hts iX11_hauls_X11 hown hK hP 0 mw_0 rfl 19 (by decide) (hts (.fieldLink RX11 47 RX11 "now" "[I") (by decide +kernel)) (fun _ h9 => h9) rfl dX11_hauls_145 ?_
            refine lv_bipush (v := 24) hx hb dX11_hauls_148 (by decide) ?_
            refine lv_iload_n hx hb dX11_hauls_150 rfl (lv_at hl 2 rfl) ?_
            refine lv_iadd hx hb dX11_hauls_151 ?_
            refine lv_iconst (v := 1) hx hb dX11_hauls_152 (by decide) ?_
            obtain ⟨σ67, e68, h⟩ := k_bd h
            refine va_iast hx hb hK hP (mw_D hap) hS 13 0 mw_13 rfl (k_wr e68).1 dX11_hauls_153 (fun H locs hP _ hS => ?_)
            have hP := mw_s13 hP
            rw [(k_wr e68).2] at hP
            refine lv_aload_n hx hb dX11_hauls_154 rfl (lv_at hl 0 rfl) ?_
            refine va_get (D := D) (ci := 11) (v := .ref (am 13)) (C := RX11) (T := TX11) (N := 30) hx hb hts iX11_hauls_X11 hown hK hP 0 mw_0 rfl 19 (by decide) (hts (.fieldLink RX11 47 RX11 "now" "[I") (by decide +kernel)) (fun _ h9 => h9) rfl dX11_hauls_155 ?_
            refine lv_bipush (v := 39) hx hb dX11_hauls_158 (by decide) ?_
            refine lv_iload_n hx hb dX11_hauls_160 rfl (lv_at hl 1 rfl) ?_
            refine lv_iadd hx hb dX11_hauls_161 ?_
            obtain ⟨v69, e70, h⟩ := k_bd h
            refine va_iald hx hb hK hP 13 0 mw_13 rfl (k_rd e70).1 dX11_hauls_162 ?_
            refine lv_nmi (k_rd e70).2 ?_
            refine lv_aload_n hx hb dX11_hauls_163 rfl (lv_at hl 0 rfl) ?_
            refine lv_iload_n hx hb dX11_hauls_164 rfl (lv_at hl 2 rfl) ?_
            obtain ⟨v71, e72, h⟩ := k_bd h
            refine rd_calli (va_runV (As := [.int x2]) (rest := [.int v69]) C0.1 (kX11_leftOf l (D := D) (cI := cI) (cB := cB) (cZ := cZ) (am := am) (τ := τ) σ67 x2 _ e72) (wX11_hauls_X11_leftOf hts ⟨Nat.le_of_ble_eq_true rfl, Nat.le_of_ble_eq_true rfl⟩) ⟨PW.blind, mw_r0 hK hP, PW.mk hP hK hN⟩ rfl rfl hl.1 rfl (lv_room (Nat.le_of_ble_eq_true rfl)) dX11_hauls_165 ⟨Nat.zero_le _, Nat.zero_le _⟩) ?_
            refine lv_iadd hx hb dX11_hauls_168 ?_
            obtain ⟨v73, e74, h⟩ := k_bd h
            refine lv_nmi (k_sm e74) ?_
            refine lv_istore (lv' := [(4, .int v73), (0, .ref (am 0)), (1, .int x1), (2, .int x2), (3, .int w63)]) hx hb dX11_hauls_169 hl (by decide) rfl (fun ls hl => ?_)
            refine lv_aload_n hx hb dX11_hauls_171 rfl (lv_at hl 1 rfl) ?_
            refine va_get (D := D) (ci := 11) (v := .ref (am 13)) (C := RX11) (T := TX11) (N := 30) hx hb hts iX11_hauls_X11 hown hK hP 0 mw_0 rfl 19 (by decide) (hts (.fieldLink RX11 47 RX11 "now" "[I") (by decide +kernel)) (fun _ h9 => h9) rfl dX11_hauls_172 ?_
            refine lv_bipush (v := 39) hx hb dX11_hauls_175 (by decide) ?_
            refine lv_iload_n hx hb dX11_hauls_177 rfl (lv_at hl 2 rfl) ?_
            refine lv_iadd hx hb dX11_hauls_178 ?_
            refine lv_iload hx hb dX11_hauls_179 (lv_at hl 0 rfl) ?_
            refine lv_sipush (v := 9999) hx hb dX11_hauls_181 (by decide) ?_
            refine lv_icmp_le (tgt := 193) hx hb dX11_hauls_184 (by decide) (fun c184 => ?_) (fun c184 => ?_)
            · replace h := k_ip c184 h
              refine lv_iload hx hb dX11_hauls_193 (lv_at hl 0 rfl) ?_
              obtain ⟨σ75, e76, h⟩ := k_bd h
              refine va_iast hx hb hK hP (mw_D hap) hS 13 0 mw_13 rfl (k_wr e76).1 dX11_hauls_195 (fun H locs hP _ hS => ?_)
              have hP := mw_s13 hP
              rw [(k_wr e76).2] at hP
              refine lv_aload_n hx hb dX11_hauls_196 rfl (lv_at hl 1 rfl) ?_
              refine va_get (D := D) (ci := 11) (v := .ref (am 13)) (C := RX11) (T := TX11) (N := 30) hx hb hts iX11_hauls_X11 hown hK hP 0 mw_0 rfl 19 (by decide) (hts (.fieldLink RX11 47 RX11 "now" "[I") (by decide +kernel)) (fun _ h9 => h9) rfl dX11_hauls_197 ?_
              refine lv_bipush (v := 39) hx hb dX11_hauls_200 (by decide) ?_
              refine lv_iload_n hx hb dX11_hauls_202 rfl (lv_at hl 2 rfl) ?_
              refine lv_iadd hx hb dX11_hauls_203 ?_
              obtain ⟨v77, e78, h⟩ := k_bd h
              refine va_iald hx hb hK hP 13 0 mw_13 rfl (k_rd e78).1 dX11_hauls_204 ?_
              refine lv_nmi (k_rd e78).2 ?_
              obtain rfl := k_sm h
              exact W.iret hx hb hr (fun t ht hW => ⟨⟨_, _, rfl, ⟨rfl, rfl⟩, pw_end ht hP⟩, hS.F ht⟩) hS.2.2 dX11_hauls_205
            · replace h := k_in c184 h
              refine lv_sipush (v := 9999) hx hb dX11_hauls_187 (by decide) ?_
              refine lv_goto (tgt := 195) hx hb dX11_hauls_190 (by decide) ?_
              obtain ⟨σ79, e80, h⟩ := k_bd h
              refine va_iast hx hb hK hP (mw_D hap) hS 13 0 mw_13 rfl (k_wr e80).1 dX11_hauls_195 (fun H locs hP _ hS => ?_)
              have hP := mw_s13 hP
              rw [(k_wr e80).2] at hP
              refine lv_aload_n hx hb dX11_hauls_196 rfl (lv_at hl 1 rfl) ?_
              refine va_get (D := D) (ci := 11) (v := .ref (am 13)) (C := RX11) (T := TX11) (N := 30) hx hb hts iX11_hauls_X11 hown hK hP 0 mw_0 rfl 19 (by decide) (hts (.fieldLink RX11 47 RX11 "now" "[I") (by decide +kernel)) (fun _ h9 => h9) rfl dX11_hauls_197 ?_
              refine lv_bipush (v := 39) hx hb dX11_hauls_200 (by decide) ?_
              refine lv_iload_n hx hb dX11_hauls_202 rfl (lv_at hl 2 rfl) ?_
              refine lv_iadd hx hb dX11_hauls_203 ?_
              obtain ⟨v81, e82, h⟩ := k_bd h
              refine va_iald hx hb hK hP 13 0 mw_13 rfl (k_rd e82).1 dX11_hauls_204 ?_
              refine lv_nmi (k_rd e82).2 ?_
              obtain rfl := k_sm h
              exact W.iret hx hb hr (fun t ht hW => ⟨⟨_, _, rfl, ⟨rfl, rfl⟩, pw_end ht hP⟩, hS.F ht⟩) hS.2.2 dX11_hauls_205
          · replace h := k_ip c134 h
            refine lv_bipush (v := (-2)) hx hb dX11_hauls_137 (by decide) ?_
            obtain rfl := k_sm h
            exact W.iret hx hb hr (fun t ht hW => ⟨⟨_, _, rfl, ⟨rfl, rfl⟩, pw_end ht hP⟩, hS.F ht⟩) hS.2.2 dX11_hauls_139
    · replace h := k_ip c13 h
      refine lv_iconst (v := (-1)) hx hb dX11_hauls_16 (by decide) ?_
      obtain rfl := k_sm h
      exact W.iret hx hb hr (fun t ht hW => ⟨⟨_, _, rfl, ⟨rfl, rfl⟩, pw_end ht hP⟩, hS.F ht⟩) hS.2.2 dX11_hauls_17
set_option maxHeartbeats 4000000 in
set_option maxRecDepth 100000 in
theorem bX11_undo_L24 {p : Program} {l : Launch} {e : Env} {s : State} {m : MethodId} {args : Array Value} {below : List Frame} {meth : Method} {c : Code} {Q : State → Prop} {D : va_G} {cI cB cZ : ClassId} {am : Nat → Nat} (C0 : Cx p s m args meth c cX11_undo 2 (some .int) RX11 wsX11_undo) (hK : va_K D vwCl (tysA cI cB cZ) s) (hN : NW s) (hap : mwX am) {τ : Int64}  : ∀ (n : Nat) (x1 : Int32) (σ : Sg) (v : Sg) (H : Heap) (locs : List Loc) (ls : Array Slot), va_P D vwCl (MW cI cB cZ am τ σ) H → va_S (mwA am) s.heap H locs → lv_has ls 2 [(0, .ref (am 0)), (1, .int x1)] → pX11_undo_L24  n x1 σ = some v → (∀ (H1 : Heap) (locs1 : List Loc) (ls1 : Array Slot), va_P D vwCl (MW cI cB cZ am τ v) H1 → va_S (mwA am) s.heap H1 locs1 → lv_has ls1 2 [(0, .ref (am 0))] → W p l e rmX11_undo s m args below meth c H1 locs1 0 0 Q (F0 m 58 ls1 [])) → W p l e rmX11_undo s m args below meth c H locs 0 0 Q (F0 m 24 ls []) := by
  obtain ⟨⟨hx, hb, hml, hown, hts⟩, hr, hlk⟩ := id C0
  intro n
  induction n with
  | zero =>
    intro x1 σ v H locs ls hP hS hl h kk
    exact absurd h (by simp [pX11_undo_L24])
  | succ n ih =>
    intro x1 σ v H locs ls hP hS hl h kk
    rw [pX11_undo_L24] at h
    refine lv_iload_n hx hb dX11_undo_24 rfl (lv_at hl 1 rfl) ?_
    refine lv_bipush (v := 45) hx hb dX11_undo_25 (by decide) ?_
    refine lv_icmp_ge (tgt := 58) hx hb dX11_undo_27 (by decide) (fun c27 => ?_) (fun c27 => ?_)
    · replace h := k_ip c27 h
      obtain rfl := k_sm h
      exact kk _ _ _ hP hS (lv_sub hl [0] rfl)
    · replace h := k_in c27 h
      refine lv_aload_n hx hb dX11_undo_30 rfl (lv_at hl 0 rfl) ?_
      refine va_get (D := D) (ci := 11) (v := .ref (am 13)) (C := RX11) (T := TX11) (N := 30) hx hb hts iX11_undo_X11 hown hK hP 0 mw_0 rfl 19 (by decide) (hts (.fieldLink RX11 47 RX11 "now" "[I") (by decide +kernel)) (fun _ h9 => h9) rfl dX11_undo_31 ?_
      refine lv_iload_n hx hb dX11_undo_34 rfl (lv_at hl 1 rfl) ?_
      refine lv_aload_n hx hb dX11_undo_35 rfl (lv_at hl 0 rfl) ?_
      refine va_get (D := D) (ci := 11) (v := .ref (am 15)) (C := RX11) (T := TX11) (N := 30) hx hb hts iX11_undo_X11 hown hK hP 0 mw_0 rfl 21 (by decide) (hts (.fieldLink RX11 53 RX11 "before" "[I") (by decide +kernel)) (fun _ h9 => h9) rfl dX11_undo_36 ?_
      refine lv_bipush (v := 45) hx hb dX11_undo_39 (by decide) ?_
      refine lv_aload_n hx hb dX11_undo_41 rfl (lv_at hl 0 rfl) ?_
      refine va_get (D := D) (ci := 11) (v := .ref (am 14)) (C := RX11) (T := TX11) (N := 30) hx hb hts iX11_undo_X11 hown hK hP 0 mw_0 rfl 20 (by decide) (hts (.fieldLink RX11 50 RX11 "known" "[I") (by decide +kernel)) (fun _ h9 => h9) rfl dX11_undo_42 ?_
      refine lv_iconst (v := 0) hx hb dX11_undo_45 (by decide) ?_
      obtain ⟨v7, e8, h⟩ := k_bd h
      refine va_iald hx hb hK hP 14 0 mw_14 rfl (k_rd e8).1 dX11_undo_46 ?_
      refine lv_nmi (k_rd e8).2 ?_
      refine lv_imul hx hb dX11_undo_47 ?_
      refine lv_iload_n hx hb dX11_undo_48 rfl (lv_at hl 1 rfl) ?_
      refine lv_iadd hx hb dX11_undo_49 ?_
      obtain ⟨v9, e10, h⟩ := k_bd h
      refine va_iald hx hb hK hP 15 0 mw_15 rfl (k_rd e10).1 dX11_undo_50 ?_
      refine lv_nmi (k_rd e10).2 ?_
      obtain ⟨σ11, e12, h⟩ := k_bd h
      refine va_iast hx hb hK hP (mw_D hap) hS 13 0 mw_13 rfl (k_wr e12).1 dX11_undo_51 (fun H locs hP _ hS => ?_)
      have hP := mw_s13 hP
      rw [(k_wr e12).2] at hP
      refine lv_iinc (v := (x1 + 1)) (lv' := [(1, .int (x1 + 1)), (0, .ref (am 0))]) hx hb dX11_undo_52 hl (k := 1) rfl rfl (by decide) rfl (fun ls hl => ?_)
      refine lv_goto (tgt := 24) hx hb dX11_undo_55 (by decide) ?_
      exact ih (x1 + 1) σ11 _ _ _ ls hP hS (lv_sub hl [1, 0] rfl) h kk
set_option maxHeartbeats 4000000 in
set_option maxRecDepth 100000 in
theorem kX11_undo (l : Launch) {D : va_G} {cI cB cZ : ClassId} {am : Nat → Nat} {τ : Int64} (hap : mwX am) (σ : Sg) (o : (Int32 × Sg)) (h : pX11_undo σ = some o) : Met l yX11_undo wsX11_undo rmX11_undo (va_Pc [.ref (am 0)] (PW D cI cB cZ (MW cI cB cZ am τ σ))) (QI D (MW cI cB cZ am τ) (mwA am) o.1 o.2) 0 0 (mwA am) := by
  refine Met.ofW (cc := cX11_undo) (maxL := 2) (ret := (some .int)) (by decide) rfl ?_
  intro p e s m args below meth c s₁ B hml hv
  obtain ⟨rfl, hP, hK, hN⟩ := hv
  have C0 : Cx p s m _ meth c cX11_undo 2 (some .int) RX11 wsX11_undo := ⟨⟨B.exec, B.bytes, hml, findClass_of_methodNamed B.named, atoms_spec B.pre⟩, B.returns, B.notSynchronized⟩
  obtain ⟨⟨hx, hb, -, hown, hts⟩, hr, hlk⟩ := id C0
  have hS : va_S (mwA am) s.heap s.heap [] := va_S.rf
  have hl := lv_entry ([.ref (am 0)]) (n := 2) (Nat.le_of_ble_eq_true rfl)
  rw [lg_entry_eq]
  generalize (lg_sl ([.ref (am 0)]) ++ List.replicate (2 - (lg_sl ([.ref (am 0)])).length) Slot.unset).toArray = ls at hl ⊢
  have hl : lv_has ls 2 [(0, .ref (am 0))] := hl
  rw [pX11_undo] at h
  refine lv_aload_n hx hb dX11_undo_0 rfl (lv_at hl 0 rfl) ?_
  refine va_get (D := D) (ci := 11) (v := .ref (am 14)) (C := RX11) (T := TX11) (N := 30) hx hb hts iX11_undo_X11 hown hK hP 0 mw_0 rfl 20 (by decide) (hts (.fieldLink RX11 50 RX11 "known" "[I") (by decide +kernel)) (fun _ h9 => h9) rfl dX11_undo_1 ?_
  refine lv_iconst (v := 0) hx hb dX11_undo_4 (by decide) ?_
  obtain ⟨v1, e2, h⟩ := k_bd h
  refine va_iald hx hb hK hP 14 0 mw_14 rfl (k_rd e2).1 dX11_undo_5 ?_
  refine lv_nmi (k_rd e2).2 ?_
  refine lv_if_ne (tgt := 12) hx hb dX11_undo_6 (by decide) (fun c6 => ?_) (fun c6 => ?_)
  · replace h := k_in c6 h
    refine lv_aload_n hx hb dX11_undo_12 rfl (lv_at hl 0 rfl) ?_
    refine va_get (D := D) (ci := 11) (v := .ref (am 14)) (C := RX11) (T := TX11) (N := 30) hx hb hts iX11_undo_X11 hown hK hP 0 mw_0 rfl 20 (by decide) (hts (.fieldLink RX11 50 RX11 "known" "[I") (by decide +kernel)) (fun _ h9 => h9) rfl dX11_undo_13 ?_
    refine lv_iconst (v := 0) hx hb dX11_undo_16 (by decide) ?_
    refine lv_dup2_11 hx hb dX11_undo_17 rfl rfl ?_
    obtain ⟨v3, e4, h⟩ := k_bd h
    refine va_iald hx hb hK hP 14 0 mw_14 rfl (k_rd e4).1 dX11_undo_18 ?_
    refine lv_nmi (k_rd e4).2 ?_
    refine lv_iconst (v := 1) hx hb dX11_undo_19 (by decide) ?_
    refine lv_isub hx hb dX11_undo_20 ?_
    obtain ⟨σ5, e6, h⟩ := k_bd h
    refine va_iast hx hb hK hP (mw_D hap) hS 14 0 mw_14 rfl (k_wr e6).1 dX11_undo_21 (fun H locs hP _ hS => ?_)
    have hP := mw_s14 hP
    rw [(k_wr e6).2] at hP
    refine lv_iconst (v := 0) hx hb dX11_undo_22 (by decide) ?_
    refine lv_istore_n (lv' := [(1, .int 0), (0, .ref (am 0))]) hx hb dX11_undo_23 rfl hl (by decide) rfl (fun ls hl => ?_)
    obtain ⟨w13, e14, h⟩ := k_bd h
    refine bX11_undo_L24 C0 hK hN hap  2000 0 σ5 _ _ _ ls hP hS (lv_sub hl [1, 0] rfl) e14 (fun H locs ls hP hS hl => ?_)
    refine lv_aload_n hx hb dX11_undo_58 rfl (lv_at hl 0 rfl) ?_
    refine va_get (D := D) (ci := 11) (v := .ref (am 14)) (C := RX11) (T := TX11) (N := 30) hx hb hts iX11_undo_X11 hown hK hP 0 mw_0 rfl 20 (by decide) (hts (.fieldLink RX11 50 RX11 "known" "[I") (by decide +kernel)) (fun _ h9 => h9) rfl dX11_undo_59 ?_
    refine lv_iconst (v := 0) hx hb dX11_undo_62 (by decide) ?_
    obtain ⟨v15, e16, h⟩ := k_bd h
    refine va_iald hx hb hK hP 14 0 mw_14 rfl (k_rd e16).1 dX11_undo_63 ?_
    refine lv_nmi (k_rd e16).2 ?_
    obtain rfl := k_sm h
    exact W.iret hx hb hr (fun t ht hW => ⟨⟨_, _, rfl, ⟨rfl, rfl⟩, pw_end ht hP⟩, hS.F ht⟩) hS.2.2 dX11_undo_64
  · replace h := k_ip c6 h
    refine lv_bipush (v := (-2)) hx hb dX11_undo_9 (by decide) ?_
    obtain rfl := k_sm h
    exact W.iret hx hb hr (fun t ht hW => ⟨⟨_, _, rfl, ⟨rfl, rfl⟩, pw_end ht hP⟩, hS.F ht⟩) hS.2.2 dX11_undo_11
set_option maxHeartbeats 4000000 in
set_option maxRecDepth 100000 in
theorem bX11_now_L52 {p : Program} {l : Launch} {e : Env} {s : State} {m : MethodId} {args : Array Value} {below : List Frame} {meth : Method} {c : Code} {Q : State → Prop} {D : va_G} {cI cB cZ : ClassId} {am : Nat → Nat} (C0 : Cx p s m args meth c cX11_now 4 (some .int) RX11 wsX11_now) (hK : va_K D vwCl (tysA cI cB cZ) s) (hN : NW s) {τ : Int64} {σ : Sg} (hP : va_P D vwCl (MW cI cB cZ am τ σ) s.heap)  : ∀ (n : Nat) (x2 : Int32) (x3 : Int32) (v : Int32) (ls : Array Slot), lv_has ls 4 [(0, .ref (am 0)), (2, .int x2), (3, .int x3)] → pX11_now_L52 σ n x2 x3 = some v → (∀ (ls1 : Array Slot), lv_has ls1 4 [(2, .int v)] → W p l e rmX11_now s m args below meth c s.heap [] 0 0 Q (F0 m 80 ls1 [])) → W p l e rmX11_now s m args below meth c s.heap [] 0 0 Q (F0 m 52 ls []) := by
  obtain ⟨⟨hx, hb, hml, hown, hts⟩, hr, hlk⟩ := id C0
  intro n
  induction n with
  | zero =>
    intro x2 x3 v ls hl h kk
    exact absurd h (by simp [pX11_now_L52])
  | succ n ih =>
    intro x2 x3 v ls hl h kk
    rw [pX11_now_L52] at h
    refine lv_iload_n hx hb dX11_now_52 rfl (lv_at hl 2 rfl) ?_
    refine lv_aload_n hx hb dX11_now_53 rfl (lv_at hl 0 rfl) ?_
    refine va_get (D := D) (ci := 11) (v := .ref (am 4)) (C := RX11) (T := TX11) (N := 30) hx hb hts iX11_now_X11 hown hK hP 0 mw_0 rfl 4 (by decide) (hts (.fieldLink RX11 20 RX11 "rafts" "[I") (by decide +kernel)) (fun _ h9 => h9) rfl dX11_now_54 ?_
    refine lv_iconst (v := 0) hx hb dX11_now_57 (by decide) ?_
    obtain ⟨v9, e10, h⟩ := k_bd h
    refine va_iald hx hb hK hP 4 0 mw_4 rfl (k_rd e10).1 dX11_now_58 ?_
    refine lv_nmi (k_rd e10).2 ?_
    refine lv_icmp_ge (tgt := 80) hx hb dX11_now_59 (by decide) (fun c59 => ?_) (fun c59 => ?_)
    · replace h := k_ip c59 h
      obtain rfl := k_sm h
      exact kk _ (lv_sub hl [1] rfl)
    · replace h := k_in c59 h
      refine lv_iload_n hx hb dX11_now_62 rfl (lv_at hl 1 rfl) ?_
      refine lv_aload_n hx hb dX11_now_63 rfl (lv_at hl 0 rfl) ?_
      refine va_get (D := D) (ci := 11) (v := .ref (am 13)) (C := RX11) (T := TX11) (N := 30) hx hb hts iX11_now_X11 hown hK hP 0 mw_0 rfl 19 (by decide) (hts (.fieldLink RX11 47 RX11 "now" "[I") (by decide +kernel)) (fun _ h9 => h9) rfl dX11_now_64 ?_
      refine lv_bipush (v := 39) hx hb dX11_now_67 (by decide) ?_
      refine lv_iload_n hx hb dX11_now_69 rfl (lv_at hl 2 rfl) ?_
      refine lv_iadd hx hb dX11_now_70 ?_
      obtain ⟨v11, e12, h⟩ := k_bd h
      refine va_iald hx hb hK hP 13 0 mw_13 rfl (k_rd e12).1 dX11_now_71 ?_
      refine lv_nmi (k_rd e12).2 ?_
      refine lv_iadd hx hb dX11_now_72 ?_
      obtain ⟨v13, e14, h⟩ := k_bd h
      refine lv_nmi (k_sm e14) ?_
      refine lv_istore_n (lv' := [(2, .int v13), (0, .ref (am 0)), (3, .int x3)]) hx hb dX11_now_73 rfl hl (by decide) rfl (fun ls hl => ?_)
      refine lv_iinc (v := (x3 + 1)) (lv' := [(3, .int (x3 + 1)), (2, .int v13), (0, .ref (am 0))]) hx hb dX11_now_74 hl (k := 2) rfl rfl (by decide) rfl (fun ls hl => ?_)
      refine lv_goto (tgt := 52) hx hb dX11_now_77 (by decide) ?_
      exact ih v13 (x3 + 1) _ ls (lv_sub hl [2, 1, 0] rfl) h kk
set_option maxHeartbeats 4000000 in
set_option maxRecDepth 100000 in
theorem kX11_now (l : Launch) {D : va_G} {cI cB cZ : ClassId} {am : Nat → Nat} {τ : Int64} (σ : Sg) (x1 : Int32) (o : Int32) (h : pX11_now σ x1 = some o) : Met l yX11_now wsX11_now rmX11_now (va_Pc [.ref (am 0), .int x1] (PW D cI cB cZ (MW cI cB cZ am τ σ))) (QcRead o) 0 0 (fun _ => False) := by
  refine Met.ofW (cc := cX11_now) (maxL := 4) (ret := (some .int)) (by decide) rfl ?_
  intro p e s m args below meth c s₁ B hml hv
  obtain ⟨rfl, hP, hK, hN⟩ := hv
  have C0 : Cx p s m _ meth c cX11_now 4 (some .int) RX11 wsX11_now := ⟨⟨B.exec, B.bytes, hml, findClass_of_methodNamed B.named, atoms_spec B.pre⟩, B.returns, B.notSynchronized⟩
  obtain ⟨⟨hx, hb, -, hown, hts⟩, hr, hlk⟩ := id C0
  have hl := lv_entry ([.ref (am 0), .int x1]) (n := 4) (Nat.le_of_ble_eq_true rfl)
  rw [lg_entry_eq]
  generalize (lg_sl ([.ref (am 0), .int x1]) ++ List.replicate (4 - (lg_sl ([.ref (am 0), .int x1])).length) Slot.unset).toArray = ls at hl ⊢
  have hl : lv_has ls 4 [(0, .ref (am 0)), (1, .int x1)] := hl
  rw [pX11_now] at h
  refine lv_iconst (v := 0) hx hb dX11_now_0 (by decide) ?_
  refine lv_istore_n (lv' := [(2, .int 0), (0, .ref (am 0)), (1, .int x1)]) hx hb dX11_now_1 rfl hl (by decide) rfl (fun ls hl => ?_)
  refine lv_iload_n hx hb dX11_now_2 rfl (lv_at hl 2 rfl) ?_
  by_cases c3_0 : x1 = 0
  · replace h := k_ip c3_0 h
    refine lv_tableIn (tgt := 36) hx hb dX11_now_3 (by rw [c3_0] <;> decide) (by rw [c3_0] <;> decide) (by rw [c3_0] <;> rfl) (by decide) ?_
    refine lv_aload_n hx hb dX11_now_36 rfl (lv_at hl 1 rfl) ?_
    refine lv_iload_n hx hb dX11_now_37 rfl (lv_at hl 2 rfl) ?_
    obtain ⟨v1, e2, h⟩ := k_bd h
    refine rd_calli (va_runV (As := [.int x1]) (rest := []) C0.1 (kX11_those l (D := D) (cI := cI) (cB := cB) (cZ := cZ) (am := am) (τ := τ) σ x1 _ e2) (wX11_now_X11_those hts ⟨Nat.le_of_ble_eq_true rfl, Nat.le_of_ble_eq_true rfl⟩) ⟨PW.blind, mw_r0 hK hP, PW.mk hP hK hN⟩ rfl rfl hl.1 rfl (lv_room (Nat.le_of_ble_eq_true rfl)) dX11_now_38 ⟨Nat.zero_le _, Nat.zero_le _⟩) ?_
    obtain rfl := k_sm h
    exact W.iret hx hb hr (fun t ht hW => ⟨rfl, ht⟩) (fun _ h => by cases h) dX11_now_41
  replace h := k_in c3_0 h
  by_cases c3_1 : x1 = 1
  · replace h := k_ip c3_1 h
    refine lv_tableIn (tgt := 36) hx hb dX11_now_3 (by rw [c3_1] <;> decide) (by rw [c3_1] <;> decide) (by rw [c3_1] <;> rfl) (by decide) ?_
    refine lv_aload_n hx hb dX11_now_36 rfl (lv_at hl 1 rfl) ?_
    refine lv_iload_n hx hb dX11_now_37 rfl (lv_at hl 2 rfl) ?_
    obtain ⟨v3, e4, h⟩ := k_bd h
    refine rd_calli (va_runV (As := [.int x1]) (rest := []) C0.1 (kX11_those l (D := D) (cI := cI) (cB := cB) (cZ := cZ) (am := am) (τ := τ) σ x1 _ e4) (wX11_now_X11_those hts ⟨Nat.le_of_ble_eq_true rfl, Nat.le_of_ble_eq_true rfl⟩) ⟨PW.blind, mw_r0 hK hP, PW.mk hP hK hN⟩ rfl rfl hl.1 rfl (lv_room (Nat.le_of_ble_eq_true rfl)) dX11_now_38 ⟨Nat.zero_le _, Nat.zero_le _⟩) ?_
    obtain rfl := k_sm h
    exact W.iret hx hb hr (fun t ht hW => ⟨rfl, ht⟩) (fun _ h => by cases h) dX11_now_41
  replace h := k_in c3_1 h
  by_cases c3_2 : x1 = 2
  · replace h := k_ip c3_2 h
    refine lv_tableIn (tgt := 36) hx hb dX11_now_3 (by rw [c3_2] <;> decide) (by rw [c3_2] <;> decide) (by rw [c3_2] <;> rfl) (by decide) ?_
    refine lv_aload_n hx hb dX11_now_36 rfl (lv_at hl 1 rfl) ?_
    refine lv_iload_n hx hb dX11_now_37 rfl (lv_at hl 2 rfl) ?_
    obtain ⟨v5, e6, h⟩ := k_bd h
    refine rd_calli (va_runV (As := [.int x1]) (rest := []) C0.1 (kX11_those l (D := D) (cI := cI) (cB := cB) (cZ := cZ) (am := am) (τ := τ) σ x1 _ e6) (wX11_now_X11_those hts ⟨Nat.le_of_ble_eq_true rfl, Nat.le_of_ble_eq_true rfl⟩) ⟨PW.blind, mw_r0 hK hP, PW.mk hP hK hN⟩ rfl rfl hl.1 rfl (lv_room (Nat.le_of_ble_eq_true rfl)) dX11_now_38 ⟨Nat.zero_le _, Nat.zero_le _⟩) ?_
    obtain rfl := k_sm h
    exact W.iret hx hb hr (fun t ht hW => ⟨rfl, ht⟩) (fun _ h => by cases h) dX11_now_41
  replace h := k_in c3_2 h
  by_cases c3_3 : x1 = 3
  · replace h := k_ip c3_3 h
    refine lv_tableIn (tgt := 42) hx hb dX11_now_3 (by rw [c3_3] <;> decide) (by rw [c3_3] <;> decide) (by rw [c3_3] <;> rfl) (by decide) ?_
    refine lv_aload_n hx hb dX11_now_42 rfl (lv_at hl 1 rfl) ?_
    refine va_get (D := D) (ci := 11) (v := .ref (am 13)) (C := RX11) (T := TX11) (N := 30) hx hb hts iX11_now_X11 hown hK hP 0 mw_0 rfl 19 (by decide) (hts (.fieldLink RX11 47 RX11 "now" "[I") (by decide +kernel)) (fun _ h9 => h9) rfl dX11_now_43 ?_
    refine lv_bipush (v := 32) hx hb dX11_now_46 (by decide) ?_
    obtain ⟨v7, e8, h⟩ := k_bd h
    refine va_iald hx hb hK hP 13 0 mw_13 rfl (k_rd e8).1 dX11_now_48 ?_
    refine lv_nmi (k_rd e8).2 ?_
    obtain rfl := k_sm h
    exact W.iret hx hb hr (fun t ht hW => ⟨rfl, ht⟩) (fun _ h => by cases h) dX11_now_49
  replace h := k_in c3_3 h
  by_cases c3_4 : x1 = 4
  · replace h := k_ip c3_4 h
    refine lv_tableIn (tgt := 50) hx hb dX11_now_3 (by rw [c3_4] <;> decide) (by rw [c3_4] <;> decide) (by rw [c3_4] <;> rfl) (by decide) ?_
    refine lv_iconst (v := 0) hx hb dX11_now_50 (by decide) ?_
    refine lv_istore_n (lv' := [(3, .int 0), (2, .int 0), (0, .ref (am 0)), (1, .int x1)]) hx hb dX11_now_51 rfl hl (by decide) rfl (fun ls hl => ?_)
    obtain ⟨w15, e16, h⟩ := k_bd h
    refine bX11_now_L52 C0 hK hN hP  2000 0 0 _ ls (lv_sub hl [2, 1, 0] rfl) e16 (fun ls hl => ?_)
    refine lv_iload_n hx hb dX11_now_80 rfl (lv_at hl 0 rfl) ?_
    obtain rfl := k_sm h
    exact W.iret hx hb hr (fun t ht hW => ⟨rfl, ht⟩) (fun _ h => by cases h) dX11_now_81
  replace h := k_in c3_4 h
  refine lv_tableOut (tgt := 82) hx hb dX11_now_3 (by have z0 := lv_neT (a := 0) c3_0 (by decide); have z1 := lv_neT (a := 1) c3_1 (by decide); have z2 := lv_neT (a := 2) c3_2 (by decide); have z3 := lv_neT (a := 3) c3_3 (by decide); have z4 := lv_neT (a := 4) c3_4 (by decide); omega) (by decide) ?_
  refine lv_iconst (v := (-1)) hx hb dX11_now_82 (by decide) ?_
  obtain rfl := k_sm h
  exact W.iret hx hb hr (fun t ht hW => ⟨rfl, ht⟩) (fun _ h => by cases h) dX11_now_83
set_option maxHeartbeats 4000000 in
set_option maxRecDepth 100000 in
theorem bX11_needs_L40 {p : Program} {l : Launch} {e : Env} {s : State} {m : MethodId} {args : Array Value} {below : List Frame} {meth : Method} {c : Code} {D : va_G} {cI cB cZ : ClassId} {am : Nat → Nat} (C0 : Cx p s m args meth c cX11_needs 5 (some .int) RX11 wsX11_needs) (hK : va_K D vwCl (tysA cI cB cZ) s) (hN : NW s) {τ : Int64} {σ : Sg} (hP : va_P D vwCl (MW cI cB cZ am τ σ) s.heap) (x1 : Int32) (x2 : Int32) (x3 : Int32) : ∀ (n : Nat) (x4 : Int32) (o : Int32) (ls : Array Slot), lv_has ls 5 [(0, .ref (am 0)), (1, .int x1), (2, .int x2), (3, .int x3), (4, .int x4)] → pX11_needs_L40 σ x1 x2 x3 n x4 = some o → W p l e rmX11_needs s m args below meth c s.heap [] 0 0 (MQ below (QcRead o) args s 0 0 (fun _ => False)) (F0 m 40 ls []) := by
  obtain ⟨⟨hx, hb, hml, hown, hts⟩, hr, hlk⟩ := id C0
  intro n
  induction n with
  | zero =>
    intro x4 o ls hl h
    exact absurd h (by simp [pX11_needs_L40])
  | succ n ih =>
    intro x4 o ls hl h
    rw [pX11_needs_L40] at h
    refine lv_iload hx hb dX11_needs_40 (lv_at hl 4 rfl) ?_
    refine lv_bipush (v := 60) hx hb dX11_needs_42 (by decide) ?_
    refine lv_icmp_gt (tgt := 85) hx hb dX11_needs_44 (by decide) (fun c44 => ?_) (fun c44 => ?_)
    · replace h := k_ip c44 h
      refine lv_bipush (v := (-9)) hx hb dX11_needs_85 (by decide) ?_
      obtain rfl := k_sm h
      exact W.iret hx hb hr (fun t ht hW => ⟨rfl, ht⟩) (fun _ h => by cases h) dX11_needs_87
    · replace h := k_in c44 h
      refine lv_aload_n hx hb dX11_needs_47 rfl (lv_at hl 0 rfl) ?_
      refine va_get (D := D) (ci := 11) (v := .ref (am 10)) (C := RX11) (T := TX11) (N := 30) hx hb hts iX11_needs_X11 hown hK hP 0 mw_0 rfl 10 (by decide) (hts (.fieldLink RX11 38 RX11 "weight" "[I") (by decide +kernel)) (fun _ h9 => h9) rfl dX11_needs_48 ?_
      refine lv_iload_n hx hb dX11_needs_51 rfl (lv_at hl 1 rfl) ?_
      obtain ⟨v7, e8, h⟩ := k_bd h
      refine va_iald hx hb hK hP 10 0 mw_10 rfl (k_rd e8).1 dX11_needs_52 ?_
      refine lv_nmi (k_rd e8).2 ?_
      refine lv_aload_n hx hb dX11_needs_53 rfl (lv_at hl 0 rfl) ?_
      refine va_get (D := D) (ci := 11) (v := .ref (am 3)) (C := RX11) (T := TX11) (N := 30) hx hb hts iX11_needs_X11 hown hK hP 0 mw_0 rfl 3 (by decide) (hts (.fieldLink RX11 17 RX11 "grip" "[I") (by decide +kernel)) (fun _ h9 => h9) rfl dX11_needs_54 ?_
      refine lv_iload_n hx hb dX11_needs_57 rfl (lv_at hl 3 rfl) ?_
      obtain ⟨v9, e10, h⟩ := k_bd h
      refine va_iald hx hb hK hP 3 0 mw_3 rfl (k_rd e10).1 dX11_needs_58 ?_
      refine lv_nmi (k_rd e10).2 ?_
      refine lv_iconst (v := 1) hx hb dX11_needs_59 (by decide) ?_
      refine lv_iadd hx hb dX11_needs_60 ?_
      refine lv_imul hx hb dX11_needs_61 ?_
      refine lv_iload hx hb dX11_needs_62 (lv_at hl 4 rfl) ?_
      refine lv_aload_n hx hb dX11_needs_64 rfl (lv_at hl 0 rfl) ?_
      refine va_get (D := D) (ci := 11) (v := .ref (am 2)) (C := RX11) (T := TX11) (N := 30) hx hb hts iX11_needs_X11 hown hK hP 0 mw_0 rfl 2 (by decide) (hts (.fieldLink RX11 13 RX11 "deep" "[I") (by decide +kernel)) (fun _ h9 => h9) rfl dX11_needs_65 ?_
      refine lv_iload_n hx hb dX11_needs_68 rfl (lv_at hl 3 rfl) ?_
      obtain ⟨v11, e12, h⟩ := k_bd h
      refine va_iald hx hb hK hP 2 0 mw_2 rfl (k_rd e12).1 dX11_needs_69 ?_
      refine lv_nmi (k_rd e12).2 ?_
      obtain ⟨v13, e14, h⟩ := k_bd h
      refine lv_idiv hx hb dX11_needs_70 (k_dv e14).1 ?_
      refine lv_nmi (k_dv e14).2 ?_
      refine lv_iadd hx hb dX11_needs_71 ?_
      refine lv_iload_n hx hb dX11_needs_72 rfl (lv_at hl 2 rfl) ?_
      refine lv_icmp_lt (tgt := 79) hx hb dX11_needs_73 (by decide) (fun c73 => ?_) (fun c73 => ?_)
      · replace h := k_ip c73 h
        refine lv_iinc (v := (x4 + 1)) (lv' := [(4, .int (x4 + 1)), (0, .ref (am 0)), (1, .int x1), (2, .int x2), (3, .int x3)]) hx hb dX11_needs_79 hl (k := 4) rfl rfl (by decide) rfl (fun ls hl => ?_)
        refine lv_goto (tgt := 40) hx hb dX11_needs_82 (by decide) ?_
        exact ih (x4 + 1) _ ls (lv_sub hl [1, 2, 3, 4, 0] rfl) h
      · replace h := k_in c73 h
        refine lv_iload hx hb dX11_needs_76 (lv_at hl 4 rfl) ?_
        obtain rfl := k_sm h
        exact W.iret hx hb hr (fun t ht hW => ⟨rfl, ht⟩) (fun _ h => by cases h) dX11_needs_78
set_option maxHeartbeats 4000000 in
set_option maxRecDepth 100000 in
theorem kX11_needs (l : Launch) {D : va_G} {cI cB cZ : ClassId} {am : Nat → Nat} {τ : Int64} (σ : Sg) (x1 : Int32) (x2 : Int32) (o : Int32) (h : pX11_needs σ x1 x2 = some o) : Met l yX11_needs wsX11_needs rmX11_needs (va_Pc [.ref (am 0), .int x1, .int x2] (PW D cI cB cZ (MW cI cB cZ am τ σ))) (QcRead o) 0 0 (fun _ => False) := by
  refine Met.ofW (cc := cX11_needs) (maxL := 5) (ret := (some .int)) (by decide) rfl ?_
  intro p e s m args below meth c s₁ B hml hv
  obtain ⟨rfl, hP, hK, hN⟩ := hv
  have C0 : Cx p s m _ meth c cX11_needs 5 (some .int) RX11 wsX11_needs := ⟨⟨B.exec, B.bytes, hml, findClass_of_methodNamed B.named, atoms_spec B.pre⟩, B.returns, B.notSynchronized⟩
  obtain ⟨⟨hx, hb, -, hown, hts⟩, hr, hlk⟩ := id C0
  have hl := lv_entry ([.ref (am 0), .int x1, .int x2]) (n := 5) (Nat.le_of_ble_eq_true rfl)
  rw [lg_entry_eq]
  generalize (lg_sl ([.ref (am 0), .int x1, .int x2]) ++ List.replicate (5 - (lg_sl ([.ref (am 0), .int x1, .int x2])).length) Slot.unset).toArray = ls at hl ⊢
  have hl : lv_has ls 5 [(0, .ref (am 0)), (1, .int x1), (2, .int x2)] := hl
  rw [pX11_needs] at h
  refine lv_aload_n hx hb dX11_needs_0 rfl (lv_at hl 0 rfl) ?_
  refine lv_iload_n hx hb dX11_needs_1 rfl (lv_at hl 1 rfl) ?_
  obtain ⟨v1, e2, h⟩ := k_bd h
  refine rd_calli (va_runV (As := [.int x1]) (rest := []) C0.1 (kX11_isAnchor l (D := D) (cI := cI) (cB := cB) (cZ := cZ) (am := am) (τ := τ) σ x1 _ e2) (wX11_needs_X11_isAnchor hts ⟨Nat.le_of_ble_eq_true rfl, Nat.le_of_ble_eq_true rfl⟩) ⟨PW.blind, mw_r0 hK hP, PW.mk hP hK hN⟩ rfl rfl hl.1 rfl (lv_room (Nat.le_of_ble_eq_true rfl)) dX11_needs_2 ⟨Nat.zero_le _, Nat.zero_le _⟩) ?_
  refine lv_if_eq (tgt := 15) hx hb dX11_needs_5 (by decide) (fun c5 => ?_) (fun c5 => ?_)
  · replace h := k_ip c5 h
    refine lv_iconst (v := (-1)) hx hb dX11_needs_15 (by decide) ?_
    obtain rfl := k_sm h
    exact W.iret hx hb hr (fun t ht hW => ⟨rfl, ht⟩) (fun _ h => by cases h) dX11_needs_16
  · replace h := k_in c5 h
    refine lv_iload_n hx hb dX11_needs_8 rfl (lv_at hl 2 rfl) ?_
    refine rd_calli (va_runS (As := [.int x2]) (rest := []) C0.1 (kX11_isStorm l x2) (wX11_needs_X11_isStorm hts ⟨Nat.le_of_ble_eq_true rfl, Nat.le_of_ble_eq_true rfl⟩) ⟨PT.blind, fun _ _ _ => ⟨rfl, trivial⟩⟩ rfl rfl hl.1 rfl (lv_room (Nat.le_of_ble_eq_true rfl)) dX11_needs_9 ⟨Nat.zero_le _, Nat.zero_le _⟩) ?_
    refine lv_if_ne (tgt := 17) hx hb dX11_needs_12 (by decide) (fun c12 => ?_) (fun c12 => ?_)
    · replace h := k_in c12 h
      refine lv_aload_n hx hb dX11_needs_17 rfl (lv_at hl 0 rfl) ?_
      refine lv_iload_n hx hb dX11_needs_18 rfl (lv_at hl 1 rfl) ?_
      obtain ⟨v3, e4, h⟩ := k_bd h
      refine rd_calli (va_runV (As := [.int x1]) (rest := []) C0.1 (kX11_isLying l (D := D) (cI := cI) (cB := cB) (cZ := cZ) (am := am) (τ := τ) σ x1 _ e4) (wX11_needs_X11_isLying hts ⟨Nat.le_of_ble_eq_true rfl, Nat.le_of_ble_eq_true rfl⟩) ⟨PW.blind, mw_r0 hK hP, PW.mk hP hK hN⟩ rfl rfl hl.1 rfl (lv_room (Nat.le_of_ble_eq_true rfl)) dX11_needs_19 ⟨Nat.zero_le _, Nat.zero_le _⟩) ?_
      refine lv_if_ne (tgt := 28) hx hb dX11_needs_22 (by decide) (fun c22 => ?_) (fun c22 => ?_)
      · replace h := k_in c22 h
        refine lv_aload_n hx hb dX11_needs_28 rfl (lv_at hl 0 rfl) ?_
        refine va_get (D := D) (ci := 11) (v := .ref (am 13)) (C := RX11) (T := TX11) (N := 30) hx hb hts iX11_needs_X11 hown hK hP 0 mw_0 rfl 19 (by decide) (hts (.fieldLink RX11 47 RX11 "now" "[I") (by decide +kernel)) (fun _ h9 => h9) rfl dX11_needs_29 ?_
        refine lv_iconst (v := 0) hx hb dX11_needs_32 (by decide) ?_
        refine lv_iload_n hx hb dX11_needs_33 rfl (lv_at hl 1 rfl) ?_
        refine lv_iadd hx hb dX11_needs_34 ?_
        obtain ⟨v5, e6, h⟩ := k_bd h
        refine va_iald hx hb hK hP 13 0 mw_13 rfl (k_rd e6).1 dX11_needs_35 ?_
        refine lv_nmi (k_rd e6).2 ?_
        refine lv_istore_n (lv' := [(3, .int v5), (0, .ref (am 0)), (1, .int x1), (2, .int x2)]) hx hb dX11_needs_36 rfl hl (by decide) rfl (fun ls hl => ?_)
        refine lv_iconst (v := 1) hx hb dX11_needs_37 (by decide) ?_
        refine lv_istore (lv' := [(4, .int 1), (3, .int v5), (0, .ref (am 0)), (1, .int x1), (2, .int x2)]) hx hb dX11_needs_38 hl (by decide) rfl (fun ls hl => ?_)
        exact bX11_needs_L40 C0 hK hN hP x1 x2 v5 2000 1 _ ls (lv_sub hl [2, 3, 4, 1, 0] rfl) h
      · replace h := k_ip c22 h
        refine lv_bipush (v := (-2)) hx hb dX11_needs_25 (by decide) ?_
        obtain rfl := k_sm h
        exact W.iret hx hb hr (fun t ht hW => ⟨rfl, ht⟩) (fun _ h => by cases h) dX11_needs_27
    · replace h := k_ip c12 h
      refine lv_iconst (v := (-1)) hx hb dX11_needs_15 (by decide) ?_
      obtain rfl := k_sm h
      exact W.iret hx hb hr (fun t ht hW => ⟨rfl, ht⟩) (fun _ h => by cases h) dX11_needs_16
set_option maxHeartbeats 4000000 in
set_option maxRecDepth 100000 in
theorem kX11_after (l : Launch) {D : va_G} {cI cB cZ : ClassId} {am : Nat → Nat} {τ : Int64} (σ : Sg) (x1 : Int32) (x2 : Int32) (x3 : Int32) (o : Int32) (h : pX11_after σ x1 x2 x3 = some o) : Met l yX11_after wsX11_after rmX11_after (va_Pc [.ref (am 0), .int x1, .int x2, .int x3] (PW D cI cB cZ (MW cI cB cZ am τ σ))) (QcRead o) 0 0 (fun _ => False) := by
  refine Met.ofW (cc := cX11_after) (maxL := 5) (ret := (some .int)) (by decide) rfl ?_
  intro p e s m args below meth c s₁ B hml hv
  obtain ⟨rfl, hP, hK, hN⟩ := hv
  have C0 : Cx p s m _ meth c cX11_after 5 (some .int) RX11 wsX11_after := ⟨⟨B.exec, B.bytes, hml, findClass_of_methodNamed B.named, atoms_spec B.pre⟩, B.returns, B.notSynchronized⟩
  obtain ⟨⟨hx, hb, -, hown, hts⟩, hr, hlk⟩ := id C0
  have hl := lv_entry ([.ref (am 0), .int x1, .int x2, .int x3]) (n := 5) (Nat.le_of_ble_eq_true rfl)
  rw [lg_entry_eq]
  generalize (lg_sl ([.ref (am 0), .int x1, .int x2, .int x3]) ++ List.replicate (5 - (lg_sl ([.ref (am 0), .int x1, .int x2, .int x3])).length) Slot.unset).toArray = ls at hl ⊢
  have hl : lv_has ls 5 [(0, .ref (am 0)), (1, .int x1), (2, .int x2), (3, .int x3)] := hl
  rw [pX11_after] at h
  refine lv_aload_n hx hb dX11_after_0 rfl (lv_at hl 0 rfl) ?_
  refine lv_iload_n hx hb dX11_after_1 rfl (lv_at hl 1 rfl) ?_
  obtain ⟨v1, e2, h⟩ := k_bd h
  refine rd_calli (va_runV (As := [.int x1]) (rest := []) C0.1 (kX11_isAnchor l (D := D) (cI := cI) (cB := cB) (cZ := cZ) (am := am) (τ := τ) σ x1 _ e2) (wX11_after_X11_isAnchor hts ⟨Nat.le_of_ble_eq_true rfl, Nat.le_of_ble_eq_true rfl⟩) ⟨PW.blind, mw_r0 hK hP, PW.mk hP hK hN⟩ rfl rfl hl.1 rfl (lv_room (Nat.le_of_ble_eq_true rfl)) dX11_after_2 ⟨Nat.zero_le _, Nat.zero_le _⟩) ?_
  refine lv_if_eq (tgt := 22) hx hb dX11_after_5 (by decide) (fun c5 => ?_) (fun c5 => ?_)
  · replace h := k_ip c5 h
    refine lv_iconst (v := (-1)) hx hb dX11_after_22 (by decide) ?_
    obtain rfl := k_sm h
    exact W.iret hx hb hr (fun t ht hW => ⟨rfl, ht⟩) (fun _ h => by cases h) dX11_after_23
  · replace h := k_in c5 h
    refine lv_iload_n hx hb dX11_after_8 rfl (lv_at hl 2 rfl) ?_
    refine rd_calli (va_runS (As := [.int x2]) (rest := []) C0.1 (kX11_isStorm l x2) (wX11_after_X11_isStorm hts ⟨Nat.le_of_ble_eq_true rfl, Nat.le_of_ble_eq_true rfl⟩) ⟨PT.blind, fun _ _ _ => ⟨rfl, trivial⟩⟩ rfl rfl hl.1 rfl (lv_room (Nat.le_of_ble_eq_true rfl)) dX11_after_9 ⟨Nat.zero_le _, Nat.zero_le _⟩) ?_
    refine lv_if_eq (tgt := 22) hx hb dX11_after_12 (by decide) (fun c12 => ?_) (fun c12 => ?_)
    · replace h := k_ip c12 h
      refine lv_iconst (v := (-1)) hx hb dX11_after_22 (by decide) ?_
      obtain rfl := k_sm h
      exact W.iret hx hb hr (fun t ht hW => ⟨rfl, ht⟩) (fun _ h => by cases h) dX11_after_23
    · replace h := k_in c12 h
      refine lv_iload_n hx hb dX11_after_15 rfl (lv_at hl 3 rfl) ?_
      refine rd_calli (va_runS (As := [.int x3]) (rest := []) C0.1 (kX11_isSide l x3) (wX11_after_X11_isSide hts ⟨Nat.le_of_ble_eq_true rfl, Nat.le_of_ble_eq_true rfl⟩) ⟨PT.blind, fun _ _ _ => ⟨rfl, trivial⟩⟩ rfl rfl hl.1 rfl (lv_room (Nat.le_of_ble_eq_true rfl)) dX11_after_16 ⟨Nat.zero_le _, Nat.zero_le _⟩) ?_
      refine lv_if_ne (tgt := 24) hx hb dX11_after_19 (by decide) (fun c19 => ?_) (fun c19 => ?_)
      · replace h := k_in c19 h
        refine lv_aload_n hx hb dX11_after_24 rfl (lv_at hl 0 rfl) ?_
        refine lv_iload_n hx hb dX11_after_25 rfl (lv_at hl 1 rfl) ?_
        obtain ⟨v3, e4, h⟩ := k_bd h
        refine rd_calli (va_runV (As := [.int x1]) (rest := []) C0.1 (kX11_isLying l (D := D) (cI := cI) (cB := cB) (cZ := cZ) (am := am) (τ := τ) σ x1 _ e4) (wX11_after_X11_isLying hts ⟨Nat.le_of_ble_eq_true rfl, Nat.le_of_ble_eq_true rfl⟩) ⟨PW.blind, mw_r0 hK hP, PW.mk hP hK hN⟩ rfl rfl hl.1 rfl (lv_room (Nat.le_of_ble_eq_true rfl)) dX11_after_26 ⟨Nat.zero_le _, Nat.zero_le _⟩) ?_
        refine lv_if_ne (tgt := 35) hx hb dX11_after_29 (by decide) (fun c29 => ?_) (fun c29 => ?_)
        · replace h := k_in c29 h
          refine lv_aload_n hx hb dX11_after_35 rfl (lv_at hl 0 rfl) ?_
          refine va_get (D := D) (ci := 11) (v := .ref (am 13)) (C := RX11) (T := TX11) (N := 30) hx hb hts iX11_after_X11 hown hK hP 0 mw_0 rfl 19 (by decide) (hts (.fieldLink RX11 47 RX11 "now" "[I") (by decide +kernel)) (fun _ h9 => h9) rfl dX11_after_36 ?_
          refine lv_iconst (v := 0) hx hb dX11_after_39 (by decide) ?_
          refine lv_iload_n hx hb dX11_after_40 rfl (lv_at hl 1 rfl) ?_
          refine lv_iadd hx hb dX11_after_41 ?_
          obtain ⟨v5, e6, h⟩ := k_bd h
          refine va_iald hx hb hK hP 13 0 mw_13 rfl (k_rd e6).1 dX11_after_42 ?_
          refine lv_nmi (k_rd e6).2 ?_
          refine lv_istore (lv' := [(4, .int v5), (0, .ref (am 0)), (1, .int x1), (2, .int x2), (3, .int x3)]) hx hb dX11_after_43 hl (by decide) rfl (fun ls hl => ?_)
          refine lv_aload_n hx hb dX11_after_45 rfl (lv_at hl 1 rfl) ?_
          refine lv_iload_n hx hb dX11_after_46 rfl (lv_at hl 2 rfl) ?_
          obtain ⟨v7, e8, h⟩ := k_bd h
          refine rd_calli (va_runV (As := [.int x1]) (rest := []) C0.1 (kX11_hold l (D := D) (cI := cI) (cB := cB) (cZ := cZ) (am := am) (τ := τ) σ x1 _ e8) (wX11_after_X11_hold hts ⟨Nat.le_of_ble_eq_true rfl, Nat.le_of_ble_eq_true rfl⟩) ⟨PW.blind, mw_r0 hK hP, PW.mk hP hK hN⟩ rfl rfl hl.1 rfl (lv_room (Nat.le_of_ble_eq_true rfl)) dX11_after_47 ⟨Nat.zero_le _, Nat.zero_le _⟩) ?_
          refine lv_iload_n hx hb dX11_after_50 rfl (lv_at hl 3 rfl) ?_
          refine lv_icmp_lt (tgt := 57) hx hb dX11_after_51 (by decide) (fun c51 => ?_) (fun c51 => ?_)
          · replace h := k_ip c51 h
            refine lv_iload hx hb dX11_after_57 (lv_at hl 0 rfl) ?_
            refine lv_iload_n hx hb dX11_after_59 rfl (lv_at hl 4 rfl) ?_
            obtain ⟨j9, e10, h⟩ := k_bd h
            have key : ∀ (ls : Array Slot), lv_has ls 5 [(3, .int x3), (4, .int v5)] → W p l e rmX11_after s m ([.ref (am 0), .int x1, .int x2, .int x3] : List Value).toArray below meth c s.heap [] 0 0 (MQ below (QcRead o) ([.ref (am 0), .int x1, .int x2, .int x3] : List Value).toArray s 0 0 (fun _ => False)) (F0 m 69 ls [.int j9, .int v5]) := by
              intro ls hl
              refine lv_icmp_ne (tgt := 77) hx hb dX11_after_69 (by decide) (fun c69 => ?_) (fun c69 => ?_)
              · replace h := k_in c69 h
                refine lv_iload hx hb dX11_after_77 (lv_at hl 1 rfl) ?_
                refine lv_iload_n hx hb dX11_after_79 rfl (lv_at hl 0 rfl) ?_
                refine lv_if_ne (tgt := 87) hx hb dX11_after_80 (by decide) (fun c80 => ?_) (fun c80 => ?_)
                · replace h := k_in c80 h
                  refine lv_iconst (v := 1) hx hb dX11_after_87 (by decide) ?_
                  refine lv_iadd hx hb dX11_after_88 ?_
                  obtain rfl := k_sm h
                  exact W.iret hx hb hr (fun t ht hW => ⟨rfl, ht⟩) (fun _ h => by cases h) dX11_after_89
                · replace h := k_ip c80 h
                  refine lv_iconst (v := (-1)) hx hb dX11_after_83 (by decide) ?_
                  refine lv_goto (tgt := 88) hx hb dX11_after_84 (by decide) ?_
                  refine lv_iadd hx hb dX11_after_88 ?_
                  obtain rfl := k_sm h
                  exact W.iret hx hb hr (fun t ht hW => ⟨rfl, ht⟩) (fun _ h => by cases h) dX11_after_89
              · replace h := k_ip c69 h
                refine lv_bipush (v := (-9)) hx hb dX11_after_72 (by decide) ?_
                refine lv_goto (tgt := 89) hx hb dX11_after_74 (by decide) ?_
                obtain rfl := k_sm h
                exact W.iret hx hb hr (fun t ht hW => ⟨rfl, ht⟩) (fun _ h => by cases h) dX11_after_89
            clear h
            have h := e10
            clear e10
            refine lv_if_ne (tgt := 67) hx hb dX11_after_60 (by decide) (fun c60 => ?_) (fun c60 => ?_)
            · replace h := k_in c60 h
              refine lv_bipush (v := 9) hx hb dX11_after_67 (by decide) ?_
              obtain rfl := k_sm h
              exact key _ (lv_sub hl [4, 0] rfl)
            · replace h := k_ip c60 h
              refine lv_iconst (v := 0) hx hb dX11_after_63 (by decide) ?_
              refine lv_goto (tgt := 69) hx hb dX11_after_64 (by decide) ?_
              obtain rfl := k_sm h
              exact key _ (lv_sub hl [4, 0] rfl)
          · replace h := k_in c51 h
            refine lv_iload hx hb dX11_after_54 (lv_at hl 0 rfl) ?_
            obtain rfl := k_sm h
            exact W.iret hx hb hr (fun t ht hW => ⟨rfl, ht⟩) (fun _ h => by cases h) dX11_after_56
        · replace h := k_ip c29 h
          refine lv_bipush (v := (-9)) hx hb dX11_after_32 (by decide) ?_
          obtain rfl := k_sm h
          exact W.iret hx hb hr (fun t ht hW => ⟨rfl, ht⟩) (fun _ h => by cases h) dX11_after_34
      · replace h := k_ip c19 h
        refine lv_iconst (v := (-1)) hx hb dX11_after_22 (by decide) ?_
        obtain rfl := k_sm h
        exact W.iret hx hb hr (fun t ht hW => ⟨rfl, ht⟩) (fun _ h => by cases h) dX11_after_23
set_option maxHeartbeats 4000000 in
set_option maxRecDepth 100000 in
theorem bX11_wreck_L30 {p : Program} {l : Launch} {e : Env} {s : State} {m : MethodId} {args : Array Value} {below : List Frame} {meth : Method} {c : Code} {Q : State → Prop} {D : va_G} {cI cB cZ : ClassId} {am : Nat → Nat} (C0 : Cx p s m args meth c cX11_wreck 11 (some .int) RX11 wsX11_wreck) (hK : va_K D vwCl (tysA cI cB cZ) s) (hN : NW s) (hap : mwX am) {τ : Int64} (x1 : Int32) (x2 : Int32) (x3 : Int32) : ∀ (n : Nat) (x4 : Int32) (σ : Sg) (v : Sg) (H : Heap) (locs : List Loc) (ls : Array Slot), va_P D vwCl (MW cI cB cZ am τ σ) H → va_S (mwA am) s.heap H locs → lv_has ls 11 [(0, .ref (am 0)), (1, .int x1), (2, .int x2), (3, .int x3), (4, .int x4)] → pX11_wreck_L30 x1 x2 x3 n x4 σ = some v → (∀ (H1 : Heap) (locs1 : List Loc) (ls1 : Array Slot), va_P D vwCl (MW cI cB cZ am τ v) H1 → va_S (mwA am) s.heap H1 locs1 → lv_has ls1 11 [(0, .ref (am 0)), (1, .int x1), (2, .int x2), (3, .int x3)] → W p l e rmX11_wreck s m args below meth c H1 locs1 0 0 Q (F0 m 57 ls1 [])) → W p l e rmX11_wreck s m args below meth c H locs 0 0 Q (F0 m 30 ls []) := by
  obtain ⟨⟨hx, hb, hml, hown, hts⟩, hr, hlk⟩ := id C0
  intro n
  induction n with
  | zero =>
    intro x4 σ v H locs ls hP hS hl h kk
    exact absurd h (by simp [pX11_wreck_L30])
  | succ n ih =>
    intro x4 σ v H locs ls hP hS hl h kk
    rw [pX11_wreck_L30] at h
    refine lv_iload hx hb dX11_wreck_30 (lv_at hl 4 rfl) ?_
    refine lv_bipush (v := 45) hx hb dX11_wreck_32 (by decide) ?_
    refine lv_icmp_ge (tgt := 57) hx hb dX11_wreck_34 (by decide) (fun c34 => ?_) (fun c34 => ?_)
    · replace h := k_ip c34 h
      obtain rfl := k_sm h
      exact kk _ _ _ hP hS (lv_sub hl [0, 1, 2, 3] rfl)
    · replace h := k_in c34 h
      refine lv_aload_n hx hb dX11_wreck_37 rfl (lv_at hl 0 rfl) ?_
      refine va_get (D := D) (ci := 11) (v := .ref (am 18)) (C := RX11) (T := TX11) (N := 30) hx hb hts iX11_wreck_X11 hown hK hP 0 mw_0 rfl 24 (by decide) (hts (.fieldLink RX11 63 RX11 "saved" "[I") (by decide +kernel)) (fun _ h9 => h9) rfl dX11_wreck_38 ?_
      refine lv_iload hx hb dX11_wreck_41 (lv_at hl 4 rfl) ?_
      refine lv_aload_n hx hb dX11_wreck_43 rfl (lv_at hl 0 rfl) ?_
      refine va_get (D := D) (ci := 11) (v := .ref (am 13)) (C := RX11) (T := TX11) (N := 30) hx hb hts iX11_wreck_X11 hown hK hP 0 mw_0 rfl 19 (by decide) (hts (.fieldLink RX11 47 RX11 "now" "[I") (by decide +kernel)) (fun _ h9 => h9) rfl dX11_wreck_44 ?_
      refine lv_iload hx hb dX11_wreck_47 (lv_at hl 4 rfl) ?_
      obtain ⟨v1, e2, h⟩ := k_bd h
      refine va_iald hx hb hK hP 13 0 mw_13 rfl (k_rd e2).1 dX11_wreck_49 ?_
      refine lv_nmi (k_rd e2).2 ?_
      obtain ⟨σ3, e4, h⟩ := k_bd h
      refine va_iast hx hb hK hP (mw_D hap) hS 18 0 mw_18 rfl (k_wr e4).1 dX11_wreck_50 (fun H locs hP _ hS => ?_)
      have hP := mw_s18 hP
      rw [(k_wr e4).2] at hP
      refine lv_iinc (v := (x4 + 1)) (lv' := [(4, .int (x4 + 1)), (0, .ref (am 0)), (1, .int x1), (2, .int x2), (3, .int x3)]) hx hb dX11_wreck_51 hl (k := 4) rfl rfl (by decide) rfl (fun ls hl => ?_)
      refine lv_goto (tgt := 30) hx hb dX11_wreck_54 (by decide) ?_
      exact ih (x4 + 1) σ3 _ _ _ ls hP hS (lv_sub hl [1, 2, 3, 4, 0] rfl) h kk
set_option maxHeartbeats 4000000 in
set_option maxRecDepth 100000 in
theorem bX11_wreck_L83 {p : Program} {l : Launch} {e : Env} {s : State} {m : MethodId} {args : Array Value} {below : List Frame} {meth : Method} {c : Code} {Q : State → Prop} {D : va_G} {cI cB cZ : ClassId} {am : Nat → Nat} (C0 : Cx p s m args meth c cX11_wreck 11 (some .int) RX11 wsX11_wreck) (hK : va_K D vwCl (tysA cI cB cZ) s) (hN : NW s) (hap : mwX am) {τ : Int64} (x1 : Int32) (x2 : Int32) (x3 : Int32) (x4 : Int32) (x5 : Int32) (x6 : Int32) : ∀ (n : Nat) (x7 : Int32) (x8 : Int32) (x9 : Int32) (σ : Sg) (v : (Int32 × Int32 × Sg)) (H : Heap) (locs : List Loc) (ls : Array Slot), va_P D vwCl (MW cI cB cZ am τ σ) H → va_S (mwA am) s.heap H locs → lv_has ls 11 [(0, .ref (am 0)), (1, .int x1), (2, .int x2), (3, .int x3), (4, .int x4), (5, .int x5), (6, .int x6), (7, .int x7), (8, .int x8), (9, .int x9)] → pX11_wreck_L83 x1 x2 x3 x4 x5 x6 n x7 x8 x9 σ = some v → (∀ (H1 : Heap) (locs1 : List Loc) (ls1 : Array Slot), va_P D vwCl (MW cI cB cZ am τ v.2.2) H1 → va_S (mwA am) s.heap H1 locs1 → lv_has ls1 11 [(0, .ref (am 0)), (1, .int x1), (2, .int x2), (3, .int x3), (4, .int x4), (5, .int x5), (6, .int x6), (7, .int v.1), (8, .int v.2.1)] → W p l e rmX11_wreck s m args below meth c H1 locs1 0 0 Q (F0 m 130 ls1 [])) → W p l e rmX11_wreck s m args below meth c H locs 0 0 Q (F0 m 83 ls []) := by
  obtain ⟨⟨hx, hb, hml, hown, hts⟩, hr, hlk⟩ := id C0
  intro n
  induction n with
  | zero =>
    intro x7 x8 x9 σ v H locs ls hP hS hl h kk
    exact absurd h (by simp [pX11_wreck_L83])
  | succ n ih =>
    intro x7 x8 x9 σ v H locs ls hP hS hl h kk
    rw [pX11_wreck_L83] at h
    refine lv_iload hx hb dX11_wreck_83 (lv_at hl 9 rfl) ?_
    refine lv_iload_n hx hb dX11_wreck_85 rfl (lv_at hl 2 rfl) ?_
    refine lv_icmp_ge (tgt := 130) hx hb dX11_wreck_86 (by decide) (fun c86 => ?_) (fun c86 => ?_)
    · replace h := k_ip c86 h
      obtain rfl := k_sm h
      exact kk _ _ _ hP hS (lv_sub hl [0, 1, 2, 3, 4, 5, 6, 7, 8] rfl)
    · replace h := k_in c86 h
      refine lv_iload hx hb dX11_wreck_89 (lv_at hl 6 rfl) ?_
      refine lv_iload_n hx hb dX11_wreck_91 rfl (lv_at hl 2 rfl) ?_
      refine lv_iconst (v := 1) hx hb dX11_wreck_92 (by decide) ?_
      refine lv_isub hx hb dX11_wreck_93 ?_
      refine lv_iload hx hb dX11_wreck_94 (lv_at hl 9 rfl) ?_
      refine lv_isub hx hb dX11_wreck_96 ?_
      refine lv_ishr hx hb dX11_wreck_97 ?_
      refine lv_iconst (v := 1) hx hb dX11_wreck_98 (by decide) ?_
      refine lv_iand hx hb dX11_wreck_99 ?_
      obtain ⟨v7, e8, h⟩ := k_bd h
      refine lv_nmi (k_sm e8) ?_
      refine lv_istore (lv' := [(10, .int v7), (0, .ref (am 0)), (1, .int x1), (2, .int x2), (3, .int x3), (4, .int x4), (5, .int x5), (6, .int x6), (7, .int x7), (8, .int x8), (9, .int x9)]) hx hb dX11_wreck_100 hl (by decide) rfl (fun ls hl => ?_)
      refine lv_iload hx hb dX11_wreck_102 (lv_at hl 9 rfl) ?_
      refine lv_iload hx hb dX11_wreck_104 (lv_at hl 0 rfl) ?_
      refine lv_iload hx hb dX11_wreck_106 (lv_at hl 10 rfl) ?_
      refine lv_ishl hx hb dX11_wreck_108 ?_
      refine lv_ior hx hb dX11_wreck_109 ?_
      obtain ⟨v9, e10, h⟩ := k_bd h
      refine lv_nmi (k_sm e10) ?_
      refine lv_istore (lv' := [(8, .int v9), (10, .int v7), (0, .ref (am 0)), (1, .int x1), (2, .int x2), (3, .int x3), (4, .int x4), (5, .int x5), (6, .int x6), (7, .int x7), (9, .int x9)]) hx hb dX11_wreck_110 hl (by decide) rfl (fun ls hl => ?_)
      refine lv_iload hx hb dX11_wreck_112 (lv_at hl 9 rfl) ?_
      refine lv_aload_n hx hb dX11_wreck_114 rfl (lv_at hl 2 rfl) ?_
      refine lv_iload_n hx hb dX11_wreck_115 rfl (lv_at hl 3 rfl) ?_
      refine lv_iload hx hb dX11_wreck_116 (lv_at hl 1 rfl) ?_
      obtain ⟨u11, e12, h⟩ := k_bd h
      refine wr_calli (va_runV (As := [.int x1, .int v7]) (rest := [.int x7]) C0.1 (kX11_blow l (D := D) (cI := cI) (cB := cB) (cZ := cZ) (τ := τ) hap σ x1 v7 _ e12) (wX11_wreck_X11_blow hts ⟨Nat.le_of_ble_eq_true rfl, Nat.le_of_ble_eq_true rfl⟩) ⟨PW.blind, mw_r0 hK hP, PW.mk hP hK hN⟩ rfl rfl hl.1 rfl (lv_room (Nat.le_of_ble_eq_true rfl)) dX11_wreck_118 ⟨Nat.zero_le _, Nat.zero_le _⟩) hS (fun _ h => h) (fun H locs hP hS => ?_)
      have hP : va_P D vwCl (MW cI cB cZ am τ u11.2) H := hP
      refine lv_iadd hx hb dX11_wreck_121 ?_
      obtain ⟨v13, e14, h⟩ := k_bd h
      refine lv_nmi (k_sm e14) ?_
      refine lv_istore (lv' := [(7, .int v13), (8, .int v9), (10, .int v7), (0, .ref (am 0)), (1, .int x1), (2, .int x2), (3, .int x3), (4, .int x4), (5, .int x5), (6, .int x6), (9, .int x9)]) hx hb dX11_wreck_122 hl (by decide) rfl (fun ls hl => ?_)
      refine lv_iinc (v := (x9 + 1)) (lv' := [(9, .int (x9 + 1)), (7, .int v13), (8, .int v9), (10, .int v7), (0, .ref (am 0)), (1, .int x1), (2, .int x2), (3, .int x3), (4, .int x4), (5, .int x5), (6, .int x6)]) hx hb dX11_wreck_124 hl (k := 10) rfl rfl (by decide) rfl (fun ls hl => ?_)
      refine lv_goto (tgt := 83) hx hb dX11_wreck_127 (by decide) ?_
      exact ih v13 v9 (x9 + 1) u11.2 _ _ _ ls hP hS (lv_sub hl [4, 5, 6, 7, 8, 9, 10, 1, 2, 0] rfl) h kk
set_option maxHeartbeats 4000000 in
set_option maxRecDepth 100000 in
theorem bX11_wreck_L133 {p : Program} {l : Launch} {e : Env} {s : State} {m : MethodId} {args : Array Value} {below : List Frame} {meth : Method} {c : Code} {Q : State → Prop} {D : va_G} {cI cB cZ : ClassId} {am : Nat → Nat} (C0 : Cx p s m args meth c cX11_wreck 11 (some .int) RX11 wsX11_wreck) (hK : va_K D vwCl (tysA cI cB cZ) s) (hN : NW s) (hap : mwX am) {τ : Int64} (x1 : Int32) (x2 : Int32) (x3 : Int32) (x4 : Int32) (x5 : Int32) (x6 : Int32) (x7 : Int32) (x8 : Int32) : ∀ (n : Nat) (x9 : Int32) (σ : Sg) (v : Sg) (H : Heap) (locs : List Loc) (ls : Array Slot), va_P D vwCl (MW cI cB cZ am τ σ) H → va_S (mwA am) s.heap H locs → lv_has ls 11 [(0, .ref (am 0)), (1, .int x1), (2, .int x2), (3, .int x3), (4, .int x4), (5, .int x5), (6, .int x6), (7, .int x7), (8, .int x8), (9, .int x9)] → pX11_wreck_L133 x1 x2 x3 x4 x5 x6 x7 x8 n x9 σ = some v → (∀ (H1 : Heap) (locs1 : List Loc) (ls1 : Array Slot), va_P D vwCl (MW cI cB cZ am τ v) H1 → va_S (mwA am) s.heap H1 locs1 → lv_has ls1 11 [(0, .ref (am 0)), (1, .int x1), (2, .int x2), (3, .int x3), (4, .int x4), (5, .int x5), (6, .int x6), (7, .int x7), (8, .int x8)] → W p l e rmX11_wreck s m args below meth c H1 locs1 0 0 Q (F0 m 160 ls1 [])) → W p l e rmX11_wreck s m args below meth c H locs 0 0 Q (F0 m 133 ls []) := by
  obtain ⟨⟨hx, hb, hml, hown, hts⟩, hr, hlk⟩ := id C0
  intro n
  induction n with
  | zero =>
    intro x9 σ v H locs ls hP hS hl h kk
    exact absurd h (by simp [pX11_wreck_L133])
  | succ n ih =>
    intro x9 σ v H locs ls hP hS hl h kk
    rw [pX11_wreck_L133] at h
    refine lv_iload hx hb dX11_wreck_133 (lv_at hl 9 rfl) ?_
    refine lv_bipush (v := 45) hx hb dX11_wreck_135 (by decide) ?_
    refine lv_icmp_ge (tgt := 160) hx hb dX11_wreck_137 (by decide) (fun c137 => ?_) (fun c137 => ?_)
    · replace h := k_ip c137 h
      obtain rfl := k_sm h
      exact kk _ _ _ hP hS (lv_sub hl [0, 1, 2, 3, 4, 5, 6, 7, 8] rfl)
    · replace h := k_in c137 h
      refine lv_aload_n hx hb dX11_wreck_140 rfl (lv_at hl 0 rfl) ?_
      refine va_get (D := D) (ci := 11) (v := .ref (am 13)) (C := RX11) (T := TX11) (N := 30) hx hb hts iX11_wreck_X11 hown hK hP 0 mw_0 rfl 19 (by decide) (hts (.fieldLink RX11 47 RX11 "now" "[I") (by decide +kernel)) (fun _ h9 => h9) rfl dX11_wreck_141 ?_
      refine lv_iload hx hb dX11_wreck_144 (lv_at hl 9 rfl) ?_
      refine lv_aload_n hx hb dX11_wreck_146 rfl (lv_at hl 0 rfl) ?_
      refine va_get (D := D) (ci := 11) (v := .ref (am 18)) (C := RX11) (T := TX11) (N := 30) hx hb hts iX11_wreck_X11 hown hK hP 0 mw_0 rfl 24 (by decide) (hts (.fieldLink RX11 63 RX11 "saved" "[I") (by decide +kernel)) (fun _ h9 => h9) rfl dX11_wreck_147 ?_
      refine lv_iload hx hb dX11_wreck_150 (lv_at hl 9 rfl) ?_
      obtain ⟨v17, e18, h⟩ := k_bd h
      refine va_iald hx hb hK hP 18 0 mw_18 rfl (k_rd e18).1 dX11_wreck_152 ?_
      refine lv_nmi (k_rd e18).2 ?_
      obtain ⟨σ19, e20, h⟩ := k_bd h
      refine va_iast hx hb hK hP (mw_D hap) hS 13 0 mw_13 rfl (k_wr e20).1 dX11_wreck_153 (fun H locs hP _ hS => ?_)
      have hP := mw_s13 hP
      rw [(k_wr e20).2] at hP
      refine lv_iinc (v := (x9 + 1)) (lv' := [(9, .int (x9 + 1)), (0, .ref (am 0)), (1, .int x1), (2, .int x2), (3, .int x3), (4, .int x4), (5, .int x5), (6, .int x6), (7, .int x7), (8, .int x8)]) hx hb dX11_wreck_154 hl (k := 9) rfl rfl (by decide) rfl (fun ls hl => ?_)
      refine lv_goto (tgt := 133) hx hb dX11_wreck_157 (by decide) ?_
      exact ih (x9 + 1) σ19 _ _ _ ls hP hS (lv_sub hl [1, 2, 3, 4, 5, 6, 7, 8, 9, 0] rfl) h kk
set_option maxHeartbeats 4000000 in
set_option maxRecDepth 100000 in
theorem bX11_wreck_L66 {p : Program} {l : Launch} {e : Env} {s : State} {m : MethodId} {args : Array Value} {below : List Frame} {meth : Method} {c : Code} {Q : State → Prop} {D : va_G} {cI cB cZ : ClassId} {am : Nat → Nat} (C0 : Cx p s m args meth c cX11_wreck 11 (some .int) RX11 wsX11_wreck) (hK : va_K D vwCl (tysA cI cB cZ) s) (hN : NW s) (hap : mwX am) {τ : Int64} (x1 : Int32) (x2 : Int32) (x3 : Int32) : ∀ (n : Nat) (x4 : Int32) (x5 : Int32) (x6 : Int32) (σ : Sg) (v : (Int32 × Int32 × Sg)) (H : Heap) (locs : List Loc) (ls : Array Slot), va_P D vwCl (MW cI cB cZ am τ σ) H → va_S (mwA am) s.heap H locs → lv_has ls 11 [(0, .ref (am 0)), (1, .int x1), (2, .int x2), (3, .int x3), (4, .int x4), (5, .int x5), (6, .int x6)] → pX11_wreck_L66 x1 x2 x3 n x4 x5 x6 σ = some v → (∀ (H1 : Heap) (locs1 : List Loc) (ls1 : Array Slot), va_P D vwCl (MW cI cB cZ am τ v.2.2) H1 → va_S (mwA am) s.heap H1 locs1 → lv_has ls1 11 [(3, .int x3), (4, .int v.1), (5, .int v.2.1)] → W p l e rmX11_wreck s m args below meth c H1 locs1 0 0 Q (F0 m 181 ls1 [])) → W p l e rmX11_wreck s m args below meth c H locs 0 0 Q (F0 m 66 ls []) := by
  obtain ⟨⟨hx, hb, hml, hown, hts⟩, hr, hlk⟩ := id C0
  intro n
  induction n with
  | zero =>
    intro x4 x5 x6 σ v H locs ls hP hS hl h kk
    exact absurd h (by simp [pX11_wreck_L66])
  | succ n ih =>
    intro x4 x5 x6 σ v H locs ls hP hS hl h kk
    rw [pX11_wreck_L66] at h
    refine lv_iload hx hb dX11_wreck_66 (lv_at hl 6 rfl) ?_
    refine lv_iconst (v := 1) hx hb dX11_wreck_68 (by decide) ?_
    refine lv_iload_n hx hb dX11_wreck_69 rfl (lv_at hl 2 rfl) ?_
    refine lv_ishl hx hb dX11_wreck_70 ?_
    refine lv_icmp_ge (tgt := 181) hx hb dX11_wreck_71 (by decide) (fun c71 => ?_) (fun c71 => ?_)
    · replace h := k_ip c71 h
      obtain rfl := k_sm h
      exact kk _ _ _ hP hS (lv_sub hl [3, 4, 5] rfl)
    · replace h := k_in c71 h
      refine lv_iconst (v := 0) hx hb dX11_wreck_74 (by decide) ?_
      refine lv_istore (lv' := [(7, .int 0), (0, .ref (am 0)), (1, .int x1), (2, .int x2), (3, .int x3), (4, .int x4), (5, .int x5), (6, .int x6)]) hx hb dX11_wreck_75 hl (by decide) rfl (fun ls hl => ?_)
      refine lv_iconst (v := 0) hx hb dX11_wreck_77 (by decide) ?_
      refine lv_istore (lv' := [(8, .int 0), (7, .int 0), (0, .ref (am 0)), (1, .int x1), (2, .int x2), (3, .int x3), (4, .int x4), (5, .int x5), (6, .int x6)]) hx hb dX11_wreck_78 hl (by decide) rfl (fun ls hl => ?_)
      refine lv_iconst (v := 0) hx hb dX11_wreck_80 (by decide) ?_
      refine lv_istore (lv' := [(9, .int 0), (8, .int 0), (7, .int 0), (0, .ref (am 0)), (1, .int x1), (2, .int x2), (3, .int x3), (4, .int x4), (5, .int x5), (6, .int x6)]) hx hb dX11_wreck_81 hl (by decide) rfl (fun ls hl => ?_)
      obtain ⟨w15, e16, h⟩ := k_bd h
      refine bX11_wreck_L83 C0 hK hN hap x1 x2 x3 x4 x5 x6 2000 0 0 0 σ _ _ _ ls hP hS (lv_sub hl [3, 4, 5, 6, 7, 8, 9, 2, 1, 0] rfl) e16 (fun H locs ls hP hS hl => ?_)
      refine lv_iconst (v := 0) hx hb dX11_wreck_130 (by decide) ?_
      refine lv_istore (lv' := [(9, .int 0), (0, .ref (am 0)), (1, .int x1), (2, .int x2), (3, .int x3), (4, .int x4), (5, .int x5), (6, .int x6), (7, .int w15.1), (8, .int w15.2.1)]) hx hb dX11_wreck_131 hl (by decide) rfl (fun ls hl => ?_)
      obtain ⟨w21, e22, h⟩ := k_bd h
      refine bX11_wreck_L133 C0 hK hN hap x1 x2 x3 x4 x5 x6 w15.1 w15.2.1 2000 0 w15.2.2 _ _ _ ls hP hS (lv_sub hl [1, 2, 3, 4, 5, 6, 7, 8, 9, 0] rfl) e22 (fun H locs ls hP hS hl => ?_)
      refine lv_iload hx hb dX11_wreck_160 (lv_at hl 7 rfl) ?_
      refine lv_iload hx hb dX11_wreck_162 (lv_at hl 4 rfl) ?_
      refine lv_icmp_le (tgt := 175) hx hb dX11_wreck_164 (by decide) (fun c164 => ?_) (fun c164 => ?_)
      · replace h := k_ip c164 h
        refine lv_iinc (v := (x6 + 1)) (lv' := [(6, .int (x6 + 1)), (0, .ref (am 0)), (1, .int x1), (2, .int x2), (3, .int x3), (4, .int x4), (5, .int x5), (7, .int w15.1), (8, .int w15.2.1)]) hx hb dX11_wreck_175 hl (k := 6) rfl rfl (by decide) rfl (fun ls hl => ?_)
        refine lv_goto (tgt := 66) hx hb dX11_wreck_178 (by decide) ?_
        exact ih x4 x5 (x6 + 1) w21 _ _ _ ls hP hS (lv_sub hl [1, 2, 3, 4, 5, 6, 0] rfl) h kk
      · replace h := k_in c164 h
        refine lv_iload hx hb dX11_wreck_167 (lv_at hl 7 rfl) ?_
        refine lv_istore (lv' := [(4, .int w15.1), (0, .ref (am 0)), (1, .int x1), (2, .int x2), (3, .int x3), (5, .int x5), (6, .int x6), (7, .int w15.1), (8, .int w15.2.1)]) hx hb dX11_wreck_169 hl (by decide) rfl (fun ls hl => ?_)
        refine lv_iload hx hb dX11_wreck_171 (lv_at hl 8 rfl) ?_
        refine lv_istore (lv' := [(5, .int w15.2.1), (4, .int w15.1), (0, .ref (am 0)), (1, .int x1), (2, .int x2), (3, .int x3), (6, .int x6), (7, .int w15.1), (8, .int w15.2.1)]) hx hb dX11_wreck_173 hl (by decide) rfl (fun ls hl => ?_)
        refine lv_iinc (v := (x6 + 1)) (lv' := [(6, .int (x6 + 1)), (5, .int w15.2.1), (4, .int w15.1), (0, .ref (am 0)), (1, .int x1), (2, .int x2), (3, .int x3), (7, .int w15.1), (8, .int w15.2.1)]) hx hb dX11_wreck_175 hl (k := 6) rfl rfl (by decide) rfl (fun ls hl => ?_)
        refine lv_goto (tgt := 66) hx hb dX11_wreck_178 (by decide) ?_
        exact ih w15.1 w15.2.1 (x6 + 1) w21 _ _ _ ls hP hS (lv_sub hl [3, 4, 5, 6, 2, 1, 0] rfl) h kk
set_option maxHeartbeats 4000000 in
set_option maxRecDepth 100000 in
theorem kX11_wreck (l : Launch) {D : va_G} {cI cB cZ : ClassId} {am : Nat → Nat} {τ : Int64} (hap : mwX am) (σ : Sg) (x1 : Int32) (x2 : Int32) (x3 : Int32) (o : (Int32 × Sg)) (h : pX11_wreck σ x1 x2 x3 = some o) : Met l yX11_wreck wsX11_wreck rmX11_wreck (va_Pc [.ref (am 0), .int x1, .int x2, .int x3] (PW D cI cB cZ (MW cI cB cZ am τ σ))) (QI D (MW cI cB cZ am τ) (mwA am) o.1 o.2) 0 0 (mwA am) := by
  refine Met.ofW (cc := cX11_wreck) (maxL := 11) (ret := (some .int)) (by decide) rfl ?_
  intro p e s m args below meth c s₁ B hml hv
  obtain ⟨rfl, hP, hK, hN⟩ := hv
  have C0 : Cx p s m _ meth c cX11_wreck 11 (some .int) RX11 wsX11_wreck := ⟨⟨B.exec, B.bytes, hml, findClass_of_methodNamed B.named, atoms_spec B.pre⟩, B.returns, B.notSynchronized⟩
  obtain ⟨⟨hx, hb, -, hown, hts⟩, hr, hlk⟩ := id C0
  have hS : va_S (mwA am) s.heap s.heap [] := va_S.rf
  have hl := lv_entry ([.ref (am 0), .int x1, .int x2, .int x3]) (n := 11) (Nat.le_of_ble_eq_true rfl)
  rw [lg_entry_eq]
  generalize (lg_sl ([.ref (am 0), .int x1, .int x2, .int x3]) ++ List.replicate (11 - (lg_sl ([.ref (am 0), .int x1, .int x2, .int x3])).length) Slot.unset).toArray = ls at hl ⊢
  have hl : lv_has ls 11 [(0, .ref (am 0)), (1, .int x1), (2, .int x2), (3, .int x3)] := hl
  rw [pX11_wreck] at h
  refine lv_iload_n hx hb dX11_wreck_0 rfl (lv_at hl 1 rfl) ?_
  refine rd_calli (va_runS (As := [.int x1]) (rest := []) C0.1 (kX11_isStorm l x1) (wX11_wreck_X11_isStorm hts ⟨Nat.le_of_ble_eq_true rfl, Nat.le_of_ble_eq_true rfl⟩) ⟨PT.blind, fun _ _ _ => ⟨rfl, trivial⟩⟩ rfl rfl hl.1 rfl (lv_room (Nat.le_of_ble_eq_true rfl)) dX11_wreck_1 ⟨Nat.zero_le _, Nat.zero_le _⟩) ?_
  refine lv_if_eq (tgt := 25) hx hb dX11_wreck_4 (by decide) (fun c4 => ?_) (fun c4 => ?_)
  · replace h := k_ip c4 h
    refine lv_iconst (v := (-1)) hx hb dX11_wreck_25 (by decide) ?_
    obtain rfl := k_sm h
    exact W.iret hx hb hr (fun t ht hW => ⟨⟨_, _, rfl, ⟨rfl, rfl⟩, pw_end ht hP⟩, hS.F ht⟩) hS.2.2 dX11_wreck_26
  · replace h := k_in c4 h
    refine lv_iload_n hx hb dX11_wreck_7 rfl (lv_at hl 2 rfl) ?_
    refine lv_iconst (v := 0) hx hb dX11_wreck_8 (by decide) ?_
    refine lv_iconst (v := 4) hx hb dX11_wreck_9 (by decide) ?_
    refine rd_calli (va_runS (As := [.int x2, .int 0, .int 4]) (rest := []) C0.1 (kX11_in l x2 0 4) (wX11_wreck_X11_in hts ⟨Nat.le_of_ble_eq_true rfl, Nat.le_of_ble_eq_true rfl⟩) ⟨PT.blind, fun _ _ _ => ⟨rfl, trivial⟩⟩ rfl rfl hl.1 rfl (lv_room (Nat.le_of_ble_eq_true rfl)) dX11_wreck_10 ⟨Nat.zero_le _, Nat.zero_le _⟩) ?_
    refine lv_if_eq (tgt := 25) hx hb dX11_wreck_13 (by decide) (fun c13 => ?_) (fun c13 => ?_)
    · replace h := k_ip c13 h
      refine lv_iconst (v := (-1)) hx hb dX11_wreck_25 (by decide) ?_
      obtain rfl := k_sm h
      exact W.iret hx hb hr (fun t ht hW => ⟨⟨_, _, rfl, ⟨rfl, rfl⟩, pw_end ht hP⟩, hS.F ht⟩) hS.2.2 dX11_wreck_26
    · replace h := k_in c13 h
      refine lv_iload_n hx hb dX11_wreck_16 rfl (lv_at hl 3 rfl) ?_
      refine lv_iconst (v := 0) hx hb dX11_wreck_17 (by decide) ?_
      refine lv_iconst (v := 1) hx hb dX11_wreck_18 (by decide) ?_
      refine rd_calli (va_runS (As := [.int x3, .int 0, .int 1]) (rest := []) C0.1 (kX11_in l x3 0 1) (wX11_wreck_X11_in hts ⟨Nat.le_of_ble_eq_true rfl, Nat.le_of_ble_eq_true rfl⟩) ⟨PT.blind, fun _ _ _ => ⟨rfl, trivial⟩⟩ rfl rfl hl.1 rfl (lv_room (Nat.le_of_ble_eq_true rfl)) dX11_wreck_19 ⟨Nat.zero_le _, Nat.zero_le _⟩) ?_
      refine lv_if_ne (tgt := 27) hx hb dX11_wreck_22 (by decide) (fun c22 => ?_) (fun c22 => ?_)
      · replace h := k_in c22 h
        refine lv_iconst (v := 0) hx hb dX11_wreck_27 (by decide) ?_
        refine lv_istore (lv' := [(4, .int 0), (0, .ref (am 0)), (1, .int x1), (2, .int x2), (3, .int x3)]) hx hb dX11_wreck_28 hl (by decide) rfl (fun ls hl => ?_)
        obtain ⟨w5, e6, h⟩ := k_bd h
        refine bX11_wreck_L30 C0 hK hN hap x1 x2 x3 2000 0 σ _ _ _ ls hP hS (lv_sub hl [1, 2, 3, 4, 0] rfl) e6 (fun H locs ls hP hS hl => ?_)
        refine lv_iconst (v := (-1)) hx hb dX11_wreck_57 (by decide) ?_
        refine lv_istore (lv' := [(4, .int (-1)), (0, .ref (am 0)), (1, .int x1), (2, .int x2), (3, .int x3)]) hx hb dX11_wreck_58 hl (by decide) rfl (fun ls hl => ?_)
        refine lv_iconst (v := 0) hx hb dX11_wreck_60 (by decide) ?_
        refine lv_istore (lv' := [(5, .int 0), (4, .int (-1)), (0, .ref (am 0)), (1, .int x1), (2, .int x2), (3, .int x3)]) hx hb dX11_wreck_61 hl (by decide) rfl (fun ls hl => ?_)
        refine lv_iconst (v := 0) hx hb dX11_wreck_63 (by decide) ?_
        refine lv_istore (lv' := [(6, .int 0), (5, .int 0), (4, .int (-1)), (0, .ref (am 0)), (1, .int x1), (2, .int x2), (3, .int x3)]) hx hb dX11_wreck_64 hl (by decide) rfl (fun ls hl => ?_)
        obtain ⟨w23, e24, h⟩ := k_bd h
        refine bX11_wreck_L66 C0 hK hN hap x1 x2 x3 2000 (-1) 0 0 w5 _ _ _ ls hP hS (lv_sub hl [3, 4, 5, 6, 2, 1, 0] rfl) e24 (fun H locs ls hP hS hl => ?_)
        refine lv_iload_n hx hb dX11_wreck_181 rfl (lv_at hl 0 rfl) ?_
        refine lv_if_ne (tgt := 190) hx hb dX11_wreck_182 (by decide) (fun c182 => ?_) (fun c182 => ?_)
        · replace h := k_in c182 h
          refine lv_iload hx hb dX11_wreck_190 (lv_at hl 2 rfl) ?_
          obtain rfl := k_sm h
          exact W.iret hx hb hr (fun t ht hW => ⟨⟨_, _, rfl, ⟨rfl, rfl⟩, pw_end ht hP⟩, hS.F ht⟩) hS.2.2 dX11_wreck_192
        · replace h := k_ip c182 h
          refine lv_iload hx hb dX11_wreck_185 (lv_at hl 1 rfl) ?_
          refine lv_goto (tgt := 192) hx hb dX11_wreck_187 (by decide) ?_
          obtain rfl := k_sm h
          exact W.iret hx hb hr (fun t ht hW => ⟨⟨_, _, rfl, ⟨rfl, rfl⟩, pw_end ht hP⟩, hS.F ht⟩) hS.2.2 dX11_wreck_192
      · replace h := k_ip c22 h
        refine lv_iconst (v := (-1)) hx hb dX11_wreck_25 (by decide) ?_
        obtain rfl := k_sm h
        exact W.iret hx hb hr (fun t ht hW => ⟨⟨_, _, rfl, ⟨rfl, rfl⟩, pw_end ht hP⟩, hS.F ht⟩) hS.2.2 dX11_wreck_26
set_option maxHeartbeats 4000000 in
set_option maxRecDepth 100000 in
theorem kX11_canLie (l : Launch) {D : va_G} {cI cB cZ : ClassId} {am : Nat → Nat} {τ : Int64} (σ : Sg) (x1 : Int32) (x2 : Int32) (x3 : Int32) (x4 : Int32) (o : Int32) (h : pX11_canLie σ x1 x2 x3 x4 = some o) : Met l yX11_canLie wsX11_canLie rmX11_canLie (va_Pc [.ref (am 0), .int x1, .int x2, .int x3, .int x4] (PW D cI cB cZ (MW cI cB cZ am τ σ))) (QcRead o) 0 0 (fun _ => False) := by
  refine Met.ofW (cc := cX11_canLie) (maxL := 5) (ret := (some .boolean)) (by decide) rfl ?_
  intro p e s m args below meth c s₁ B hml hv
  obtain ⟨rfl, hP, hK, hN⟩ := hv
  have C0 : Cx p s m _ meth c cX11_canLie 5 (some .boolean) RX11 wsX11_canLie := ⟨⟨B.exec, B.bytes, hml, findClass_of_methodNamed B.named, atoms_spec B.pre⟩, B.returns, B.notSynchronized⟩
  obtain ⟨⟨hx, hb, -, hown, hts⟩, hr, hlk⟩ := id C0
  have hl := lv_entry ([.ref (am 0), .int x1, .int x2, .int x3, .int x4]) (n := 5) (Nat.le_of_ble_eq_true rfl)
  rw [lg_entry_eq]
  generalize (lg_sl ([.ref (am 0), .int x1, .int x2, .int x3, .int x4]) ++ List.replicate (5 - (lg_sl ([.ref (am 0), .int x1, .int x2, .int x3, .int x4])).length) Slot.unset).toArray = ls at hl ⊢
  have hl : lv_has ls 5 [(0, .ref (am 0)), (1, .int x1), (2, .int x2), (3, .int x3), (4, .int x4)] := hl
  rw [pX11_canLie] at h
  refine lv_iload_n hx hb dX11_canLie_0 rfl (lv_at hl 3 rfl) ?_
  refine lv_iload_n hx hb dX11_canLie_1 rfl (lv_at hl 2 rfl) ?_
  refine rd_calli (va_runS (As := [.int x3, .int x2]) (rest := []) C0.1 (kX11_has l x3 x2) (wX11_canLie_X11_has hts ⟨Nat.le_of_ble_eq_true rfl, Nat.le_of_ble_eq_true rfl⟩) ⟨PT.blind, fun _ _ _ => ⟨rfl, trivial⟩⟩ rfl rfl hl.1 rfl (lv_room (Nat.le_of_ble_eq_true rfl)) dX11_canLie_2 ⟨Nat.zero_le _, Nat.zero_le _⟩) ?_
  refine lv_if_ne (tgt := 44) hx hb dX11_canLie_5 (by decide) (fun c5 => ?_) (fun c5 => ?_)
  · replace h := k_in c5 h
    refine lv_iconst (v := 0) hx hb dX11_canLie_44 (by decide) ?_
    obtain rfl := k_sm h
    exact W.zret hx hb hr rfl (fun t ht hW => ⟨rfl, ht⟩) (fun _ h => by cases h) dX11_canLie_45
  · replace h := k_ip c5 h
    refine lv_aload_n hx hb dX11_canLie_8 rfl (lv_at hl 0 rfl) ?_
    refine lv_iload_n hx hb dX11_canLie_9 rfl (lv_at hl 1 rfl) ?_
    refine lv_iload_n hx hb dX11_canLie_10 rfl (lv_at hl 2 rfl) ?_
    obtain ⟨v1, e2, h⟩ := k_bd h
    refine rd_calli (va_runV (As := [.int x1, .int x2]) (rest := []) C0.1 (kX11_strengthAt l (D := D) (cI := cI) (cB := cB) (cZ := cZ) (am := am) (τ := τ) σ x1 x2 _ e2) (wX11_canLie_X11_strengthAt hts ⟨Nat.le_of_ble_eq_true rfl, Nat.le_of_ble_eq_true rfl⟩) ⟨PW.blind, mw_r0 hK hP, PW.mk hP hK hN⟩ rfl rfl hl.1 rfl (lv_room (Nat.le_of_ble_eq_true rfl)) dX11_canLie_11 ⟨Nat.zero_le _, Nat.zero_le _⟩) ?_
    refine lv_iload hx hb dX11_canLie_14 (lv_at hl 4 rfl) ?_
    refine lv_icmp_lt (tgt := 44) hx hb dX11_canLie_16 (by decide) (fun c16 => ?_) (fun c16 => ?_)
    · replace h := k_ip c16 h
      refine lv_iconst (v := 0) hx hb dX11_canLie_44 (by decide) ?_
      obtain rfl := k_sm h
      exact W.zret hx hb hr rfl (fun t ht hW => ⟨rfl, ht⟩) (fun _ h => by cases h) dX11_canLie_45
    · replace h := k_in c16 h
      refine lv_aload_n hx hb dX11_canLie_19 rfl (lv_at hl 0 rfl) ?_
      refine va_get (D := D) (ci := 11) (v := .ref (am 19)) (C := RX11) (T := TX11) (N := 30) hx hb hts iX11_canLie_X11 hown hK hP 0 mw_0 rfl 25 (by decide) (hts (.fieldLink RX11 66 RX11 "can" "[Z") (by decide +kernel)) (fun _ h9 => h9) rfl dX11_canLie_20 ?_
      refine lv_sipush (v := 1024) hx hb dX11_canLie_23 (by decide) ?_
      refine lv_iload_n hx hb dX11_canLie_26 rfl (lv_at hl 1 rfl) ?_
      refine lv_iconst (v := 1) hx hb dX11_canLie_27 (by decide) ?_
      refine lv_iadd hx hb dX11_canLie_28 ?_
      refine lv_imul hx hb dX11_canLie_29 ?_
      refine lv_iload_n hx hb dX11_canLie_30 rfl (lv_at hl 3 rfl) ?_
      refine lv_iconst (v := 1) hx hb dX11_canLie_31 (by decide) ?_
      refine lv_iload_n hx hb dX11_canLie_32 rfl (lv_at hl 2 rfl) ?_
      refine lv_ishl hx hb dX11_canLie_33 ?_
      refine lv_ior hx hb dX11_canLie_34 ?_
      refine lv_iadd hx hb dX11_canLie_35 ?_
      obtain ⟨v3, e4, h⟩ := k_bd h
      refine va_zald hx hb hK hP 19 2 mw_19 rfl (k_rd e4).1 dX11_canLie_36 ?_
      refine lv_nmi (k_rd e4).2 ?_
      refine lv_if_eq (tgt := 44) hx hb dX11_canLie_37 (by decide) (fun c37 => ?_) (fun c37 => ?_)
      · replace h := k_ip c37 h
        refine lv_iconst (v := 0) hx hb dX11_canLie_44 (by decide) ?_
        obtain rfl := k_sm h
        exact W.zret hx hb hr rfl (fun t ht hW => ⟨rfl, ht⟩) (fun _ h => by cases h) dX11_canLie_45
      · replace h := k_in c37 h
        refine lv_iconst (v := 1) hx hb dX11_canLie_40 (by decide) ?_
        refine lv_goto (tgt := 45) hx hb dX11_canLie_41 (by decide) ?_
        obtain rfl := k_sm h
        exact W.zret hx hb hr rfl (fun t ht hW => ⟨rfl, ht⟩) (fun _ h => by cases h) dX11_canLie_45
set_option maxHeartbeats 4000000 in
set_option maxRecDepth 100000 in
theorem bX11_place_L64 {p : Program} {l : Launch} {e : Env} {s : State} {m : MethodId} {args : Array Value} {below : List Frame} {meth : Method} {c : Code} {Q : State → Prop} {D : va_G} {cI cB cZ : ClassId} {am : Nat → Nat} (C0 : Cx p s m args meth c cX11_place 9 (some .int) RX11 wsX11_place) (hK : va_K D vwCl (tysA cI cB cZ) s) (hN : NW s) (hap : mwX am) {τ : Int64} {σ : Sg} (x1 : Int32) (x2 : Int32) (x3 : Int32) : ∀ (n : Nat) (x4 : Int32) (x5 : Int32) (v : Int32) (H : Heap) (locs : List Loc) (ls : Array Slot), va_P D vwCl (MW cI cB cZ am τ σ) H → va_S (mwA am) s.heap H locs → lv_has ls 9 [(0, .ref (am 0)), (1, .int x1), (2, .int x2), (3, .int x3), (4, .int x4), (5, .int x5)] → pX11_place_L64 σ x1 x2 x3 n x4 x5 = some v → (∀ (H1 : Heap) (locs1 : List Loc) (ls1 : Array Slot), va_P D vwCl (MW cI cB cZ am τ σ) H1 → va_S (mwA am) s.heap H1 locs1 → lv_has ls1 9 [(0, .ref (am 0)), (1, .int x1), (2, .int x2), (3, .int x3), (4, .int v)] → W p l e rmX11_place s m args below meth c H1 locs1 0 0 Q (F0 m 119 ls1 [])) → W p l e rmX11_place s m args below meth c H locs 0 0 Q (F0 m 64 ls []) := by
  obtain ⟨⟨hx, hb, hml, hown, hts⟩, hr, hlk⟩ := id C0
  intro n
  induction n with
  | zero =>
    intro x4 x5 v H locs ls hP hS hl h kk
    exact absurd h (by simp [pX11_place_L64])
  | succ n ih =>
    intro x4 x5 v H locs ls hP hS hl h kk
    rw [pX11_place_L64] at h
    refine lv_iload hx hb dX11_place_64 (lv_at hl 5 rfl) ?_
    refine lv_aload_n hx hb dX11_place_66 rfl (lv_at hl 0 rfl) ?_
    refine va_get (D := D) (ci := 11) (v := .ref (am 7)) (C := RX11) (T := TX11) (N := 30) hx hb hts iX11_place_X11 hown hK hP 0 mw_0 rfl 7 (by decide) (hts (.fieldLink RX11 29 RX11 "anchors" "[I") (by decide +kernel)) (fun _ h9 => h9) rfl dX11_place_67 ?_
    refine lv_iconst (v := 0) hx hb dX11_place_70 (by decide) ?_
    obtain ⟨v7, e8, h⟩ := k_bd h
    refine va_iald hx hb hK hP 7 0 mw_7 rfl (k_rd e8).1 dX11_place_71 ?_
    refine lv_nmi (k_rd e8).2 ?_
    refine lv_icmp_ge (tgt := 119) hx hb dX11_place_72 (by decide) (fun c72 => ?_) (fun c72 => ?_)
    · replace h := k_ip c72 h
      obtain rfl := k_sm h
      exact kk _ _ _ hP hS (lv_sub hl [0, 1, 2, 3, 4] rfl)
    · replace h := k_in c72 h
      refine lv_iload hx hb dX11_place_75 (lv_at hl 4 rfl) ?_
      refine lv_aload_n hx hb dX11_place_77 rfl (lv_at hl 0 rfl) ?_
      refine lv_iload hx hb dX11_place_78 (lv_at hl 5 rfl) ?_
      obtain ⟨v9, e10, h⟩ := k_bd h
      refine rd_calli (va_runV (As := [.int x5]) (rest := [.int x4]) C0.1 (kX11_isLying l (D := D) (cI := cI) (cB := cB) (cZ := cZ) (am := am) (τ := τ) σ x5 _ e10) (wX11_place_X11_isLying hts ⟨Nat.le_of_ble_eq_true rfl, Nat.le_of_ble_eq_true rfl⟩) ⟨PW.blind, mw_r0 hK hP, PW.mk hP hK hN⟩ rfl rfl hl.1 rfl (lv_room (Nat.le_of_ble_eq_true rfl)) dX11_place_80 ⟨Nat.zero_le _, Nat.zero_le _⟩) ?_
      refine lv_if_eq (tgt := 109) hx hb dX11_place_83 (by decide) (fun c83 => ?_) (fun c83 => ?_)
      · replace h := k_ip c83 h
        refine lv_iconst (v := 0) hx hb dX11_place_109 (by decide) ?_
        refine lv_ior hx hb dX11_place_110 ?_
        obtain ⟨v11, e12, h⟩ := k_bd h
        refine lv_nmi (k_sm e12) ?_
        refine lv_istore (lv' := [(4, .int v11), (0, .ref (am 0)), (1, .int x1), (2, .int x2), (3, .int x3), (5, .int x5)]) hx hb dX11_place_111 hl (by decide) rfl (fun ls hl => ?_)
        refine lv_iinc (v := (x5 + 1)) (lv' := [(5, .int (x5 + 1)), (4, .int v11), (0, .ref (am 0)), (1, .int x1), (2, .int x2), (3, .int x3)]) hx hb dX11_place_113 hl (k := 5) rfl rfl (by decide) rfl (fun ls hl => ?_)
        refine lv_goto (tgt := 64) hx hb dX11_place_116 (by decide) ?_
        exact ih v11 (x5 + 1) _ _ _ ls hP hS (lv_sub hl [2, 3, 4, 5, 1, 0] rfl) h kk
      · replace h := k_in c83 h
        refine lv_iload_n hx hb dX11_place_86 rfl (lv_at hl 1 rfl) ?_
        refine lv_iload hx hb dX11_place_87 (lv_at hl 5 rfl) ?_
        refine rd_calli (va_runS (As := [.int x1, .int x5]) (rest := [.int x4]) C0.1 (kX11_has l x1 x5) (wX11_place_X11_has hts ⟨Nat.le_of_ble_eq_true rfl, Nat.le_of_ble_eq_true rfl⟩) ⟨PT.blind, fun _ _ _ => ⟨rfl, trivial⟩⟩ rfl rfl hl.1 rfl (lv_room (Nat.le_of_ble_eq_true rfl)) dX11_place_89 ⟨Nat.zero_le _, Nat.zero_le _⟩) ?_
        refine lv_if_ne (tgt := 109) hx hb dX11_place_92 (by decide) (fun c92 => ?_) (fun c92 => ?_)
        · replace h := k_in c92 h
          refine lv_iconst (v := 0) hx hb dX11_place_109 (by decide) ?_
          refine lv_ior hx hb dX11_place_110 ?_
          obtain ⟨v13, e14, h⟩ := k_bd h
          refine lv_nmi (k_sm e14) ?_
          refine lv_istore (lv' := [(4, .int v13), (0, .ref (am 0)), (1, .int x1), (2, .int x2), (3, .int x3), (5, .int x5)]) hx hb dX11_place_111 hl (by decide) rfl (fun ls hl => ?_)
          refine lv_iinc (v := (x5 + 1)) (lv' := [(5, .int (x5 + 1)), (4, .int v13), (0, .ref (am 0)), (1, .int x1), (2, .int x2), (3, .int x3)]) hx hb dX11_place_113 hl (k := 5) rfl rfl (by decide) rfl (fun ls hl => ?_)
          refine lv_goto (tgt := 64) hx hb dX11_place_116 (by decide) ?_
          exact ih v13 (x5 + 1) _ _ _ ls hP hS (lv_sub hl [2, 3, 4, 5, 1, 0] rfl) h kk
        · replace h := k_ip c92 h
          refine lv_iconst (v := 1) hx hb dX11_place_95 (by decide) ?_
          refine lv_aload_n hx hb dX11_place_96 rfl (lv_at hl 0 rfl) ?_
          refine va_get (D := D) (ci := 11) (v := .ref (am 13)) (C := RX11) (T := TX11) (N := 30) hx hb hts iX11_place_X11 hown hK hP 0 mw_0 rfl 19 (by decide) (hts (.fieldLink RX11 47 RX11 "now" "[I") (by decide +kernel)) (fun _ h9 => h9) rfl dX11_place_97 ?_
          refine lv_iconst (v := 0) hx hb dX11_place_100 (by decide) ?_
          refine lv_iload hx hb dX11_place_101 (lv_at hl 5 rfl) ?_
          refine lv_iadd hx hb dX11_place_103 ?_
          obtain ⟨v15, e16, h⟩ := k_bd h
          refine va_iald hx hb hK hP 13 0 mw_13 rfl (k_rd e16).1 dX11_place_104 ?_
          refine lv_nmi (k_rd e16).2 ?_
          refine lv_ishl hx hb dX11_place_105 ?_
          refine lv_goto (tgt := 110) hx hb dX11_place_106 (by decide) ?_
          refine lv_ior hx hb dX11_place_110 ?_
          obtain ⟨v17, e18, h⟩ := k_bd h
          refine lv_nmi (k_sm e18) ?_
          refine lv_istore (lv' := [(4, .int v17), (0, .ref (am 0)), (1, .int x1), (2, .int x2), (3, .int x3), (5, .int x5)]) hx hb dX11_place_111 hl (by decide) rfl (fun ls hl => ?_)
          refine lv_iinc (v := (x5 + 1)) (lv' := [(5, .int (x5 + 1)), (4, .int v17), (0, .ref (am 0)), (1, .int x1), (2, .int x2), (3, .int x3)]) hx hb dX11_place_113 hl (k := 5) rfl rfl (by decide) rfl (fun ls hl => ?_)
          refine lv_goto (tgt := 64) hx hb dX11_place_116 (by decide) ?_
          exact ih v17 (x5 + 1) _ _ _ ls hP hS (lv_sub hl [2, 3, 4, 5, 1, 0] rfl) h kk
set_option maxHeartbeats 4000000 in
set_option maxRecDepth 100000 in
theorem bX11_place_L122 {p : Program} {l : Launch} {e : Env} {s : State} {m : MethodId} {args : Array Value} {below : List Frame} {meth : Method} {c : Code} {Q : State → Prop} {D : va_G} {cI cB cZ : ClassId} {am : Nat → Nat} (C0 : Cx p s m args meth c cX11_place 9 (some .int) RX11 wsX11_place) (hK : va_K D vwCl (tysA cI cB cZ) s) (hN : NW s) (hap : mwX am) {τ : Int64} (x1 : Int32) (x2 : Int32) (x3 : Int32) (x4 : Int32) : ∀ (n : Nat) (x5 : Int32) (σ : Sg) (v : Sg) (H : Heap) (locs : List Loc) (ls : Array Slot), va_P D vwCl (MW cI cB cZ am τ σ) H → va_S (mwA am) s.heap H locs → lv_has ls 9 [(0, .ref (am 0)), (1, .int x1), (2, .int x2), (3, .int x3), (4, .int x4), (5, .int x5)] → pX11_place_L122 x1 x2 x3 x4 n x5 σ = some v → (∀ (H1 : Heap) (locs1 : List Loc) (ls1 : Array Slot), va_P D vwCl (MW cI cB cZ am τ v) H1 → va_S (mwA am) s.heap H1 locs1 → lv_has ls1 9 [(0, .ref (am 0)), (1, .int x1), (2, .int x2), (3, .int x3), (4, .int x4)] → W p l e rmX11_place s m args below meth c H1 locs1 0 0 Q (F0 m 155 ls1 [])) → W p l e rmX11_place s m args below meth c H locs 0 0 Q (F0 m 122 ls []) := by
  obtain ⟨⟨hx, hb, hml, hown, hts⟩, hr, hlk⟩ := id C0
  intro n
  induction n with
  | zero =>
    intro x5 σ v H locs ls hP hS hl h kk
    exact absurd h (by simp [pX11_place_L122])
  | succ n ih =>
    intro x5 σ v H locs ls hP hS hl h kk
    rw [pX11_place_L122] at h
    refine lv_iload hx hb dX11_place_122 (lv_at hl 5 rfl) ?_
    refine lv_sipush (v := 1024) hx hb dX11_place_124 (by decide) ?_
    refine lv_icmp_ge (tgt := 155) hx hb dX11_place_127 (by decide) (fun c127 => ?_) (fun c127 => ?_)
    · replace h := k_ip c127 h
      obtain rfl := k_sm h
      exact kk _ _ _ hP hS (lv_sub hl [0, 1, 2, 3, 4] rfl)
    · replace h := k_in c127 h
      refine lv_aload_n hx hb dX11_place_130 rfl (lv_at hl 0 rfl) ?_
      refine va_get (D := D) (ci := 11) (v := .ref (am 19)) (C := RX11) (T := TX11) (N := 30) hx hb hts iX11_place_X11 hown hK hP 0 mw_0 rfl 25 (by decide) (hts (.fieldLink RX11 66 RX11 "can" "[Z") (by decide +kernel)) (fun _ h9 => h9) rfl dX11_place_131 ?_
      refine lv_sipush (v := 1024) hx hb dX11_place_134 (by decide) ?_
      refine lv_aload_n hx hb dX11_place_137 rfl (lv_at hl 0 rfl) ?_
      refine va_get (D := D) (ci := 11) (v := .ref (am 7)) (C := RX11) (T := TX11) (N := 30) hx hb hts iX11_place_X11 hown hK hP 0 mw_0 rfl 7 (by decide) (hts (.fieldLink RX11 29 RX11 "anchors" "[I") (by decide +kernel)) (fun _ h9 => h9) rfl dX11_place_138 ?_
      refine lv_iconst (v := 0) hx hb dX11_place_141 (by decide) ?_
      obtain ⟨v21, e22, h⟩ := k_bd h
      refine va_iald hx hb hK hP 7 0 mw_7 rfl (k_rd e22).1 dX11_place_142 ?_
      refine lv_nmi (k_rd e22).2 ?_
      refine lv_imul hx hb dX11_place_143 ?_
      refine lv_iload hx hb dX11_place_144 (lv_at hl 5 rfl) ?_
      refine lv_iadd hx hb dX11_place_146 ?_
      refine lv_iconst (v := 1) hx hb dX11_place_147 (by decide) ?_
      obtain ⟨σ23, e24, h⟩ := k_bd h
      refine va_zast hx hb hK hP (mw_D hap) hS 19 2 mw_19 rfl (k_wr e24).1 dX11_place_148 (fun H locs hP _ hS => ?_)
      have hP := mw_s19 hP
      rw [(k_wr e24).2] at hP
      refine lv_iinc (v := (x5 + 1)) (lv' := [(5, .int (x5 + 1)), (0, .ref (am 0)), (1, .int x1), (2, .int x2), (3, .int x3), (4, .int x4)]) hx hb dX11_place_149 hl (k := 5) rfl rfl (by decide) rfl (fun ls hl => ?_)
      refine lv_goto (tgt := 122) hx hb dX11_place_152 (by decide) ?_
      exact ih (x5 + 1) σ23 _ _ _ ls hP hS (lv_sub hl [1, 2, 3, 4, 5, 0] rfl) h kk
set_option maxHeartbeats 4000000 in
set_option maxRecDepth 100000 in
theorem bX11_place_L219 {p : Program} {l : Launch} {e : Env} {s : State} {m : MethodId} {args : Array Value} {below : List Frame} {meth : Method} {c : Code} {Q : State → Prop} {D : va_G} {cI cB cZ : ClassId} {am : Nat → Nat} (C0 : Cx p s m args meth c cX11_place 9 (some .int) RX11 wsX11_place) (hK : va_K D vwCl (tysA cI cB cZ) s) (hN : NW s) (hap : mwX am) {τ : Int64} {σ : Sg} (x1 : Int32) (x2 : Int32) (x3 : Int32) (x4 : Int32) (x5 : Int32) (x6 : Int32) : ∀ (n : Nat) (x7 : Int32) (x8 : Int32) (v : Int32) (H : Heap) (locs : List Loc) (ls : Array Slot), va_P D vwCl (MW cI cB cZ am τ σ) H → va_S (mwA am) s.heap H locs → lv_has ls 9 [(0, .ref (am 0)), (1, .int x1), (2, .int x2), (3, .int x3), (4, .int x4), (5, .int x5), (6, .int x6), (7, .int x7), (8, .int x8)] → pX11_place_L219 σ x1 x2 x3 x4 x5 x6 n x7 x8 = some v → (∀ (H1 : Heap) (locs1 : List Loc) (ls1 : Array Slot), va_P D vwCl (MW cI cB cZ am τ σ) H1 → va_S (mwA am) s.heap H1 locs1 → lv_has ls1 9 [(0, .ref (am 0)), (1, .int x1), (2, .int x2), (3, .int x3), (4, .int x4), (5, .int x5), (6, .int x6), (7, .int v)] → W p l e rmX11_place s m args below meth c H1 locs1 0 0 Q (F0 m 267 ls1 [])) → W p l e rmX11_place s m args below meth c H locs 0 0 Q (F0 m 219 ls []) := by
  obtain ⟨⟨hx, hb, hml, hown, hts⟩, hr, hlk⟩ := id C0
  intro n
  induction n with
  | zero =>
    intro x7 x8 v H locs ls hP hS hl h kk
    exact absurd h (by simp [pX11_place_L219])
  | succ n ih =>
    intro x7 x8 v H locs ls hP hS hl h kk
    rw [pX11_place_L219] at h
    refine lv_iload hx hb dX11_place_219 (lv_at hl 8 rfl) ?_
    refine lv_bipush (v := 10) hx hb dX11_place_221 (by decide) ?_
    refine lv_icmp_ge (tgt := 267) hx hb dX11_place_223 (by decide) (fun c223 => ?_) (fun c223 => ?_)
    · replace h := k_ip c223 h
      obtain rfl := k_sm h
      exact kk _ _ _ hP hS (lv_sub hl [0, 1, 2, 3, 4, 5, 6, 7] rfl)
    · replace h := k_in c223 h
      refine lv_iload_n hx hb dX11_place_226 rfl (lv_at hl 1 rfl) ?_
      refine lv_iload hx hb dX11_place_227 (lv_at hl 5 rfl) ?_
      refine rd_calli (va_runS (As := [.int x1, .int x5]) (rest := []) C0.1 (kX11_has l x1 x5) (wX11_place_X11_has hts ⟨Nat.le_of_ble_eq_true rfl, Nat.le_of_ble_eq_true rfl⟩) ⟨PT.blind, fun _ _ _ => ⟨rfl, trivial⟩⟩ rfl rfl hl.1 rfl (lv_room (Nat.le_of_ble_eq_true rfl)) dX11_place_229 ⟨Nat.zero_le _, Nat.zero_le _⟩) ?_
      refine lv_if_eq (tgt := 267) hx hb dX11_place_232 (by decide) (fun c232 => ?_) (fun c232 => ?_)
      · replace h := k_ip c232 h
        obtain rfl := k_sm h
        exact kk _ _ _ hP hS (lv_sub hl [0, 1, 2, 3, 4, 5, 6, 7] rfl)
      · replace h := k_in c232 h
        refine lv_iload hx hb dX11_place_235 (lv_at hl 7 rfl) ?_
        refine lv_if_ne (tgt := 254) hx hb dX11_place_237 (by decide) (fun c237 => ?_) (fun c237 => ?_)
        · replace h := k_in c237 h
          refine lv_iconst (v := 1) hx hb dX11_place_254 (by decide) ?_
          refine lv_goto (tgt := 259) hx hb dX11_place_255 (by decide) ?_
          refine lv_istore (lv' := [(7, .int 1), (0, .ref (am 0)), (1, .int x1), (2, .int x2), (3, .int x3), (4, .int x4), (5, .int x5), (6, .int x6), (8, .int x8)]) hx hb dX11_place_259 hl (by decide) rfl (fun ls hl => ?_)
          refine lv_iinc (v := (x8 + 1)) (lv' := [(8, .int (x8 + 1)), (7, .int 1), (0, .ref (am 0)), (1, .int x1), (2, .int x2), (3, .int x3), (4, .int x4), (5, .int x5), (6, .int x6)]) hx hb dX11_place_261 hl (k := 8) rfl rfl (by decide) rfl (fun ls hl => ?_)
          refine lv_goto (tgt := 219) hx hb dX11_place_264 (by decide) ?_
          exact ih 1 (x8 + 1) _ _ _ ls hP hS (lv_sub hl [2, 3, 4, 5, 6, 7, 8, 1, 0] rfl) h kk
        · replace h := k_ip c237 h
          refine lv_aload_n hx hb dX11_place_240 rfl (lv_at hl 0 rfl) ?_
          refine lv_iload hx hb dX11_place_241 (lv_at hl 5 rfl) ?_
          refine lv_iload hx hb dX11_place_243 (lv_at hl 8 rfl) ?_
          refine lv_iload hx hb dX11_place_245 (lv_at hl 6 rfl) ?_
          refine lv_iload_n hx hb dX11_place_247 rfl (lv_at hl 2 rfl) ?_
          obtain ⟨v31, e32, h⟩ := k_bd h
          refine rd_calli (va_runV (As := [.int x5, .int x8, .int x6, .int x2]) (rest := []) C0.1 (kX11_canLie l (D := D) (cI := cI) (cB := cB) (cZ := cZ) (am := am) (τ := τ) σ x5 x8 x6 x2 _ e32) (wX11_place_X11_canLie hts ⟨Nat.le_of_ble_eq_true rfl, Nat.le_of_ble_eq_true rfl⟩) ⟨PW.blind, mw_r0 hK hP, PW.mk hP hK hN⟩ rfl rfl hl.1 rfl (lv_room (Nat.le_of_ble_eq_true rfl)) dX11_place_248 ⟨Nat.zero_le _, Nat.zero_le _⟩) ?_
          refine lv_if_eq (tgt := 258) hx hb dX11_place_251 (by decide) (fun c251 => ?_) (fun c251 => ?_)
          · replace h := k_ip c251 h
            refine lv_iconst (v := 0) hx hb dX11_place_258 (by decide) ?_
            refine lv_istore (lv' := [(7, .int 0), (0, .ref (am 0)), (1, .int x1), (2, .int x2), (3, .int x3), (4, .int x4), (5, .int x5), (6, .int x6), (8, .int x8)]) hx hb dX11_place_259 hl (by decide) rfl (fun ls hl => ?_)
            refine lv_iinc (v := (x8 + 1)) (lv' := [(8, .int (x8 + 1)), (7, .int 0), (0, .ref (am 0)), (1, .int x1), (2, .int x2), (3, .int x3), (4, .int x4), (5, .int x5), (6, .int x6)]) hx hb dX11_place_261 hl (k := 8) rfl rfl (by decide) rfl (fun ls hl => ?_)
            refine lv_goto (tgt := 219) hx hb dX11_place_264 (by decide) ?_
            exact ih 0 (x8 + 1) _ _ _ ls hP hS (lv_sub hl [2, 3, 4, 5, 6, 7, 8, 1, 0] rfl) h kk
          · replace h := k_in c251 h
            refine lv_iconst (v := 1) hx hb dX11_place_254 (by decide) ?_
            refine lv_goto (tgt := 259) hx hb dX11_place_255 (by decide) ?_
            refine lv_istore (lv' := [(7, .int 1), (0, .ref (am 0)), (1, .int x1), (2, .int x2), (3, .int x3), (4, .int x4), (5, .int x5), (6, .int x6), (8, .int x8)]) hx hb dX11_place_259 hl (by decide) rfl (fun ls hl => ?_)
            refine lv_iinc (v := (x8 + 1)) (lv' := [(8, .int (x8 + 1)), (7, .int 1), (0, .ref (am 0)), (1, .int x1), (2, .int x2), (3, .int x3), (4, .int x4), (5, .int x5), (6, .int x6)]) hx hb dX11_place_261 hl (k := 8) rfl rfl (by decide) rfl (fun ls hl => ?_)
            refine lv_goto (tgt := 219) hx hb dX11_place_264 (by decide) ?_
            exact ih 1 (x8 + 1) _ _ _ ls hP hS (lv_sub hl [2, 3, 4, 5, 6, 7, 8, 1, 0] rfl) h kk
set_option maxHeartbeats 4000000 in
set_option maxRecDepth 100000 in
theorem bX11_place_L173 {p : Program} {l : Launch} {e : Env} {s : State} {m : MethodId} {args : Array Value} {below : List Frame} {meth : Method} {c : Code} {Q : State → Prop} {D : va_G} {cI cB cZ : ClassId} {am : Nat → Nat} (C0 : Cx p s m args meth c cX11_place 9 (some .int) RX11 wsX11_place) (hK : va_K D vwCl (tysA cI cB cZ) s) (hN : NW s) (hap : mwX am) {τ : Int64} (x1 : Int32) (x2 : Int32) (x3 : Int32) (x4 : Int32) (x5 : Int32) : ∀ (n : Nat) (x6 : Int32) (σ : Sg) (v : Sg) (H : Heap) (locs : List Loc) (ls : Array Slot), va_P D vwCl (MW cI cB cZ am τ σ) H → va_S (mwA am) s.heap H locs → lv_has ls 9 [(0, .ref (am 0)), (1, .int x1), (2, .int x2), (3, .int x3), (4, .int x4), (5, .int x5), (6, .int x6)] → pX11_place_L173 x1 x2 x3 x4 x5 n x6 σ = some v → (∀ (H1 : Heap) (locs1 : List Loc) (ls1 : Array Slot), va_P D vwCl (MW cI cB cZ am τ v) H1 → va_S (mwA am) s.heap H1 locs1 → lv_has ls1 9 [(0, .ref (am 0)), (1, .int x1), (2, .int x2), (3, .int x3), (4, .int x4), (5, .int x5)] → W p l e rmX11_place s m args below meth c H1 locs1 0 0 Q (F0 m 289 ls1 [])) → W p l e rmX11_place s m args below meth c H locs 0 0 Q (F0 m 173 ls []) := by
  obtain ⟨⟨hx, hb, hml, hown, hts⟩, hr, hlk⟩ := id C0
  intro n
  induction n with
  | zero =>
    intro x6 σ v H locs ls hP hS hl h kk
    exact absurd h (by simp [pX11_place_L173])
  | succ n ih =>
    intro x6 σ v H locs ls hP hS hl h kk
    rw [pX11_place_L173] at h
    refine lv_iload hx hb dX11_place_173 (lv_at hl 6 rfl) ?_
    refine lv_sipush (v := 1024) hx hb dX11_place_175 (by decide) ?_
    refine lv_icmp_ge (tgt := 289) hx hb dX11_place_178 (by decide) (fun c178 => ?_) (fun c178 => ?_)
    · replace h := k_ip c178 h
      obtain rfl := k_sm h
      exact kk _ _ _ hP hS (lv_sub hl [0, 1, 2, 3, 4, 5] rfl)
    · replace h := k_in c178 h
      refine lv_iload_n hx hb dX11_place_181 rfl (lv_at hl 1 rfl) ?_
      refine lv_iload hx hb dX11_place_182 (lv_at hl 5 rfl) ?_
      refine rd_calli (va_runS (As := [.int x1, .int x5]) (rest := []) C0.1 (kX11_has l x1 x5) (wX11_place_X11_has hts ⟨Nat.le_of_ble_eq_true rfl, Nat.le_of_ble_eq_true rfl⟩) ⟨PT.blind, fun _ _ _ => ⟨rfl, trivial⟩⟩ rfl rfl hl.1 rfl (lv_room (Nat.le_of_ble_eq_true rfl)) dX11_place_184 ⟨Nat.zero_le _, Nat.zero_le _⟩) ?_
      refine lv_if_ne (tgt := 213) hx hb dX11_place_187 (by decide) (fun c187 => ?_) (fun c187 => ?_)
      · replace h := k_in c187 h
        refine lv_iconst (v := 0) hx hb dX11_place_213 (by decide) ?_
        refine lv_istore (lv' := [(7, .int 0), (0, .ref (am 0)), (1, .int x1), (2, .int x2), (3, .int x3), (4, .int x4), (5, .int x5), (6, .int x6)]) hx hb dX11_place_214 hl (by decide) rfl (fun ls hl => ?_)
        refine lv_iconst (v := 0) hx hb dX11_place_216 (by decide) ?_
        refine lv_istore (lv' := [(8, .int 0), (7, .int 0), (0, .ref (am 0)), (1, .int x1), (2, .int x2), (3, .int x3), (4, .int x4), (5, .int x5), (6, .int x6)]) hx hb dX11_place_217 hl (by decide) rfl (fun ls hl => ?_)
        obtain ⟨w33, e34, h⟩ := k_bd h
        refine bX11_place_L219 C0 hK hN hap x1 x2 x3 x4 x5 x6 2000 0 0 _ _ _ ls hP hS (lv_sub hl [2, 3, 4, 5, 6, 7, 8, 1, 0] rfl) e34 (fun H locs ls hP hS hl => ?_)
        refine lv_aload_n hx hb dX11_place_267 rfl (lv_at hl 0 rfl) ?_
        refine va_get (D := D) (ci := 11) (v := .ref (am 19)) (C := RX11) (T := TX11) (N := 30) hx hb hts iX11_place_X11 hown hK hP 0 mw_0 rfl 25 (by decide) (hts (.fieldLink RX11 66 RX11 "can" "[Z") (by decide +kernel)) (fun _ h9 => h9) rfl dX11_place_268 ?_
        refine lv_sipush (v := 1024) hx hb dX11_place_271 (by decide) ?_
        refine lv_iload hx hb dX11_place_274 (lv_at hl 5 rfl) ?_
        refine lv_imul hx hb dX11_place_276 ?_
        refine lv_iload hx hb dX11_place_277 (lv_at hl 6 rfl) ?_
        refine lv_iadd hx hb dX11_place_279 ?_
        refine lv_iload hx hb dX11_place_280 (lv_at hl 7 rfl) ?_
        obtain ⟨σ35, e36, h⟩ := k_bd h
        refine va_zast hx hb hK hP (mw_D hap) hS 19 2 mw_19 rfl (k_wr e36).1 dX11_place_282 (fun H locs hP _ hS => ?_)
        have hP := mw_s19 hP
        rw [(k_wr e36).2] at hP
        refine lv_iinc (v := (x6 + 1)) (lv' := [(6, .int (x6 + 1)), (0, .ref (am 0)), (1, .int x1), (2, .int x2), (3, .int x3), (4, .int x4), (5, .int x5), (7, .int w33)]) hx hb dX11_place_283 hl (k := 6) rfl rfl (by decide) rfl (fun ls hl => ?_)
        refine lv_goto (tgt := 173) hx hb dX11_place_286 (by decide) ?_
        exact ih (x6 + 1) σ35 _ _ _ ls hP hS (lv_sub hl [1, 2, 3, 4, 5, 6, 0] rfl) h kk
      · replace h := k_ip c187 h
        refine lv_aload_n hx hb dX11_place_190 rfl (lv_at hl 0 rfl) ?_
        refine va_get (D := D) (ci := 11) (v := .ref (am 19)) (C := RX11) (T := TX11) (N := 30) hx hb hts iX11_place_X11 hown hK hP 0 mw_0 rfl 25 (by decide) (hts (.fieldLink RX11 66 RX11 "can" "[Z") (by decide +kernel)) (fun _ h9 => h9) rfl dX11_place_191 ?_
        refine lv_sipush (v := 1024) hx hb dX11_place_194 (by decide) ?_
        refine lv_iload hx hb dX11_place_197 (lv_at hl 5 rfl) ?_
        refine lv_iconst (v := 1) hx hb dX11_place_199 (by decide) ?_
        refine lv_iadd hx hb dX11_place_200 ?_
        refine lv_imul hx hb dX11_place_201 ?_
        refine lv_iload hx hb dX11_place_202 (lv_at hl 6 rfl) ?_
        refine lv_iadd hx hb dX11_place_204 ?_
        obtain ⟨v37, e38, h⟩ := k_bd h
        refine va_zald hx hb hK hP 19 2 mw_19 rfl (k_rd e38).1 dX11_place_205 ?_
        refine lv_nmi (k_rd e38).2 ?_
        refine lv_if_eq (tgt := 213) hx hb dX11_place_206 (by decide) (fun c206 => ?_) (fun c206 => ?_)
        · replace h := k_ip c206 h
          refine lv_iconst (v := 0) hx hb dX11_place_213 (by decide) ?_
          refine lv_istore (lv' := [(7, .int 0), (0, .ref (am 0)), (1, .int x1), (2, .int x2), (3, .int x3), (4, .int x4), (5, .int x5), (6, .int x6)]) hx hb dX11_place_214 hl (by decide) rfl (fun ls hl => ?_)
          refine lv_iconst (v := 0) hx hb dX11_place_216 (by decide) ?_
          refine lv_istore (lv' := [(8, .int 0), (7, .int 0), (0, .ref (am 0)), (1, .int x1), (2, .int x2), (3, .int x3), (4, .int x4), (5, .int x5), (6, .int x6)]) hx hb dX11_place_217 hl (by decide) rfl (fun ls hl => ?_)
          obtain ⟨w39, e40, h⟩ := k_bd h
          refine bX11_place_L219 C0 hK hN hap x1 x2 x3 x4 x5 x6 2000 0 0 _ _ _ ls hP hS (lv_sub hl [2, 3, 4, 5, 6, 7, 8, 1, 0] rfl) e40 (fun H locs ls hP hS hl => ?_)
          refine lv_aload_n hx hb dX11_place_267 rfl (lv_at hl 0 rfl) ?_
          refine va_get (D := D) (ci := 11) (v := .ref (am 19)) (C := RX11) (T := TX11) (N := 30) hx hb hts iX11_place_X11 hown hK hP 0 mw_0 rfl 25 (by decide) (hts (.fieldLink RX11 66 RX11 "can" "[Z") (by decide +kernel)) (fun _ h9 => h9) rfl dX11_place_268 ?_
          refine lv_sipush (v := 1024) hx hb dX11_place_271 (by decide) ?_
          refine lv_iload hx hb dX11_place_274 (lv_at hl 5 rfl) ?_
          refine lv_imul hx hb dX11_place_276 ?_
          refine lv_iload hx hb dX11_place_277 (lv_at hl 6 rfl) ?_
          refine lv_iadd hx hb dX11_place_279 ?_
          refine lv_iload hx hb dX11_place_280 (lv_at hl 7 rfl) ?_
          obtain ⟨σ41, e42, h⟩ := k_bd h
          refine va_zast hx hb hK hP (mw_D hap) hS 19 2 mw_19 rfl (k_wr e42).1 dX11_place_282 (fun H locs hP _ hS => ?_)
          have hP := mw_s19 hP
          rw [(k_wr e42).2] at hP
          refine lv_iinc (v := (x6 + 1)) (lv' := [(6, .int (x6 + 1)), (0, .ref (am 0)), (1, .int x1), (2, .int x2), (3, .int x3), (4, .int x4), (5, .int x5), (7, .int w39)]) hx hb dX11_place_283 hl (k := 6) rfl rfl (by decide) rfl (fun ls hl => ?_)
          refine lv_goto (tgt := 173) hx hb dX11_place_286 (by decide) ?_
          exact ih (x6 + 1) σ41 _ _ _ ls hP hS (lv_sub hl [1, 2, 3, 4, 5, 6, 0] rfl) h kk
        · replace h := k_in c206 h
          refine lv_iconst (v := 1) hx hb dX11_place_209 (by decide) ?_
          refine lv_goto (tgt := 214) hx hb dX11_place_210 (by decide) ?_
          refine lv_istore (lv' := [(7, .int 1), (0, .ref (am 0)), (1, .int x1), (2, .int x2), (3, .int x3), (4, .int x4), (5, .int x5), (6, .int x6)]) hx hb dX11_place_214 hl (by decide) rfl (fun ls hl => ?_)
          refine lv_iconst (v := 0) hx hb dX11_place_216 (by decide) ?_
          refine lv_istore (lv' := [(8, .int 0), (7, .int 1), (0, .ref (am 0)), (1, .int x1), (2, .int x2), (3, .int x3), (4, .int x4), (5, .int x5), (6, .int x6)]) hx hb dX11_place_217 hl (by decide) rfl (fun ls hl => ?_)
          obtain ⟨w43, e44, h⟩ := k_bd h
          refine bX11_place_L219 C0 hK hN hap x1 x2 x3 x4 x5 x6 2000 1 0 _ _ _ ls hP hS (lv_sub hl [2, 3, 4, 5, 6, 7, 8, 1, 0] rfl) e44 (fun H locs ls hP hS hl => ?_)
          refine lv_aload_n hx hb dX11_place_267 rfl (lv_at hl 0 rfl) ?_
          refine va_get (D := D) (ci := 11) (v := .ref (am 19)) (C := RX11) (T := TX11) (N := 30) hx hb hts iX11_place_X11 hown hK hP 0 mw_0 rfl 25 (by decide) (hts (.fieldLink RX11 66 RX11 "can" "[Z") (by decide +kernel)) (fun _ h9 => h9) rfl dX11_place_268 ?_
          refine lv_sipush (v := 1024) hx hb dX11_place_271 (by decide) ?_
          refine lv_iload hx hb dX11_place_274 (lv_at hl 5 rfl) ?_
          refine lv_imul hx hb dX11_place_276 ?_
          refine lv_iload hx hb dX11_place_277 (lv_at hl 6 rfl) ?_
          refine lv_iadd hx hb dX11_place_279 ?_
          refine lv_iload hx hb dX11_place_280 (lv_at hl 7 rfl) ?_
          obtain ⟨σ45, e46, h⟩ := k_bd h
          refine va_zast hx hb hK hP (mw_D hap) hS 19 2 mw_19 rfl (k_wr e46).1 dX11_place_282 (fun H locs hP _ hS => ?_)
          have hP := mw_s19 hP
          rw [(k_wr e46).2] at hP
          refine lv_iinc (v := (x6 + 1)) (lv' := [(6, .int (x6 + 1)), (0, .ref (am 0)), (1, .int x1), (2, .int x2), (3, .int x3), (4, .int x4), (5, .int x5), (7, .int w43)]) hx hb dX11_place_283 hl (k := 6) rfl rfl (by decide) rfl (fun ls hl => ?_)
          refine lv_goto (tgt := 173) hx hb dX11_place_286 (by decide) ?_
          exact ih (x6 + 1) σ45 _ _ _ ls hP hS (lv_sub hl [1, 2, 3, 4, 5, 6, 0] rfl) h kk
set_option maxHeartbeats 4000000 in
set_option maxRecDepth 100000 in
theorem bX11_place_L165 {p : Program} {l : Launch} {e : Env} {s : State} {m : MethodId} {args : Array Value} {below : List Frame} {meth : Method} {c : Code} {Q : State → Prop} {D : va_G} {cI cB cZ : ClassId} {am : Nat → Nat} (C0 : Cx p s m args meth c cX11_place 9 (some .int) RX11 wsX11_place) (hK : va_K D vwCl (tysA cI cB cZ) s) (hN : NW s) (hap : mwX am) {τ : Int64} (x1 : Int32) (x2 : Int32) (x3 : Int32) (x4 : Int32) : ∀ (n : Nat) (x5 : Int32) (σ : Sg) (v : Sg) (H : Heap) (locs : List Loc) (ls : Array Slot), va_P D vwCl (MW cI cB cZ am τ σ) H → va_S (mwA am) s.heap H locs → lv_has ls 9 [(0, .ref (am 0)), (1, .int x1), (2, .int x2), (3, .int x3), (4, .int x4), (5, .int x5)] → pX11_place_L165 x1 x2 x3 x4 n x5 σ = some v → (∀ (H1 : Heap) (locs1 : List Loc) (ls1 : Array Slot), va_P D vwCl (MW cI cB cZ am τ v) H1 → va_S (mwA am) s.heap H1 locs1 → lv_has ls1 9 [(0, .ref (am 0)), (1, .int x1), (2, .int x2), (3, .int x3), (4, .int x4)] → W p l e rmX11_place s m args below meth c H1 locs1 0 0 Q (F0 m 295 ls1 [])) → W p l e rmX11_place s m args below meth c H locs 0 0 Q (F0 m 165 ls []) := by
  obtain ⟨⟨hx, hb, hml, hown, hts⟩, hr, hlk⟩ := id C0
  intro n
  induction n with
  | zero =>
    intro x5 σ v H locs ls hP hS hl h kk
    exact absurd h (by simp [pX11_place_L165])
  | succ n ih =>
    intro x5 σ v H locs ls hP hS hl h kk
    rw [pX11_place_L165] at h
    refine lv_iload hx hb dX11_place_165 (lv_at hl 5 rfl) ?_
    refine lv_if_lt (tgt := 295) hx hb dX11_place_167 (by decide) (fun c167 => ?_) (fun c167 => ?_)
    · replace h := k_ip c167 h
      obtain rfl := k_sm h
      exact kk _ _ _ hP hS (lv_sub hl [0, 1, 2, 3, 4] rfl)
    · replace h := k_in c167 h
      refine lv_iconst (v := 0) hx hb dX11_place_170 (by decide) ?_
      refine lv_istore (lv' := [(6, .int 0), (0, .ref (am 0)), (1, .int x1), (2, .int x2), (3, .int x3), (4, .int x4), (5, .int x5)]) hx hb dX11_place_171 hl (by decide) rfl (fun ls hl => ?_)
      obtain ⟨w47, e48, h⟩ := k_bd h
      refine bX11_place_L173 C0 hK hN hap x1 x2 x3 x4 x5 2000 0 σ _ _ _ ls hP hS (lv_sub hl [1, 2, 3, 4, 5, 6, 0] rfl) e48 (fun H locs ls hP hS hl => ?_)
      refine lv_iinc (v := (x5 + (-1))) (lv' := [(5, .int (x5 + (-1))), (0, .ref (am 0)), (1, .int x1), (2, .int x2), (3, .int x3), (4, .int x4)]) hx hb dX11_place_289 hl (k := 5) rfl rfl (by decide) rfl (fun ls hl => ?_)
      refine lv_goto (tgt := 165) hx hb dX11_place_292 (by decide) ?_
      exact ih (x5 + (-1)) w47 _ _ _ ls hP hS (lv_sub hl [1, 2, 3, 4, 5, 0] rfl) h kk
set_option maxHeartbeats 4000000 in
set_option maxRecDepth 100000 in
theorem bX11_place_L337 {p : Program} {l : Launch} {e : Env} {s : State} {m : MethodId} {args : Array Value} {below : List Frame} {meth : Method} {c : Code} {Q : State → Prop} {D : va_G} {cI cB cZ : ClassId} {am : Nat → Nat} (C0 : Cx p s m args meth c cX11_place 9 (some .int) RX11 wsX11_place) (hK : va_K D vwCl (tysA cI cB cZ) s) (hN : NW s) (hap : mwX am) {τ : Int64} {σ : Sg} (x1 : Int32) (x2 : Int32) (x3 : Int32) (x5 : Int32) (x7 : Int32) : ∀ (n : Nat) (x6 : Int32) (v : Int32) (H : Heap) (locs : List Loc) (ls : Array Slot), va_P D vwCl (MW cI cB cZ am τ σ) H → va_S (mwA am) s.heap H locs → lv_has ls 9 [(0, .ref (am 0)), (1, .int x1), (2, .int x2), (3, .int x3), (5, .int x5), (6, .int x6), (7, .int x7)] → pX11_place_L337 σ x1 x2 x3 x5 x7 n x6 = some v → (∀ (H1 : Heap) (locs1 : List Loc) (ls1 : Array Slot), va_P D vwCl (MW cI cB cZ am τ σ) H1 → va_S (mwA am) s.heap H1 locs1 → lv_has ls1 9 [(0, .ref (am 0)), (1, .int x1), (2, .int x2), (3, .int x3), (5, .int x5), (6, .int v), (7, .int x7)] → W p l e rmX11_place s m args below meth c H1 locs1 0 0 Q (F0 m 357 ls1 [])) → W p l e rmX11_place s m args below meth c H locs 0 0 Q (F0 m 337 ls []) := by
  obtain ⟨⟨hx, hb, hml, hown, hts⟩, hr, hlk⟩ := id C0
  intro n
  induction n with
  | zero =>
    intro x6 v H locs ls hP hS hl h kk
    exact absurd h (by simp [pX11_place_L337])
  | succ n ih =>
    intro x6 v H locs ls hP hS hl h kk
    rw [pX11_place_L337] at h
    refine lv_aload_n hx hb dX11_place_337 rfl (lv_at hl 0 rfl) ?_
    refine lv_iload hx hb dX11_place_338 (lv_at hl 6 rfl) ?_
    refine lv_iload hx hb dX11_place_340 (lv_at hl 5 rfl) ?_
    refine lv_iload hx hb dX11_place_342 (lv_at hl 4 rfl) ?_
    refine lv_iload_n hx hb dX11_place_344 rfl (lv_at hl 2 rfl) ?_
    obtain ⟨v53, e54, h⟩ := k_bd h
    refine rd_calli (va_runV (As := [.int x7, .int x6, .int x5, .int x2]) (rest := []) C0.1 (kX11_canLie l (D := D) (cI := cI) (cB := cB) (cZ := cZ) (am := am) (τ := τ) σ x7 x6 x5 x2 _ e54) (wX11_place_X11_canLie hts ⟨Nat.le_of_ble_eq_true rfl, Nat.le_of_ble_eq_true rfl⟩) ⟨PW.blind, mw_r0 hK hP, PW.mk hP hK hN⟩ rfl rfl hl.1 rfl (lv_room (Nat.le_of_ble_eq_true rfl)) dX11_place_345 ⟨Nat.zero_le _, Nat.zero_le _⟩) ?_
    refine lv_if_ne (tgt := 357) hx hb dX11_place_348 (by decide) (fun c348 => ?_) (fun c348 => ?_)
    · replace h := k_in c348 h
      obtain rfl := k_sm h
      exact kk _ _ _ hP hS (lv_sub hl [0, 1, 2, 3, 4, 5, 6] rfl)
    · replace h := k_ip c348 h
      refine lv_iinc (v := (x6 + 1)) (lv' := [(6, .int (x6 + 1)), (0, .ref (am 0)), (1, .int x1), (2, .int x2), (3, .int x3), (5, .int x5), (7, .int x7)]) hx hb dX11_place_351 hl (k := 5) rfl rfl (by decide) rfl (fun ls hl => ?_)
      refine lv_goto (tgt := 337) hx hb dX11_place_354 (by decide) ?_
      exact ih (x6 + 1) _ _ _ ls hP hS (lv_sub hl [1, 2, 3, 4, 5, 0, 6] rfl) h kk
set_option maxHeartbeats 4000000 in
set_option maxRecDepth 100000 in
theorem bX11_place_L319 {p : Program} {l : Launch} {e : Env} {s : State} {m : MethodId} {args : Array Value} {below : List Frame} {meth : Method} {c : Code} {Q : State → Prop} {D : va_G} {cI cB cZ : ClassId} {am : Nat → Nat} (C0 : Cx p s m args meth c cX11_place 9 (some .int) RX11 wsX11_place) (hK : va_K D vwCl (tysA cI cB cZ) s) (hN : NW s) (hap : mwX am) {τ : Int64} {σ : Sg} (x1 : Int32) (x2 : Int32) (x3 : Int32) : ∀ (n : Nat) (x5 : Int32) (x6 : Int32) (x7 : Int32) (v : Int32) (H : Heap) (locs : List Loc) (ls : Array Slot), va_P D vwCl (MW cI cB cZ am τ σ) H → va_S (mwA am) s.heap H locs → lv_has ls 9 [(0, .ref (am 0)), (1, .int x1), (2, .int x2), (3, .int x3), (5, .int x5), (6, .int x6), (7, .int x7)] → pX11_place_L319 σ x1 x2 x3 n x5 x6 x7 = some v → (∀ (H1 : Heap) (locs1 : List Loc) (ls1 : Array Slot), va_P D vwCl (MW cI cB cZ am τ σ) H1 → va_S (mwA am) s.heap H1 locs1 → lv_has ls1 9 [(6, .int v)] → W p l e rmX11_place s m args below meth c H1 locs1 0 0 Q (F0 m 372 ls1 [])) → W p l e rmX11_place s m args below meth c H locs 0 0 Q (F0 m 319 ls []) := by
  obtain ⟨⟨hx, hb, hml, hown, hts⟩, hr, hlk⟩ := id C0
  intro n
  induction n with
  | zero =>
    intro x5 x6 x7 v H locs ls hP hS hl h kk
    exact absurd h (by simp [pX11_place_L319])
  | succ n ih =>
    intro x5 x6 x7 v H locs ls hP hS hl h kk
    rw [pX11_place_L319] at h
    refine lv_iload hx hb dX11_place_319 (lv_at hl 6 rfl) ?_
    refine lv_iload_n hx hb dX11_place_321 rfl (lv_at hl 3 rfl) ?_
    refine lv_icmp_gt (tgt := 372) hx hb dX11_place_322 (by decide) (fun c322 => ?_) (fun c322 => ?_)
    · replace h := k_ip c322 h
      obtain rfl := k_sm h
      exact kk _ _ _ hP hS (lv_sub hl [5] rfl)
    · replace h := k_in c322 h
      refine lv_iload_n hx hb dX11_place_325 rfl (lv_at hl 1 rfl) ?_
      refine lv_iload hx hb dX11_place_326 (lv_at hl 6 rfl) ?_
      refine rd_calli (va_runS (As := [.int x1, .int x7]) (rest := []) C0.1 (kX11_has l x1 x7) (wX11_place_X11_has hts ⟨Nat.le_of_ble_eq_true rfl, Nat.le_of_ble_eq_true rfl⟩) ⟨PT.blind, fun _ _ _ => ⟨rfl, trivial⟩⟩ rfl rfl hl.1 rfl (lv_room (Nat.le_of_ble_eq_true rfl)) dX11_place_328 ⟨Nat.zero_le _, Nat.zero_le _⟩) ?_
      refine lv_if_eq (tgt := 366) hx hb dX11_place_331 (by decide) (fun c331 => ?_) (fun c331 => ?_)
      · replace h := k_ip c331 h
        refine lv_iinc (v := (x7 + 1)) (lv' := [(7, .int (x7 + 1)), (0, .ref (am 0)), (1, .int x1), (2, .int x2), (3, .int x3), (5, .int x5), (6, .int x6)]) hx hb dX11_place_366 hl (k := 6) rfl rfl (by decide) rfl (fun ls hl => ?_)
        refine lv_goto (tgt := 319) hx hb dX11_place_369 (by decide) ?_
        exact ih x5 x6 (x7 + 1) _ _ _ ls hP hS (lv_sub hl [1, 2, 3, 4, 5, 6, 0] rfl) h kk
      · replace h := k_in c331 h
        refine lv_iconst (v := 0) hx hb dX11_place_334 (by decide) ?_
        refine lv_istore (lv' := [(6, .int 0), (0, .ref (am 0)), (1, .int x1), (2, .int x2), (3, .int x3), (5, .int x5), (7, .int x7)]) hx hb dX11_place_335 hl (by decide) rfl (fun ls hl => ?_)
        obtain ⟨w55, e56, h⟩ := k_bd h
        refine bX11_place_L337 C0 hK hN hap x1 x2 x3 x5 x7 2000 0 _ _ _ ls hP hS (lv_sub hl [1, 2, 3, 4, 5, 0, 6] rfl) e56 (fun H locs ls hP hS hl => ?_)
        refine lv_iload hx hb dX11_place_357 (lv_at hl 4 rfl) ?_
        refine lv_iconst (v := 1) hx hb dX11_place_359 (by decide) ?_
        refine lv_iload hx hb dX11_place_360 (lv_at hl 5 rfl) ?_
        refine lv_ishl hx hb dX11_place_362 ?_
        refine lv_ior hx hb dX11_place_363 ?_
        obtain ⟨v57, e58, h⟩ := k_bd h
        refine lv_nmi (k_sm e58) ?_
        refine lv_istore (lv' := [(5, .int v57), (0, .ref (am 0)), (1, .int x1), (2, .int x2), (3, .int x3), (6, .int w55), (7, .int x7)]) hx hb dX11_place_364 hl (by decide) rfl (fun ls hl => ?_)
        refine lv_iinc (v := (x7 + 1)) (lv' := [(7, .int (x7 + 1)), (5, .int v57), (0, .ref (am 0)), (1, .int x1), (2, .int x2), (3, .int x3), (6, .int w55)]) hx hb dX11_place_366 hl (k := 6) rfl rfl (by decide) rfl (fun ls hl => ?_)
        refine lv_goto (tgt := 319) hx hb dX11_place_369 (by decide) ?_
        exact ih v57 w55 (x7 + 1) _ _ _ ls hP hS (lv_sub hl [2, 3, 4, 5, 1, 6, 0] rfl) h kk
set_option maxHeartbeats 4000000 in
set_option maxRecDepth 100000 in
theorem kX11_place (l : Launch) {D : va_G} {cI cB cZ : ClassId} {am : Nat → Nat} {τ : Int64} (hap : mwX am) (σ : Sg) (x1 : Int32) (x2 : Int32) (x3 : Int32) (o : (Int32 × Sg)) (h : pX11_place σ x1 x2 x3 = some o) : Met l yX11_place wsX11_place rmX11_place (va_Pc [.ref (am 0), .int x1, .int x2, .int x3] (PW D cI cB cZ (MW cI cB cZ am τ σ))) (QI D (MW cI cB cZ am τ) (mwA am) o.1 o.2) 0 0 (mwA am) := by
  refine Met.ofW (cc := cX11_place) (maxL := 9) (ret := (some .int)) (by decide) rfl ?_
  intro p e s m args below meth c s₁ B hml hv
  obtain ⟨rfl, hP, hK, hN⟩ := hv
  have C0 : Cx p s m _ meth c cX11_place 9 (some .int) RX11 wsX11_place := ⟨⟨B.exec, B.bytes, hml, findClass_of_methodNamed B.named, atoms_spec B.pre⟩, B.returns, B.notSynchronized⟩
  obtain ⟨⟨hx, hb, -, hown, hts⟩, hr, hlk⟩ := id C0
  have hS : va_S (mwA am) s.heap s.heap [] := va_S.rf
  have hl := lv_entry ([.ref (am 0), .int x1, .int x2, .int x3]) (n := 9) (Nat.le_of_ble_eq_true rfl)
  rw [lg_entry_eq]
  generalize (lg_sl ([.ref (am 0), .int x1, .int x2, .int x3]) ++ List.replicate (9 - (lg_sl ([.ref (am 0), .int x1, .int x2, .int x3])).length) Slot.unset).toArray = ls at hl ⊢
  have hl : lv_has ls 9 [(0, .ref (am 0)), (1, .int x1), (2, .int x2), (3, .int x3)] := hl
  rw [pX11_place] at h
  refine lv_iload_n hx hb dX11_place_0 rfl (lv_at hl 1 rfl) ?_
  refine lv_iconst (v := 0) hx hb dX11_place_1 (by decide) ?_
  refine lv_iconst (v := 1) hx hb dX11_place_2 (by decide) ?_
  refine lv_aload_n hx hb dX11_place_3 rfl (lv_at hl 0 rfl) ?_
  refine va_get (D := D) (ci := 11) (v := .ref (am 7)) (C := RX11) (T := TX11) (N := 30) hx hb hts iX11_place_X11 hown hK hP 0 mw_0 rfl 7 (by decide) (hts (.fieldLink RX11 29 RX11 "anchors" "[I") (by decide +kernel)) (fun _ h9 => h9) rfl dX11_place_4 ?_
  refine lv_iconst (v := 0) hx hb dX11_place_7 (by decide) ?_
  obtain ⟨v1, e2, h⟩ := k_bd h
  refine va_iald hx hb hK hP 7 0 mw_7 rfl (k_rd e2).1 dX11_place_8 ?_
  refine lv_nmi (k_rd e2).2 ?_
  refine lv_ishl hx hb dX11_place_9 ?_
  refine lv_iconst (v := 1) hx hb dX11_place_10 (by decide) ?_
  refine lv_isub hx hb dX11_place_11 ?_
  refine rd_calli (va_runS (As := [.int x1, .int 0, .int (((1 : Int32) <<< (v1 &&& 31)) - 1)]) (rest := []) C0.1 (kX11_in l x1 0 (((1 : Int32) <<< (v1 &&& 31)) - 1)) (wX11_place_X11_in hts ⟨Nat.le_of_ble_eq_true rfl, Nat.le_of_ble_eq_true rfl⟩) ⟨PT.blind, fun _ _ _ => ⟨rfl, trivial⟩⟩ rfl rfl hl.1 rfl (lv_room (Nat.le_of_ble_eq_true rfl)) dX11_place_12 ⟨Nat.zero_le _, Nat.zero_le _⟩) ?_
  refine lv_if_eq (tgt := 41) hx hb dX11_place_15 (by decide) (fun c15 => ?_) (fun c15 => ?_)
  · replace h := k_ip c15 h
    refine lv_iconst (v := (-1)) hx hb dX11_place_41 (by decide) ?_
    obtain rfl := k_sm h
    exact W.iret hx hb hr (fun t ht hW => ⟨⟨_, _, rfl, ⟨rfl, rfl⟩, pw_end ht hP⟩, hS.F ht⟩) hS.2.2 dX11_place_42
  · replace h := k_in c15 h
    refine lv_iload_n hx hb dX11_place_18 rfl (lv_at hl 2 rfl) ?_
    refine rd_calli (va_runS (As := [.int x2]) (rest := []) C0.1 (kX11_isStorm l x2) (wX11_place_X11_isStorm hts ⟨Nat.le_of_ble_eq_true rfl, Nat.le_of_ble_eq_true rfl⟩) ⟨PT.blind, fun _ _ _ => ⟨rfl, trivial⟩⟩ rfl rfl hl.1 rfl (lv_room (Nat.le_of_ble_eq_true rfl)) dX11_place_19 ⟨Nat.zero_le _, Nat.zero_le _⟩) ?_
    refine lv_if_eq (tgt := 41) hx hb dX11_place_22 (by decide) (fun c22 => ?_) (fun c22 => ?_)
    · replace h := k_ip c22 h
      refine lv_iconst (v := (-1)) hx hb dX11_place_41 (by decide) ?_
      obtain rfl := k_sm h
      exact W.iret hx hb hr (fun t ht hW => ⟨⟨_, _, rfl, ⟨rfl, rfl⟩, pw_end ht hP⟩, hS.F ht⟩) hS.2.2 dX11_place_42
    · replace h := k_in c22 h
      refine lv_aload_n hx hb dX11_place_25 rfl (lv_at hl 0 rfl) ?_
      refine lv_iload_n hx hb dX11_place_26 rfl (lv_at hl 3 rfl) ?_
      obtain ⟨v3, e4, h⟩ := k_bd h
      refine rd_calli (va_runV (As := [.int x3]) (rest := []) C0.1 (kX11_isAnchor l (D := D) (cI := cI) (cB := cB) (cZ := cZ) (am := am) (τ := τ) σ x3 _ e4) (wX11_place_X11_isAnchor hts ⟨Nat.le_of_ble_eq_true rfl, Nat.le_of_ble_eq_true rfl⟩) ⟨PW.blind, mw_r0 hK hP, PW.mk hP hK hN⟩ rfl rfl hl.1 rfl (lv_room (Nat.le_of_ble_eq_true rfl)) dX11_place_27 ⟨Nat.zero_le _, Nat.zero_le _⟩) ?_
      refine lv_if_eq (tgt := 41) hx hb dX11_place_30 (by decide) (fun c30 => ?_) (fun c30 => ?_)
      · replace h := k_ip c30 h
        refine lv_iconst (v := (-1)) hx hb dX11_place_41 (by decide) ?_
        obtain rfl := k_sm h
        exact W.iret hx hb hr (fun t ht hW => ⟨⟨_, _, rfl, ⟨rfl, rfl⟩, pw_end ht hP⟩, hS.F ht⟩) hS.2.2 dX11_place_42
      · replace h := k_in c30 h
        refine lv_iload_n hx hb dX11_place_33 rfl (lv_at hl 1 rfl) ?_
        refine lv_iload_n hx hb dX11_place_34 rfl (lv_at hl 3 rfl) ?_
        refine rd_calli (va_runS (As := [.int x1, .int x3]) (rest := []) C0.1 (kX11_has l x1 x3) (wX11_place_X11_has hts ⟨Nat.le_of_ble_eq_true rfl, Nat.le_of_ble_eq_true rfl⟩) ⟨PT.blind, fun _ _ _ => ⟨rfl, trivial⟩⟩ rfl rfl hl.1 rfl (lv_room (Nat.le_of_ble_eq_true rfl)) dX11_place_35 ⟨Nat.zero_le _, Nat.zero_le _⟩) ?_
        refine lv_if_ne (tgt := 43) hx hb dX11_place_38 (by decide) (fun c38 => ?_) (fun c38 => ?_)
        · replace h := k_in c38 h
          refine lv_iload_n hx hb dX11_place_43 rfl (lv_at hl 1 rfl) ?_
          refine lv_aload_n hx hb dX11_place_44 rfl (lv_at hl 0 rfl) ?_
          refine lv_iconst (v := 0) hx hb dX11_place_45 (by decide) ?_
          obtain ⟨v5, e6, h⟩ := k_bd h
          refine rd_calli (va_runV (As := [.int 0]) (rest := [.int x1]) C0.1 (kX11_those l (D := D) (cI := cI) (cB := cB) (cZ := cZ) (am := am) (τ := τ) σ 0 _ e6) (wX11_place_X11_those hts ⟨Nat.le_of_ble_eq_true rfl, Nat.le_of_ble_eq_true rfl⟩) ⟨PW.blind, mw_r0 hK hP, PW.mk hP hK hN⟩ rfl rfl hl.1 rfl (lv_room (Nat.le_of_ble_eq_true rfl)) dX11_place_46 ⟨Nat.zero_le _, Nat.zero_le _⟩) ?_
          refine lv_iconst (v := (-1)) hx hb dX11_place_49 (by decide) ?_
          refine lv_ixor hx hb dX11_place_50 ?_
          refine lv_iand hx hb dX11_place_51 ?_
          refine lv_if_eq (tgt := 58) hx hb dX11_place_52 (by decide) (fun c52 => ?_) (fun c52 => ?_)
          · replace h := k_ip c52 h
            refine lv_iconst (v := 0) hx hb dX11_place_58 (by decide) ?_
            refine lv_istore (lv' := [(4, .int 0), (0, .ref (am 0)), (1, .int x1), (2, .int x2), (3, .int x3)]) hx hb dX11_place_59 hl (by decide) rfl (fun ls hl => ?_)
            refine lv_iconst (v := 0) hx hb dX11_place_61 (by decide) ?_
            refine lv_istore (lv' := [(5, .int 0), (4, .int 0), (0, .ref (am 0)), (1, .int x1), (2, .int x2), (3, .int x3)]) hx hb dX11_place_62 hl (by decide) rfl (fun ls hl => ?_)
            obtain ⟨w19, e20, h⟩ := k_bd h
            refine bX11_place_L64 C0 hK hN hap x1 x2 x3 2000 0 0 _ _ _ ls hP hS (lv_sub hl [2, 3, 4, 5, 1, 0] rfl) e20 (fun H locs ls hP hS hl => ?_)
            refine lv_iconst (v := 0) hx hb dX11_place_119 (by decide) ?_
            refine lv_istore (lv' := [(5, .int 0), (0, .ref (am 0)), (1, .int x1), (2, .int x2), (3, .int x3), (4, .int w19)]) hx hb dX11_place_120 hl (by decide) rfl (fun ls hl => ?_)
            obtain ⟨w25, e26, h⟩ := k_bd h
            refine bX11_place_L122 C0 hK hN hap x1 x2 x3 w19 2000 0 σ _ _ _ ls hP hS (lv_sub hl [1, 2, 3, 4, 5, 0] rfl) e26 (fun H locs ls hP hS hl => ?_)
            refine lv_aload_n hx hb dX11_place_155 rfl (lv_at hl 0 rfl) ?_
            refine va_get (D := D) (ci := 11) (v := .ref (am 7)) (C := RX11) (T := TX11) (N := 30) hx hb hts iX11_place_X11 hown hK hP 0 mw_0 rfl 7 (by decide) (hts (.fieldLink RX11 29 RX11 "anchors" "[I") (by decide +kernel)) (fun _ h9 => h9) rfl dX11_place_156 ?_
            refine lv_iconst (v := 0) hx hb dX11_place_159 (by decide) ?_
            obtain ⟨v27, e28, h⟩ := k_bd h
            refine va_iald hx hb hK hP 7 0 mw_7 rfl (k_rd e28).1 dX11_place_160 ?_
            refine lv_nmi (k_rd e28).2 ?_
            refine lv_iconst (v := 1) hx hb dX11_place_161 (by decide) ?_
            refine lv_isub hx hb dX11_place_162 ?_
            obtain ⟨v29, e30, h⟩ := k_bd h
            refine lv_nmi (k_sm e30) ?_
            refine lv_istore (lv' := [(5, .int v29), (0, .ref (am 0)), (1, .int x1), (2, .int x2), (3, .int x3), (4, .int w19)]) hx hb dX11_place_163 hl (by decide) rfl (fun ls hl => ?_)
            obtain ⟨w49, e50, h⟩ := k_bd h
            refine bX11_place_L165 C0 hK hN hap x1 x2 x3 w19 2000 v29 w25 _ _ _ ls hP hS (lv_sub hl [1, 2, 3, 4, 5, 0] rfl) e50 (fun H locs ls hP hS hl => ?_)
            refine lv_aload_n hx hb dX11_place_295 rfl (lv_at hl 0 rfl) ?_
            refine va_get (D := D) (ci := 11) (v := .ref (am 19)) (C := RX11) (T := TX11) (N := 30) hx hb hts iX11_place_X11 hown hK hP 0 mw_0 rfl 25 (by decide) (hts (.fieldLink RX11 66 RX11 "can" "[Z") (by decide +kernel)) (fun _ h9 => h9) rfl dX11_place_296 ?_
            refine lv_iload hx hb dX11_place_299 (lv_at hl 4 rfl) ?_
            obtain ⟨v51, e52, h⟩ := k_bd h
            refine va_zald hx hb hK hP 19 2 mw_19 rfl (k_rd e52).1 dX11_place_301 ?_
            refine lv_nmi (k_rd e52).2 ?_
            refine lv_if_ne (tgt := 308) hx hb dX11_place_302 (by decide) (fun c302 => ?_) (fun c302 => ?_)
            · replace h := k_in c302 h
              refine lv_iload hx hb dX11_place_308 (lv_at hl 4 rfl) ?_
              refine lv_istore (lv' := [(5, .int w19), (0, .ref (am 0)), (1, .int x1), (2, .int x2), (3, .int x3), (4, .int w19)]) hx hb dX11_place_310 hl (by decide) rfl (fun ls hl => ?_)
              refine lv_bipush (v := (-9)) hx hb dX11_place_312 (by decide) ?_
              refine lv_istore (lv' := [(6, .int (-9)), (5, .int w19), (0, .ref (am 0)), (1, .int x1), (2, .int x2), (3, .int x3), (4, .int w19)]) hx hb dX11_place_314 hl (by decide) rfl (fun ls hl => ?_)
              refine lv_iconst (v := 0) hx hb dX11_place_316 (by decide) ?_
              refine lv_istore (lv' := [(7, .int 0), (6, .int (-9)), (5, .int w19), (0, .ref (am 0)), (1, .int x1), (2, .int x2), (3, .int x3), (4, .int w19)]) hx hb dX11_place_317 hl (by decide) rfl (fun ls hl => ?_)
              obtain ⟨w59, e60, h⟩ := k_bd h
              refine bX11_place_L319 C0 hK hN hap x1 x2 x3 2000 w19 (-9) 0 _ _ _ ls hP hS (lv_sub hl [3, 4, 5, 6, 2, 1, 0] rfl) e60 (fun H locs ls hP hS hl => ?_)
              refine lv_iload hx hb dX11_place_372 (lv_at hl 0 rfl) ?_
              obtain rfl := k_sm h
              exact W.iret hx hb hr (fun t ht hW => ⟨⟨_, _, rfl, ⟨rfl, rfl⟩, pw_end ht hP⟩, hS.F ht⟩) hS.2.2 dX11_place_374
            · replace h := k_ip c302 h
              refine lv_bipush (v := (-9)) hx hb dX11_place_305 (by decide) ?_
              obtain rfl := k_sm h
              exact W.iret hx hb hr (fun t ht hW => ⟨⟨_, _, rfl, ⟨rfl, rfl⟩, pw_end ht hP⟩, hS.F ht⟩) hS.2.2 dX11_place_307
          · replace h := k_in c52 h
            refine lv_bipush (v := (-2)) hx hb dX11_place_55 (by decide) ?_
            obtain rfl := k_sm h
            exact W.iret hx hb hr (fun t ht hW => ⟨⟨_, _, rfl, ⟨rfl, rfl⟩, pw_end ht hP⟩, hS.F ht⟩) hS.2.2 dX11_place_57
        · replace h := k_ip c38 h
          refine lv_iconst (v := (-1)) hx hb dX11_place_41 (by decide) ?_
          obtain rfl := k_sm h
          exact W.iret hx hb hr (fun t ht hW => ⟨⟨_, _, rfl, ⟨rfl, rfl⟩, pw_end ht hP⟩, hS.F ht⟩) hS.2.2 dX11_place_42
set_option maxHeartbeats 4000000 in
set_option maxRecDepth 100000 in
theorem bX11_vital_L36 {p : Program} {l : Launch} {e : Env} {s : State} {m : MethodId} {args : Array Value} {below : List Frame} {meth : Method} {c : Code} {Q : State → Prop} {D : va_G} {cI cB cZ : ClassId} {am : Nat → Nat} (C0 : Cx p s m args meth c cX11_vital 8 (some .int) RX11 wsX11_vital) (hK : va_K D vwCl (tysA cI cB cZ) s) (hN : NW s) {τ : Int64} {σ : Sg} (hP : va_P D vwCl (MW cI cB cZ am τ σ) s.heap) (x2 : Int32) (x3 : Int32) (x4 : Int32) : ∀ (n : Nat) (x5 : Int32) (x6 : Int32) (v : Int32) (ls : Array Slot), lv_has ls 8 [(0, .ref (am 0)), (2, .int x2), (3, .int x3), (4, .int x4), (5, .int x5), (6, .int x6)] → pX11_vital_L36 σ x2 x3 x4 n x5 x6 = some v → (∀ (ls1 : Array Slot), lv_has ls1 8 [(5, .int v)] → W p l e rmX11_vital s m args below meth c s.heap [] 0 0 Q (F0 m 120 ls1 [])) → W p l e rmX11_vital s m args below meth c s.heap [] 0 0 Q (F0 m 36 ls []) := by
  obtain ⟨⟨hx, hb, hml, hown, hts⟩, hr, hlk⟩ := id C0
  intro n
  induction n with
  | zero =>
    intro x5 x6 v ls hl h kk
    exact absurd h (by simp [pX11_vital_L36])
  | succ n ih =>
    intro x5 x6 v ls hl h kk
    rw [pX11_vital_L36] at h
    refine lv_iload hx hb dX11_vital_36 (lv_at hl 5 rfl) ?_
    refine lv_aload_n hx hb dX11_vital_38 rfl (lv_at hl 0 rfl) ?_
    refine va_get (D := D) (ci := 11) (v := .ref (am 7)) (C := RX11) (T := TX11) (N := 30) hx hb hts iX11_vital_X11 hown hK hP 0 mw_0 rfl 7 (by decide) (hts (.fieldLink RX11 29 RX11 "anchors" "[I") (by decide +kernel)) (fun _ h9 => h9) rfl dX11_vital_39 ?_
    refine lv_iconst (v := 0) hx hb dX11_vital_42 (by decide) ?_
    obtain ⟨v7, e8, h⟩ := k_bd h
    refine va_iald hx hb hK hP 7 0 mw_7 rfl (k_rd e8).1 dX11_vital_43 ?_
    refine lv_nmi (k_rd e8).2 ?_
    refine lv_icmp_ge (tgt := 120) hx hb dX11_vital_44 (by decide) (fun c44 => ?_) (fun c44 => ?_)
    · replace h := k_ip c44 h
      obtain rfl := k_sm h
      exact kk _ (lv_sub hl [4] rfl)
    · replace h := k_in c44 h
      refine lv_aload_n hx hb dX11_vital_47 rfl (lv_at hl 0 rfl) ?_
      refine lv_iload hx hb dX11_vital_48 (lv_at hl 5 rfl) ?_
      obtain ⟨v9, e10, h⟩ := k_bd h
      refine rd_calli (va_runV (As := [.int x6]) (rest := []) C0.1 (kX11_isLying l (D := D) (cI := cI) (cB := cB) (cZ := cZ) (am := am) (τ := τ) σ x6 _ e10) (wX11_vital_X11_isLying hts ⟨Nat.le_of_ble_eq_true rfl, Nat.le_of_ble_eq_true rfl⟩) ⟨PW.blind, mw_r0 hK hP, PW.mk hP hK hN⟩ rfl rfl hl.1 rfl (lv_room (Nat.le_of_ble_eq_true rfl)) dX11_vital_50 ⟨Nat.zero_le _, Nat.zero_le _⟩) ?_
      obtain ⟨j11, e16, h⟩ := k_bd h
      have key : ∀ (ls : Array Slot), lv_has ls 8 [(0, .ref (am 0)), (2, .int x2), (3, .int x3), (4, .int x4), (5, .int x5), (6, .int x6)] → W p l e rmX11_vital s m args below meth c s.heap [] 0 0 Q (F0 m 94 ls [.int j11]) := by
        intro ls hl
        refine lv_istore (lv' := [(7, .int j11), (0, .ref (am 0)), (2, .int x2), (3, .int x3), (4, .int x4), (5, .int x5), (6, .int x6)]) hx hb dX11_vital_94 hl (by decide) rfl (fun ls hl => ?_)
        refine lv_iload hx hb dX11_vital_96 (lv_at hl 5 rfl) ?_
        refine lv_iload hx hb dX11_vital_98 (lv_at hl 0 rfl) ?_
        refine lv_if_eq (tgt := 110) hx hb dX11_vital_100 (by decide) (fun c100 => ?_) (fun c100 => ?_)
        · replace h := k_ip c100 h
          refine lv_iconst (v := 0) hx hb dX11_vital_110 (by decide) ?_
          refine lv_ior hx hb dX11_vital_111 ?_
          obtain ⟨v17, e18, h⟩ := k_bd h
          refine lv_nmi (k_sm e18) ?_
          refine lv_istore (lv' := [(5, .int v17), (7, .int j11), (0, .ref (am 0)), (2, .int x2), (3, .int x3), (4, .int x4), (6, .int x6)]) hx hb dX11_vital_112 hl (by decide) rfl (fun ls hl => ?_)
          refine lv_iinc (v := (x6 + 1)) (lv' := [(6, .int (x6 + 1)), (5, .int v17), (7, .int j11), (0, .ref (am 0)), (2, .int x2), (3, .int x3), (4, .int x4)]) hx hb dX11_vital_114 hl (k := 6) rfl rfl (by decide) rfl (fun ls hl => ?_)
          refine lv_goto (tgt := 36) hx hb dX11_vital_117 (by decide) ?_
          exact ih v17 (x6 + 1) _ ls (lv_sub hl [3, 4, 5, 6, 1, 0] rfl) h kk
        · replace h := k_in c100 h
          refine lv_iconst (v := 1) hx hb dX11_vital_103 (by decide) ?_
          refine lv_iload hx hb dX11_vital_104 (lv_at hl 6 rfl) ?_
          refine lv_ishl hx hb dX11_vital_106 ?_
          refine lv_goto (tgt := 111) hx hb dX11_vital_107 (by decide) ?_
          refine lv_ior hx hb dX11_vital_111 ?_
          obtain ⟨v19, e20, h⟩ := k_bd h
          refine lv_nmi (k_sm e20) ?_
          refine lv_istore (lv' := [(5, .int v19), (7, .int j11), (0, .ref (am 0)), (2, .int x2), (3, .int x3), (4, .int x4), (6, .int x6)]) hx hb dX11_vital_112 hl (by decide) rfl (fun ls hl => ?_)
          refine lv_iinc (v := (x6 + 1)) (lv' := [(6, .int (x6 + 1)), (5, .int v19), (7, .int j11), (0, .ref (am 0)), (2, .int x2), (3, .int x3), (4, .int x4)]) hx hb dX11_vital_114 hl (k := 6) rfl rfl (by decide) rfl (fun ls hl => ?_)
          refine lv_goto (tgt := 36) hx hb dX11_vital_117 (by decide) ?_
          exact ih v19 (x6 + 1) _ ls (lv_sub hl [3, 4, 5, 6, 1, 0] rfl) h kk
      clear h
      have h := e16
      clear e16
      refine lv_if_eq (tgt := 93) hx hb dX11_vital_53 (by decide) (fun c53 => ?_) (fun c53 => ?_)
      · replace h := k_ip c53 h
        refine lv_iconst (v := 0) hx hb dX11_vital_93 (by decide) ?_
        obtain rfl := k_sm h
        exact key _ (lv_sub hl [0, 1, 2, 3, 4, 5] rfl)
      · replace h := k_in c53 h
        refine lv_iload_n hx hb dX11_vital_56 rfl (lv_at hl 2 rfl) ?_
        refine lv_aload_n hx hb dX11_vital_57 rfl (lv_at hl 0 rfl) ?_
        refine va_get (D := D) (ci := 11) (v := .ref (am 8)) (C := RX11) (T := TX11) (N := 30) hx hb hts iX11_vital_X11 hown hK hP 0 mw_0 rfl 8 (by decide) (hts (.fieldLink RX11 32 RX11 "owner" "[I") (by decide +kernel)) (fun _ h9 => h9) rfl dX11_vital_58 ?_
        refine lv_iload hx hb dX11_vital_61 (lv_at hl 5 rfl) ?_
        obtain ⟨v12, e13, h⟩ := k_bd h
        refine va_iald hx hb hK hP 8 0 mw_8 rfl (k_rd e13).1 dX11_vital_63 ?_
        refine lv_nmi (k_rd e13).2 ?_
        refine rd_calli (va_runS (As := [.int x3, .int v12]) (rest := []) C0.1 (kX11_has l x3 v12) (wX11_vital_X11_has hts ⟨Nat.le_of_ble_eq_true rfl, Nat.le_of_ble_eq_true rfl⟩) ⟨PT.blind, fun _ _ _ => ⟨rfl, trivial⟩⟩ rfl rfl hl.1 rfl (lv_room (Nat.le_of_ble_eq_true rfl)) dX11_vital_64 ⟨Nat.zero_le _, Nat.zero_le _⟩) ?_
        refine lv_if_eq (tgt := 93) hx hb dX11_vital_67 (by decide) (fun c67 => ?_) (fun c67 => ?_)
        · replace h := k_ip c67 h
          refine lv_iconst (v := 0) hx hb dX11_vital_93 (by decide) ?_
          obtain rfl := k_sm h
          exact key _ (lv_sub hl [0, 1, 2, 3, 4, 5] rfl)
        · replace h := k_in c67 h
          refine lv_iload hx hb dX11_vital_70 (lv_at hl 3 rfl) ?_
          refine lv_iload_n hx hb dX11_vital_72 rfl (lv_at hl 1 rfl) ?_
          refine lv_icmp_lt (tgt := 93) hx hb dX11_vital_73 (by decide) (fun c73 => ?_) (fun c73 => ?_)
          · replace h := k_ip c73 h
            refine lv_iconst (v := 0) hx hb dX11_vital_93 (by decide) ?_
            obtain rfl := k_sm h
            exact key _ (lv_sub hl [0, 1, 2, 3, 4, 5] rfl)
          · replace h := k_in c73 h
            refine lv_iload hx hb dX11_vital_76 (lv_at hl 3 rfl) ?_
            refine lv_aload_n hx hb dX11_vital_78 rfl (lv_at hl 0 rfl) ?_
            refine lv_iload hx hb dX11_vital_79 (lv_at hl 5 rfl) ?_
            obtain ⟨v14, e15, h⟩ := k_bd h
            refine rd_calli (va_runV (As := [.int x6]) (rest := [.int x4]) C0.1 (kX11_strength l (D := D) (cI := cI) (cB := cB) (cZ := cZ) (am := am) (τ := τ) σ x6 _ e15) (wX11_vital_X11_strength hts ⟨Nat.le_of_ble_eq_true rfl, Nat.le_of_ble_eq_true rfl⟩) ⟨PW.blind, mw_r0 hK hP, PW.mk hP hK hN⟩ rfl rfl hl.1 rfl (lv_room (Nat.le_of_ble_eq_true rfl)) dX11_vital_81 ⟨Nat.zero_le _, Nat.zero_le _⟩) ?_
            refine lv_isub hx hb dX11_vital_84 ?_
            refine lv_iload_n hx hb dX11_vital_85 rfl (lv_at hl 1 rfl) ?_
            refine lv_icmp_ge (tgt := 93) hx hb dX11_vital_86 (by decide) (fun c86 => ?_) (fun c86 => ?_)
            · replace h := k_ip c86 h
              refine lv_iconst (v := 0) hx hb dX11_vital_93 (by decide) ?_
              obtain rfl := k_sm h
              exact key _ (lv_sub hl [0, 1, 2, 3, 4, 5] rfl)
            · replace h := k_in c86 h
              refine lv_iconst (v := 1) hx hb dX11_vital_89 (by decide) ?_
              refine lv_goto (tgt := 94) hx hb dX11_vital_90 (by decide) ?_
              obtain rfl := k_sm h
              exact key _ (lv_sub hl [0, 1, 2, 3, 4, 5] rfl)
set_option maxHeartbeats 4000000 in
set_option maxRecDepth 100000 in
theorem kX11_vital (l : Launch) {D : va_G} {cI cB cZ : ClassId} {am : Nat → Nat} {τ : Int64} (σ : Sg) (x1 : Int32) (x2 : Int32) (o : Int32) (h : pX11_vital σ x1 x2 = some o) : Met l yX11_vital wsX11_vital rmX11_vital (va_Pc [.ref (am 0), .int x1, .int x2] (PW D cI cB cZ (MW cI cB cZ am τ σ))) (QcRead o) 0 0 (fun _ => False) := by
  refine Met.ofW (cc := cX11_vital) (maxL := 8) (ret := (some .int)) (by decide) rfl ?_
  intro p e s m args below meth c s₁ B hml hv
  obtain ⟨rfl, hP, hK, hN⟩ := hv
  have C0 : Cx p s m _ meth c cX11_vital 8 (some .int) RX11 wsX11_vital := ⟨⟨B.exec, B.bytes, hml, findClass_of_methodNamed B.named, atoms_spec B.pre⟩, B.returns, B.notSynchronized⟩
  obtain ⟨⟨hx, hb, -, hown, hts⟩, hr, hlk⟩ := id C0
  have hl := lv_entry ([.ref (am 0), .int x1, .int x2]) (n := 8) (Nat.le_of_ble_eq_true rfl)
  rw [lg_entry_eq]
  generalize (lg_sl ([.ref (am 0), .int x1, .int x2]) ++ List.replicate (8 - (lg_sl ([.ref (am 0), .int x1, .int x2])).length) Slot.unset).toArray = ls at hl ⊢
  have hl : lv_has ls 8 [(0, .ref (am 0)), (1, .int x1), (2, .int x2)] := hl
  rw [pX11_vital] at h
  refine lv_aload_n hx hb dX11_vital_0 rfl (lv_at hl 0 rfl) ?_
  refine lv_iload_n hx hb dX11_vital_1 rfl (lv_at hl 1 rfl) ?_
  obtain ⟨v1, e2, h⟩ := k_bd h
  refine rd_calli (va_runV (As := [.int x1]) (rest := []) C0.1 (kX11_isRaft l (D := D) (cI := cI) (cB := cB) (cZ := cZ) (am := am) (τ := τ) σ x1 _ e2) (wX11_vital_X11_isRaft hts ⟨Nat.le_of_ble_eq_true rfl, Nat.le_of_ble_eq_true rfl⟩) ⟨PW.blind, mw_r0 hK hP, PW.mk hP hK hN⟩ rfl rfl hl.1 rfl (lv_room (Nat.le_of_ble_eq_true rfl)) dX11_vital_2 ⟨Nat.zero_le _, Nat.zero_le _⟩) ?_
  refine lv_if_eq (tgt := 15) hx hb dX11_vital_5 (by decide) (fun c5 => ?_) (fun c5 => ?_)
  · replace h := k_ip c5 h
    refine lv_iconst (v := (-1)) hx hb dX11_vital_15 (by decide) ?_
    obtain rfl := k_sm h
    exact W.iret hx hb hr (fun t ht hW => ⟨rfl, ht⟩) (fun _ h => by cases h) dX11_vital_16
  · replace h := k_in c5 h
    refine lv_iload_n hx hb dX11_vital_8 rfl (lv_at hl 2 rfl) ?_
    refine rd_calli (va_runS (As := [.int x2]) (rest := []) C0.1 (kX11_isStorm l x2) (wX11_vital_X11_isStorm hts ⟨Nat.le_of_ble_eq_true rfl, Nat.le_of_ble_eq_true rfl⟩) ⟨PT.blind, fun _ _ _ => ⟨rfl, trivial⟩⟩ rfl rfl hl.1 rfl (lv_room (Nat.le_of_ble_eq_true rfl)) dX11_vital_9 ⟨Nat.zero_le _, Nat.zero_le _⟩) ?_
    refine lv_if_ne (tgt := 17) hx hb dX11_vital_12 (by decide) (fun c12 => ?_) (fun c12 => ?_)
    · replace h := k_in c12 h
      refine lv_aload_n hx hb dX11_vital_17 rfl (lv_at hl 0 rfl) ?_
      refine lv_iload_n hx hb dX11_vital_18 rfl (lv_at hl 1 rfl) ?_
      obtain ⟨v3, e4, h⟩ := k_bd h
      refine rd_calli (va_runV (As := [.int x1]) (rest := []) C0.1 (kX11_townOf l (D := D) (cI := cI) (cB := cB) (cZ := cZ) (am := am) (τ := τ) σ x1 _ e4) (wX11_vital_X11_townOf hts ⟨Nat.le_of_ble_eq_true rfl, Nat.le_of_ble_eq_true rfl⟩) ⟨PW.blind, mw_r0 hK hP, PW.mk hP hK hN⟩ rfl rfl hl.1 rfl (lv_room (Nat.le_of_ble_eq_true rfl)) dX11_vital_19 ⟨Nat.zero_le _, Nat.zero_le _⟩) ?_
      refine lv_istore_n (lv' := [(3, .int v3), (0, .ref (am 0)), (1, .int x1), (2, .int x2)]) hx hb dX11_vital_22 rfl hl (by decide) rfl (fun ls hl => ?_)
      refine lv_aload_n hx hb dX11_vital_23 rfl (lv_at hl 1 rfl) ?_
      refine lv_iload_n hx hb dX11_vital_24 rfl (lv_at hl 2 rfl) ?_
      obtain ⟨v5, e6, h⟩ := k_bd h
      refine rd_calli (va_runV (As := [.int x1]) (rest := []) C0.1 (kX11_might l (D := D) (cI := cI) (cB := cB) (cZ := cZ) (am := am) (τ := τ) σ x1 _ e6) (wX11_vital_X11_might hts ⟨Nat.le_of_ble_eq_true rfl, Nat.le_of_ble_eq_true rfl⟩) ⟨PW.blind, mw_r0 hK hP, PW.mk hP hK hN⟩ rfl rfl hl.1 rfl (lv_room (Nat.le_of_ble_eq_true rfl)) dX11_vital_25 ⟨Nat.zero_le _, Nat.zero_le _⟩) ?_
      refine lv_istore (lv' := [(4, .int v5), (3, .int v3), (0, .ref (am 0)), (1, .int x1), (2, .int x2)]) hx hb dX11_vital_28 hl (by decide) rfl (fun ls hl => ?_)
      refine lv_iconst (v := 0) hx hb dX11_vital_30 (by decide) ?_
      refine lv_istore (lv' := [(5, .int 0), (4, .int v5), (3, .int v3), (0, .ref (am 0)), (1, .int x1), (2, .int x2)]) hx hb dX11_vital_31 hl (by decide) rfl (fun ls hl => ?_)
      refine lv_iconst (v := 0) hx hb dX11_vital_33 (by decide) ?_
      refine lv_istore (lv' := [(6, .int 0), (5, .int 0), (4, .int v5), (3, .int v3), (0, .ref (am 0)), (1, .int x1), (2, .int x2)]) hx hb dX11_vital_34 hl (by decide) rfl (fun ls hl => ?_)
      obtain ⟨w21, e22, h⟩ := k_bd h
      refine bX11_vital_L36 C0 hK hN hP x2 v3 v5 2000 0 0 _ ls (lv_sub hl [4, 6, 3, 2, 1, 0] rfl) e22 (fun ls hl => ?_)
      refine lv_iload hx hb dX11_vital_120 (lv_at hl 0 rfl) ?_
      obtain rfl := k_sm h
      exact W.iret hx hb hr (fun t ht hW => ⟨rfl, ht⟩) (fun _ h => by cases h) dX11_vital_122
    · replace h := k_ip c12 h
      refine lv_iconst (v := (-1)) hx hb dX11_vital_15 (by decide) ?_
      obtain rfl := k_sm h
      exact W.iret hx hb hr (fun t ht hW => ⟨rfl, ht⟩) (fun _ h => by cases h) dX11_vital_16
set_option maxHeartbeats 4000000 in
set_option maxRecDepth 100000 in
theorem bX11_odds_L76 {p : Program} {l : Launch} {e : Env} {s : State} {m : MethodId} {args : Array Value} {below : List Frame} {meth : Method} {c : Code} {Q : State → Prop} {D : va_G} {cI cB cZ : ClassId} {am : Nat → Nat} (C0 : Cx p s m args meth c cX11_odds 11 (some .int) RX11 wsX11_odds) (hK : va_K D vwCl (tysA cI cB cZ) s) (hN : NW s) {τ : Int64} {σ : Sg} (hP : va_P D vwCl (MW cI cB cZ am τ σ) s.heap) (x2 : Int32) (x3 : Int32) (x4 : Int32) (x5 : Int32) : ∀ (n : Nat) (x6 : Int32) (x7 : Int32) (x8 : Int32) (v : (Int32 × Int32)) (ls : Array Slot), lv_has ls 11 [(2, .int x2), (3, .int x3), (4, .int x4), (5, .int x5), (6, .int x6), (7, .int x7), (8, .int x8)] → pX11_odds_L76 σ x2 x3 x4 x5 n x6 x7 x8 = some v → (∀ (ls1 : Array Slot), lv_has ls1 11 [(4, .int x4), (6, .int v.1), (7, .int v.2)] → W p l e rmX11_odds s m args below meth c s.heap [] 0 0 Q (F0 m 101 ls1 [])) → W p l e rmX11_odds s m args below meth c s.heap [] 0 0 Q (F0 m 76 ls []) := by
  obtain ⟨⟨hx, hb, hml, hown, hts⟩, hr, hlk⟩ := id C0
  intro n
  induction n with
  | zero =>
    intro x6 x7 x8 v ls hl h kk
    exact absurd h (by simp [pX11_odds_L76])
  | succ n ih =>
    intro x6 x7 x8 v ls hl h kk
    rw [pX11_odds_L76] at h
    refine lv_iload hx hb dX11_odds_76 (lv_at hl 6 rfl) ?_
    refine lv_iload_n hx hb dX11_odds_78 rfl (lv_at hl 1 rfl) ?_
    refine lv_icmp_ge (tgt := 101) hx hb dX11_odds_79 (by decide) (fun c79 => ?_) (fun c79 => ?_)
    · replace h := k_ip c79 h
      obtain rfl := k_sm h
      exact kk _ (lv_sub hl [2, 4, 5] rfl)
    · replace h := k_in c79 h
      refine lv_iload hx hb dX11_odds_82 (lv_at hl 4 rfl) ?_
      refine lv_iload hx hb dX11_odds_84 (lv_at hl 3 rfl) ?_
      refine lv_imul hx hb dX11_odds_86 ?_
      obtain ⟨v7, e8, h⟩ := k_bd h
      refine lv_nmi (k_sm e8) ?_
      refine lv_istore (lv' := [(6, .int v7), (2, .int x2), (3, .int x3), (4, .int x4), (5, .int x5), (7, .int x7), (8, .int x8)]) hx hb dX11_odds_87 hl (by decide) rfl (fun ls hl => ?_)
      refine lv_iload hx hb dX11_odds_89 (lv_at hl 5 rfl) ?_
      refine lv_iload_n hx hb dX11_odds_91 rfl (lv_at hl 1 rfl) ?_
      refine lv_imul hx hb dX11_odds_92 ?_
      obtain ⟨v9, e10, h⟩ := k_bd h
      refine lv_nmi (k_sm e10) ?_
      refine lv_istore (lv' := [(7, .int v9), (6, .int v7), (2, .int x2), (3, .int x3), (4, .int x4), (5, .int x5), (8, .int x8)]) hx hb dX11_odds_93 hl (by decide) rfl (fun ls hl => ?_)
      refine lv_iinc (v := (x8 + 1)) (lv' := [(8, .int (x8 + 1)), (7, .int v9), (6, .int v7), (2, .int x2), (3, .int x3), (4, .int x4), (5, .int x5)]) hx hb dX11_odds_95 hl (k := 6) rfl rfl (by decide) rfl (fun ls hl => ?_)
      refine lv_goto (tgt := 76) hx hb dX11_odds_98 (by decide) ?_
      exact ih v7 v9 (x8 + 1) _ ls (lv_sub hl [3, 4, 5, 6, 2, 1, 0] rfl) h kk
set_option maxHeartbeats 4000000 in
set_option maxRecDepth 100000 in
theorem bX11_odds_L109 {p : Program} {l : Launch} {e : Env} {s : State} {m : MethodId} {args : Array Value} {below : List Frame} {meth : Method} {c : Code} {Q : State → Prop} {D : va_G} {cI cB cZ : ClassId} {am : Nat → Nat} (C0 : Cx p s m args meth c cX11_odds 11 (some .int) RX11 wsX11_odds) (hK : va_K D vwCl (tysA cI cB cZ) s) (hN : NW s) {τ : Int64} {σ : Sg} (hP : va_P D vwCl (MW cI cB cZ am τ σ) s.heap) (x4 : Int32) (x6 : Int32) (x7 : Int32) : ∀ (n : Nat) (x8 : Int32) (x9 : Int32) (v : Int32) (ls : Array Slot), lv_has ls 11 [(4, .int x4), (6, .int x6), (7, .int x7), (8, .int x8), (9, .int x9)] → pX11_odds_L109 σ x4 x6 x7 n x8 x9 = some v → (∀ (ls1 : Array Slot), lv_has ls1 11 [(4, .int x4), (6, .int x6), (7, .int x7), (8, .int v)] → W p l e rmX11_odds s m args below meth c s.heap [] 0 0 Q (F0 m 132 ls1 [])) → W p l e rmX11_odds s m args below meth c s.heap [] 0 0 Q (F0 m 109 ls []) := by
  obtain ⟨⟨hx, hb, hml, hown, hts⟩, hr, hlk⟩ := id C0
  intro n
  induction n with
  | zero =>
    intro x8 x9 v ls hl h kk
    exact absurd h (by simp [pX11_odds_L109])
  | succ n ih =>
    intro x8 x9 v ls hl h kk
    rw [pX11_odds_L109] at h
    refine lv_iload hx hb dX11_odds_109 (lv_at hl 4 rfl) ?_
    refine lv_if_eq (tgt := 132) hx hb dX11_odds_111 (by decide) (fun c111 => ?_) (fun c111 => ?_)
    · replace h := k_ip c111 h
      obtain rfl := k_sm h
      exact kk _ (lv_sub hl [0, 1, 2, 3] rfl)
    · replace h := k_in c111 h
      refine lv_iload hx hb dX11_odds_114 (lv_at hl 3 rfl) ?_
      refine lv_iload hx hb dX11_odds_116 (lv_at hl 4 rfl) ?_
      obtain ⟨v13, e14, h⟩ := k_bd h
      refine lv_irem hx hb dX11_odds_118 (k_rm e14).1 ?_
      refine lv_nmi (k_rm e14).2 ?_
      refine lv_istore (lv' := [(10, .int v13), (4, .int x4), (6, .int x6), (7, .int x7), (8, .int x8), (9, .int x9)]) hx hb dX11_odds_119 hl (by decide) rfl (fun ls hl => ?_)
      refine lv_iload hx hb dX11_odds_121 (lv_at hl 5 rfl) ?_
      refine lv_istore (lv' := [(8, .int x9), (10, .int v13), (4, .int x4), (6, .int x6), (7, .int x7), (9, .int x9)]) hx hb dX11_odds_123 hl (by decide) rfl (fun ls hl => ?_)
      refine lv_iload hx hb dX11_odds_125 (lv_at hl 1 rfl) ?_
      refine lv_istore (lv' := [(9, .int v13), (8, .int x9), (10, .int v13), (4, .int x4), (6, .int x6), (7, .int x7)]) hx hb dX11_odds_127 hl (by decide) rfl (fun ls hl => ?_)
      refine lv_goto (tgt := 109) hx hb dX11_odds_129 (by decide) ?_
      exact ih x9 v13 _ ls (lv_sub hl [3, 4, 5, 1, 0] rfl) h kk
set_option maxHeartbeats 4000000 in
set_option maxRecDepth 100000 in
theorem kX11_odds (l : Launch) {D : va_G} {cI cB cZ : ClassId} {am : Nat → Nat} {τ : Int64} (σ : Sg) (x1 : Int32) (x2 : Int32) (x3 : Int32) (x4 : Int32) (o : Int32) (h : pX11_odds σ x1 x2 x3 x4 = some o) : Met l yX11_odds wsX11_odds rmX11_odds (va_Pc [.ref (am 0), .int x1, .int x2, .int x3, .int x4] (PW D cI cB cZ (MW cI cB cZ am τ σ))) (QcRead o) 0 0 (fun _ => False) := by
  refine Met.ofW (cc := cX11_odds) (maxL := 11) (ret := (some .int)) (by decide) rfl ?_
  intro p e s m args below meth c s₁ B hml hv
  obtain ⟨rfl, hP, hK, hN⟩ := hv
  have C0 : Cx p s m _ meth c cX11_odds 11 (some .int) RX11 wsX11_odds := ⟨⟨B.exec, B.bytes, hml, findClass_of_methodNamed B.named, atoms_spec B.pre⟩, B.returns, B.notSynchronized⟩
  obtain ⟨⟨hx, hb, -, hown, hts⟩, hr, hlk⟩ := id C0
  have hl := lv_entry ([.ref (am 0), .int x1, .int x2, .int x3, .int x4]) (n := 11) (Nat.le_of_ble_eq_true rfl)
  rw [lg_entry_eq]
  generalize (lg_sl ([.ref (am 0), .int x1, .int x2, .int x3, .int x4]) ++ List.replicate (11 - (lg_sl ([.ref (am 0), .int x1, .int x2, .int x3, .int x4])).length) Slot.unset).toArray = ls at hl ⊢
  have hl : lv_has ls 11 [(0, .ref (am 0)), (1, .int x1), (2, .int x2), (3, .int x3), (4, .int x4)] := hl
  rw [pX11_odds] at h
  refine lv_aload_n hx hb dX11_odds_0 rfl (lv_at hl 0 rfl) ?_
  refine lv_iload_n hx hb dX11_odds_1 rfl (lv_at hl 1 rfl) ?_
  obtain ⟨v1, e2, h⟩ := k_bd h
  refine rd_calli (va_runV (As := [.int x1]) (rest := []) C0.1 (kX11_isAnchor l (D := D) (cI := cI) (cB := cB) (cZ := cZ) (am := am) (τ := τ) σ x1 _ e2) (wX11_odds_X11_isAnchor hts ⟨Nat.le_of_ble_eq_true rfl, Nat.le_of_ble_eq_true rfl⟩) ⟨PW.blind, mw_r0 hK hP, PW.mk hP hK hN⟩ rfl rfl hl.1 rfl (lv_room (Nat.le_of_ble_eq_true rfl)) dX11_odds_2 ⟨Nat.zero_le _, Nat.zero_le _⟩) ?_
  refine lv_if_eq (tgt := 34) hx hb dX11_odds_5 (by decide) (fun c5 => ?_) (fun c5 => ?_)
  · replace h := k_ip c5 h
    refine lv_iconst (v := (-1)) hx hb dX11_odds_34 (by decide) ?_
    obtain rfl := k_sm h
    exact W.iret hx hb hr (fun t ht hW => ⟨rfl, ht⟩) (fun _ h => by cases h) dX11_odds_35
  · replace h := k_in c5 h
    refine lv_iload_n hx hb dX11_odds_8 rfl (lv_at hl 2 rfl) ?_
    refine rd_calli (va_runS (As := [.int x2]) (rest := []) C0.1 (kX11_isStorm l x2) (wX11_odds_X11_isStorm hts ⟨Nat.le_of_ble_eq_true rfl, Nat.le_of_ble_eq_true rfl⟩) ⟨PT.blind, fun _ _ _ => ⟨rfl, trivial⟩⟩ rfl rfl hl.1 rfl (lv_room (Nat.le_of_ble_eq_true rfl)) dX11_odds_9 ⟨Nat.zero_le _, Nat.zero_le _⟩) ?_
    refine lv_if_eq (tgt := 34) hx hb dX11_odds_12 (by decide) (fun c12 => ?_) (fun c12 => ?_)
    · replace h := k_ip c12 h
      refine lv_iconst (v := (-1)) hx hb dX11_odds_34 (by decide) ?_
      obtain rfl := k_sm h
      exact W.iret hx hb hr (fun t ht hW => ⟨rfl, ht⟩) (fun _ h => by cases h) dX11_odds_35
    · replace h := k_in c12 h
      refine lv_iload_n hx hb dX11_odds_15 rfl (lv_at hl 3 rfl) ?_
      refine lv_iconst (v := 0) hx hb dX11_odds_16 (by decide) ?_
      refine lv_iconst (v := 4) hx hb dX11_odds_17 (by decide) ?_
      refine rd_calli (va_runS (As := [.int x3, .int 0, .int 4]) (rest := []) C0.1 (kX11_in l x3 0 4) (wX11_odds_X11_in hts ⟨Nat.le_of_ble_eq_true rfl, Nat.le_of_ble_eq_true rfl⟩) ⟨PT.blind, fun _ _ _ => ⟨rfl, trivial⟩⟩ rfl rfl hl.1 rfl (lv_room (Nat.le_of_ble_eq_true rfl)) dX11_odds_18 ⟨Nat.zero_le _, Nat.zero_le _⟩) ?_
      refine lv_if_eq (tgt := 34) hx hb dX11_odds_21 (by decide) (fun c21 => ?_) (fun c21 => ?_)
      · replace h := k_ip c21 h
        refine lv_iconst (v := (-1)) hx hb dX11_odds_34 (by decide) ?_
        obtain rfl := k_sm h
        exact W.iret hx hb hr (fun t ht hW => ⟨rfl, ht⟩) (fun _ h => by cases h) dX11_odds_35
      · replace h := k_in c21 h
        refine lv_iload hx hb dX11_odds_24 (lv_at hl 4 rfl) ?_
        refine lv_iconst (v := 0) hx hb dX11_odds_26 (by decide) ?_
        refine lv_iconst (v := 1) hx hb dX11_odds_27 (by decide) ?_
        refine rd_calli (va_runS (As := [.int x4, .int 0, .int 1]) (rest := []) C0.1 (kX11_in l x4 0 1) (wX11_odds_X11_in hts ⟨Nat.le_of_ble_eq_true rfl, Nat.le_of_ble_eq_true rfl⟩) ⟨PT.blind, fun _ _ _ => ⟨rfl, trivial⟩⟩ rfl rfl hl.1 rfl (lv_room (Nat.le_of_ble_eq_true rfl)) dX11_odds_28 ⟨Nat.zero_le _, Nat.zero_le _⟩) ?_
        refine lv_if_ne (tgt := 36) hx hb dX11_odds_31 (by decide) (fun c31 => ?_) (fun c31 => ?_)
        · replace h := k_in c31 h
          refine lv_aload_n hx hb dX11_odds_36 rfl (lv_at hl 0 rfl) ?_
          refine lv_iload_n hx hb dX11_odds_37 rfl (lv_at hl 1 rfl) ?_
          obtain ⟨v3, e4, h⟩ := k_bd h
          refine rd_calli (va_runV (As := [.int x1]) (rest := []) C0.1 (kX11_isLying l (D := D) (cI := cI) (cB := cB) (cZ := cZ) (am := am) (τ := τ) σ x1 _ e4) (wX11_odds_X11_isLying hts ⟨Nat.le_of_ble_eq_true rfl, Nat.le_of_ble_eq_true rfl⟩) ⟨PW.blind, mw_r0 hK hP, PW.mk hP hK hN⟩ rfl rfl hl.1 rfl (lv_room (Nat.le_of_ble_eq_true rfl)) dX11_odds_38 ⟨Nat.zero_le _, Nat.zero_le _⟩) ?_
          refine lv_if_ne (tgt := 47) hx hb dX11_odds_41 (by decide) (fun c41 => ?_) (fun c41 => ?_)
          · replace h := k_in c41 h
            refine lv_aload_n hx hb dX11_odds_47 rfl (lv_at hl 0 rfl) ?_
            refine lv_iload_n hx hb dX11_odds_48 rfl (lv_at hl 1 rfl) ?_
            obtain ⟨v5, e6, h⟩ := k_bd h
            refine rd_calli (va_runV (As := [.int x1]) (rest := []) C0.1 (kX11_hold l (D := D) (cI := cI) (cB := cB) (cZ := cZ) (am := am) (τ := τ) σ x1 _ e6) (wX11_odds_X11_hold hts ⟨Nat.le_of_ble_eq_true rfl, Nat.le_of_ble_eq_true rfl⟩) ⟨PW.blind, mw_r0 hK hP, PW.mk hP hK hN⟩ rfl rfl hl.1 rfl (lv_room (Nat.le_of_ble_eq_true rfl)) dX11_odds_49 ⟨Nat.zero_le _, Nat.zero_le _⟩) ?_
            refine lv_iload_n hx hb dX11_odds_52 rfl (lv_at hl 2 rfl) ?_
            refine lv_icmp_ge (tgt := 64) hx hb dX11_odds_53 (by decide) (fun c53 => ?_) (fun c53 => ?_)
            · replace h := k_ip c53 h
              refine lv_iload_n hx hb dX11_odds_64 rfl (lv_at hl 2 rfl) ?_
              refine lv_istore (lv' := [(5, .int x2), (0, .ref (am 0)), (1, .int x1), (2, .int x2), (3, .int x3), (4, .int x4)]) hx hb dX11_odds_65 hl (by decide) rfl (fun ls hl => ?_)
              refine lv_iconst (v := 1) hx hb dX11_odds_67 (by decide) ?_
              refine lv_istore (lv' := [(6, .int 1), (5, .int x2), (0, .ref (am 0)), (1, .int x1), (2, .int x2), (3, .int x3), (4, .int x4)]) hx hb dX11_odds_68 hl (by decide) rfl (fun ls hl => ?_)
              refine lv_iconst (v := 1) hx hb dX11_odds_70 (by decide) ?_
              refine lv_istore (lv' := [(7, .int 1), (6, .int 1), (5, .int x2), (0, .ref (am 0)), (1, .int x1), (2, .int x2), (3, .int x3), (4, .int x4)]) hx hb dX11_odds_71 hl (by decide) rfl (fun ls hl => ?_)
              refine lv_iconst (v := 0) hx hb dX11_odds_73 (by decide) ?_
              refine lv_istore (lv' := [(8, .int 0), (7, .int 1), (6, .int 1), (5, .int x2), (0, .ref (am 0)), (1, .int x1), (2, .int x2), (3, .int x3), (4, .int x4)]) hx hb dX11_odds_74 hl (by decide) rfl (fun ls hl => ?_)
              obtain ⟨w11, e12, h⟩ := k_bd h
              refine bX11_odds_L76 C0 hK hN hP x2 x3 x4 x2 2000 1 1 0 _ ls (lv_sub hl [6, 7, 8, 3, 2, 1, 0] rfl) e12 (fun ls hl => ?_)
              refine lv_iload hx hb dX11_odds_101 (lv_at hl 1 rfl) ?_
              refine lv_istore (lv' := [(8, .int w11.1), (4, .int x4), (6, .int w11.1), (7, .int w11.2)]) hx hb dX11_odds_103 hl (by decide) rfl (fun ls hl => ?_)
              refine lv_iload hx hb dX11_odds_105 (lv_at hl 3 rfl) ?_
              refine lv_istore (lv' := [(9, .int w11.2), (8, .int w11.1), (4, .int x4), (6, .int w11.1), (7, .int w11.2)]) hx hb dX11_odds_107 hl (by decide) rfl (fun ls hl => ?_)
              obtain ⟨w15, e16, h⟩ := k_bd h
              refine bX11_odds_L109 C0 hK hN hP x4 w11.1 w11.2 2000 w11.1 w11.2 _ ls (lv_sub hl [2, 3, 4, 1, 0] rfl) e16 (fun ls hl => ?_)
              refine lv_iload hx hb dX11_odds_132 (lv_at hl 0 rfl) ?_
              refine lv_if_ne (tgt := 145) hx hb dX11_odds_134 (by decide) (fun c134 => ?_) (fun c134 => ?_)
              · replace h := k_in c134 h
                refine lv_iload hx hb dX11_odds_145 (lv_at hl 2 rfl) ?_
                refine lv_iload hx hb dX11_odds_147 (lv_at hl 3 rfl) ?_
                obtain ⟨v17, e18, h⟩ := k_bd h
                refine lv_idiv hx hb dX11_odds_149 (k_dv e18).1 ?_
                refine lv_nmi (k_dv e18).2 ?_
                obtain rfl := k_sm h
                exact W.iret hx hb hr (fun t ht hW => ⟨rfl, ht⟩) (fun _ h => by cases h) dX11_odds_150
              · replace h := k_ip c134 h
                refine lv_iload hx hb dX11_odds_137 (lv_at hl 1 rfl) ?_
                refine lv_iload hx hb dX11_odds_139 (lv_at hl 3 rfl) ?_
                obtain ⟨v19, e20, h⟩ := k_bd h
                refine lv_idiv hx hb dX11_odds_141 (k_dv e20).1 ?_
                refine lv_nmi (k_dv e20).2 ?_
                refine lv_goto (tgt := 150) hx hb dX11_odds_142 (by decide) ?_
                obtain rfl := k_sm h
                exact W.iret hx hb hr (fun t ht hW => ⟨rfl, ht⟩) (fun _ h => by cases h) dX11_odds_150
            · replace h := k_in c53 h
              refine lv_aload_n hx hb dX11_odds_56 rfl (lv_at hl 0 rfl) ?_
              refine lv_iload_n hx hb dX11_odds_57 rfl (lv_at hl 1 rfl) ?_
              obtain ⟨v21, e22, h⟩ := k_bd h
              refine rd_calli (va_runV (As := [.int x1]) (rest := []) C0.1 (kX11_hold l (D := D) (cI := cI) (cB := cB) (cZ := cZ) (am := am) (τ := τ) σ x1 _ e22) (wX11_odds_X11_hold hts ⟨Nat.le_of_ble_eq_true rfl, Nat.le_of_ble_eq_true rfl⟩) ⟨PW.blind, mw_r0 hK hP, PW.mk hP hK hN⟩ rfl rfl hl.1 rfl (lv_room (Nat.le_of_ble_eq_true rfl)) dX11_odds_58 ⟨Nat.zero_le _, Nat.zero_le _⟩) ?_
              refine lv_goto (tgt := 65) hx hb dX11_odds_61 (by decide) ?_
              refine lv_istore (lv' := [(5, .int v21), (0, .ref (am 0)), (1, .int x1), (2, .int x2), (3, .int x3), (4, .int x4)]) hx hb dX11_odds_65 hl (by decide) rfl (fun ls hl => ?_)
              refine lv_iconst (v := 1) hx hb dX11_odds_67 (by decide) ?_
              refine lv_istore (lv' := [(6, .int 1), (5, .int v21), (0, .ref (am 0)), (1, .int x1), (2, .int x2), (3, .int x3), (4, .int x4)]) hx hb dX11_odds_68 hl (by decide) rfl (fun ls hl => ?_)
              refine lv_iconst (v := 1) hx hb dX11_odds_70 (by decide) ?_
              refine lv_istore (lv' := [(7, .int 1), (6, .int 1), (5, .int v21), (0, .ref (am 0)), (1, .int x1), (2, .int x2), (3, .int x3), (4, .int x4)]) hx hb dX11_odds_71 hl (by decide) rfl (fun ls hl => ?_)
              refine lv_iconst (v := 0) hx hb dX11_odds_73 (by decide) ?_
              refine lv_istore (lv' := [(8, .int 0), (7, .int 1), (6, .int 1), (5, .int v21), (0, .ref (am 0)), (1, .int x1), (2, .int x2), (3, .int x3), (4, .int x4)]) hx hb dX11_odds_74 hl (by decide) rfl (fun ls hl => ?_)
              obtain ⟨w23, e24, h⟩ := k_bd h
              refine bX11_odds_L76 C0 hK hN hP x2 x3 x4 v21 2000 1 1 0 _ ls (lv_sub hl [6, 7, 8, 3, 2, 1, 0] rfl) e24 (fun ls hl => ?_)
              refine lv_iload hx hb dX11_odds_101 (lv_at hl 1 rfl) ?_
              refine lv_istore (lv' := [(8, .int w23.1), (4, .int x4), (6, .int w23.1), (7, .int w23.2)]) hx hb dX11_odds_103 hl (by decide) rfl (fun ls hl => ?_)
              refine lv_iload hx hb dX11_odds_105 (lv_at hl 3 rfl) ?_
              refine lv_istore (lv' := [(9, .int w23.2), (8, .int w23.1), (4, .int x4), (6, .int w23.1), (7, .int w23.2)]) hx hb dX11_odds_107 hl (by decide) rfl (fun ls hl => ?_)
              obtain ⟨w25, e26, h⟩ := k_bd h
              refine bX11_odds_L109 C0 hK hN hP x4 w23.1 w23.2 2000 w23.1 w23.2 _ ls (lv_sub hl [2, 3, 4, 1, 0] rfl) e26 (fun ls hl => ?_)
              refine lv_iload hx hb dX11_odds_132 (lv_at hl 0 rfl) ?_
              refine lv_if_ne (tgt := 145) hx hb dX11_odds_134 (by decide) (fun c134 => ?_) (fun c134 => ?_)
              · replace h := k_in c134 h
                refine lv_iload hx hb dX11_odds_145 (lv_at hl 2 rfl) ?_
                refine lv_iload hx hb dX11_odds_147 (lv_at hl 3 rfl) ?_
                obtain ⟨v27, e28, h⟩ := k_bd h
                refine lv_idiv hx hb dX11_odds_149 (k_dv e28).1 ?_
                refine lv_nmi (k_dv e28).2 ?_
                obtain rfl := k_sm h
                exact W.iret hx hb hr (fun t ht hW => ⟨rfl, ht⟩) (fun _ h => by cases h) dX11_odds_150
              · replace h := k_ip c134 h
                refine lv_iload hx hb dX11_odds_137 (lv_at hl 1 rfl) ?_
                refine lv_iload hx hb dX11_odds_139 (lv_at hl 3 rfl) ?_
                obtain ⟨v29, e30, h⟩ := k_bd h
                refine lv_idiv hx hb dX11_odds_141 (k_dv e30).1 ?_
                refine lv_nmi (k_dv e30).2 ?_
                refine lv_goto (tgt := 150) hx hb dX11_odds_142 (by decide) ?_
                obtain rfl := k_sm h
                exact W.iret hx hb hr (fun t ht hW => ⟨rfl, ht⟩) (fun _ h => by cases h) dX11_odds_150
          · replace h := k_ip c41 h
            refine lv_bipush (v := (-2)) hx hb dX11_odds_44 (by decide) ?_
            obtain rfl := k_sm h
            exact W.iret hx hb hr (fun t ht hW => ⟨rfl, ht⟩) (fun _ h => by cases h) dX11_odds_46
        · replace h := k_ip c31 h
          refine lv_iconst (v := (-1)) hx hb dX11_odds_34 (by decide) ?_
          obtain rfl := k_sm h
          exact W.iret hx hb hr (fun t ht hW => ⟨rfl, ht⟩) (fun _ h => by cases h) dX11_odds_35
set_option maxHeartbeats 4000000 in
set_option maxRecDepth 100000 in
theorem kX11_hears (l : Launch) {D : va_G} {cI cB cZ : ClassId} {am : Nat → Nat} {τ : Int64} (hap : mwX am) (σ : Sg) (x1 : Int32) (x2 : Int32) (o : (Int32 × Sg)) (h : pX11_hears σ x1 x2 = some o) : Met l yX11_hears wsX11_hears rmX11_hears (va_Pc [.ref (am 0), .int x1, .int x2] (PW D cI cB cZ (MW cI cB cZ am τ σ))) (QI D (MW cI cB cZ am τ) (mwA am) o.1 o.2) 0 0 (mwA am) := by
  refine Met.ofW (cc := cX11_hears) (maxL := 3) (ret := (some .int)) (by decide) rfl ?_
  intro p e s m args below meth c s₁ B hml hv
  obtain ⟨rfl, hP, hK, hN⟩ := hv
  have C0 : Cx p s m _ meth c cX11_hears 3 (some .int) RX11 wsX11_hears := ⟨⟨B.exec, B.bytes, hml, findClass_of_methodNamed B.named, atoms_spec B.pre⟩, B.returns, B.notSynchronized⟩
  obtain ⟨⟨hx, hb, -, hown, hts⟩, hr, hlk⟩ := id C0
  have hS : va_S (mwA am) s.heap s.heap [] := va_S.rf
  have hl := lv_entry ([.ref (am 0), .int x1, .int x2]) (n := 3) (Nat.le_of_ble_eq_true rfl)
  rw [lg_entry_eq]
  generalize (lg_sl ([.ref (am 0), .int x1, .int x2]) ++ List.replicate (3 - (lg_sl ([.ref (am 0), .int x1, .int x2])).length) Slot.unset).toArray = ls at hl ⊢
  have hl : lv_has ls 3 [(0, .ref (am 0)), (1, .int x1), (2, .int x2)] := hl
  rw [pX11_hears] at h
  refine lv_iload_n hx hb dX11_hears_0 rfl (lv_at hl 1 rfl) ?_
  refine rd_calli (va_runS (As := [.int x1]) (rest := []) C0.1 (kX11_isStorm l x1) (wX11_hears_X11_isStorm hts ⟨Nat.le_of_ble_eq_true rfl, Nat.le_of_ble_eq_true rfl⟩) ⟨PT.blind, fun _ _ _ => ⟨rfl, trivial⟩⟩ rfl rfl hl.1 rfl (lv_room (Nat.le_of_ble_eq_true rfl)) dX11_hears_1 ⟨Nat.zero_le _, Nat.zero_le _⟩) ?_
  refine lv_if_eq (tgt := 16) hx hb dX11_hears_4 (by decide) (fun c4 => ?_) (fun c4 => ?_)
  · replace h := k_ip c4 h
    refine lv_iconst (v := (-1)) hx hb dX11_hears_16 (by decide) ?_
    obtain rfl := k_sm h
    exact W.iret hx hb hr (fun t ht hW => ⟨⟨_, _, rfl, ⟨rfl, rfl⟩, pw_end ht hP⟩, hS.F ht⟩) hS.2.2 dX11_hears_17
  · replace h := k_in c4 h
    refine lv_iload_n hx hb dX11_hears_7 rfl (lv_at hl 2 rfl) ?_
    refine lv_iconst (v := 0) hx hb dX11_hears_8 (by decide) ?_
    refine lv_iconst (v := 1) hx hb dX11_hears_9 (by decide) ?_
    refine rd_calli (va_runS (As := [.int x2, .int 0, .int 1]) (rest := []) C0.1 (kX11_in l x2 0 1) (wX11_hears_X11_in hts ⟨Nat.le_of_ble_eq_true rfl, Nat.le_of_ble_eq_true rfl⟩) ⟨PT.blind, fun _ _ _ => ⟨rfl, trivial⟩⟩ rfl rfl hl.1 rfl (lv_room (Nat.le_of_ble_eq_true rfl)) dX11_hears_10 ⟨Nat.zero_le _, Nat.zero_le _⟩) ?_
    refine lv_if_ne (tgt := 18) hx hb dX11_hears_13 (by decide) (fun c13 => ?_) (fun c13 => ?_)
    · replace h := k_in c13 h
      refine lv_aload_n hx hb dX11_hears_18 rfl (lv_at hl 0 rfl) ?_
      refine va_get (D := D) (ci := 11) (v := .int (σ 0 28)) (C := RX11) (T := TX11) (N := 30) hx hb hts iX11_hears_X11 hown hK hP 0 mw_0 rfl 28 (by decide) (hts (.fieldLink RX11 131 RX11 "heard" "I") (by decide +kernel)) (fun _ h9 => h9) rfl dX11_hears_19 ?_
      refine lv_bipush (v := 6) hx hb dX11_hears_22 (by decide) ?_
      refine lv_icmp_ne (tgt := 30) hx hb dX11_hears_24 (by decide) (fun c24 => ?_) (fun c24 => ?_)
      · replace h := k_in c24 h
        refine lv_aload_n hx hb dX11_hears_30 rfl (lv_at hl 0 rfl) ?_
        refine va_get (D := D) (ci := 11) (v := .ref (am 20)) (C := RX11) (T := TX11) (N := 30) hx hb hts iX11_hears_X11 hown hK hP 0 mw_0 rfl 26 (by decide) (hts (.fieldLink RX11 69 RX11 "earStorm" "[I") (by decide +kernel)) (fun _ h9 => h9) rfl dX11_hears_31 ?_
        refine lv_aload_n hx hb dX11_hears_34 rfl (lv_at hl 0 rfl) ?_
        refine va_get (D := D) (ci := 11) (v := .int (σ 0 28)) (C := RX11) (T := TX11) (N := 30) hx hb hts iX11_hears_X11 hown hK hP 0 mw_0 rfl 28 (by decide) (hts (.fieldLink RX11 131 RX11 "heard" "I") (by decide +kernel)) (fun _ h9 => h9) rfl dX11_hears_35 ?_
        refine lv_iload_n hx hb dX11_hears_38 rfl (lv_at hl 1 rfl) ?_
        obtain ⟨σ1, e2, h⟩ := k_bd h
        refine va_iast hx hb hK hP (mw_D hap) hS 20 0 mw_20 rfl (k_wr e2).1 dX11_hears_39 (fun H locs hP _ hS => ?_)
        have hP := mw_s20 hP
        rw [(k_wr e2).2] at hP
        refine lv_aload_n hx hb dX11_hears_40 rfl (lv_at hl 0 rfl) ?_
        refine va_get (D := D) (ci := 11) (v := .ref (am 21)) (C := RX11) (T := TX11) (N := 30) hx hb hts iX11_hears_X11 hown hK hP 0 mw_0 rfl 27 (by decide) (hts (.fieldLink RX11 72 RX11 "earHeld" "[I") (by decide +kernel)) (fun _ h9 => h9) rfl dX11_hears_41 ?_
        refine lv_aload_n hx hb dX11_hears_44 rfl (lv_at hl 0 rfl) ?_
        refine va_get (D := D) (ci := 11) (v := .int (σ1 0 28)) (C := RX11) (T := TX11) (N := 30) hx hb hts iX11_hears_X11 hown hK hP 0 mw_0 rfl 28 (by decide) (hts (.fieldLink RX11 131 RX11 "heard" "I") (by decide +kernel)) (fun _ h9 => h9) rfl dX11_hears_45 ?_
        refine lv_iload_n hx hb dX11_hears_48 rfl (lv_at hl 2 rfl) ?_
        obtain ⟨σ3, e4, h⟩ := k_bd h
        refine va_iast hx hb hK hP (mw_D hap) hS 21 0 mw_21 rfl (k_wr e4).1 dX11_hears_49 (fun H locs hP _ hS => ?_)
        have hP := mw_s21 hP
        rw [(k_wr e4).2] at hP
        refine lv_aload_n hx hb dX11_hears_50 rfl (lv_at hl 0 rfl) ?_
        refine lv_dup hx hb dX11_hears_51 rfl ?_
        refine va_get (D := D) (ci := 11) (v := .int (σ3 0 28)) (C := RX11) (T := TX11) (N := 30) hx hb hts iX11_hears_X11 hown hK hP 0 mw_0 rfl 28 (by decide) (hts (.fieldLink RX11 131 RX11 "heard" "I") (by decide +kernel)) (fun _ h9 => h9) rfl dX11_hears_52 ?_
        refine lv_iconst (v := 1) hx hb dX11_hears_55 (by decide) ?_
        refine lv_iadd hx hb dX11_hears_56 ?_
        refine va_put (D := D) (ci := 11) (v := .int ((σ3 0 28) + 1)) (ty := .int) (C := RX11) (T := TX11) (N := 30) hx hb hts iX11_hears_X11 tyX11 tyX11_ok nmX11 hown hK hP (mw_D hap) hS 0 mw_0 rfl 28 (by decide) (hts (.fieldLink RX11 131 RX11 "heard" "I") (by decide +kernel)) (fun _ h9 => h9) rfl (by decide +kernel) rfl rfl (Nat.le_of_ble_eq_true rfl) dX11_hears_57 (fun H locs hP _ hS => ?_)
        have hP := mw_s0_28 hP
        obtain ⟨σ5, e6, h⟩ := k_bd h
        rw [k_sm e6] at hP
        refine lv_aload_n hx hb dX11_hears_60 rfl (lv_at hl 0 rfl) ?_
        refine va_get (D := D) (ci := 11) (v := .int (σ5 0 28)) (C := RX11) (T := TX11) (N := 30) hx hb hts iX11_hears_X11 hown hK hP 0 mw_0 rfl 28 (by decide) (hts (.fieldLink RX11 131 RX11 "heard" "I") (by decide +kernel)) (fun _ h9 => h9) rfl dX11_hears_61 ?_
        obtain rfl := k_sm h
        exact W.iret hx hb hr (fun t ht hW => ⟨⟨_, _, rfl, ⟨rfl, rfl⟩, pw_end ht hP⟩, hS.F ht⟩) hS.2.2 dX11_hears_64
      · replace h := k_ip c24 h
        refine lv_bipush (v := (-3)) hx hb dX11_hears_27 (by decide) ?_
        obtain rfl := k_sm h
        exact W.iret hx hb hr (fun t ht hW => ⟨⟨_, _, rfl, ⟨rfl, rfl⟩, pw_end ht hP⟩, hS.F ht⟩) hS.2.2 dX11_hears_29
    · replace h := k_ip c13 h
      refine lv_iconst (v := (-1)) hx hb dX11_hears_16 (by decide) ?_
      obtain rfl := k_sm h
      exact W.iret hx hb hr (fun t ht hW => ⟨⟨_, _, rfl, ⟨rfl, rfl⟩, pw_end ht hP⟩, hS.F ht⟩) hS.2.2 dX11_hears_17
set_option maxHeartbeats 4000000 in
set_option maxRecDepth 100000 in
theorem kX11_forget (l : Launch) {D : va_G} {cI cB cZ : ClassId} {am : Nat → Nat} {τ : Int64} (hap : mwX am) (σ : Sg) (o : (Int32 × Sg)) (h : pX11_forget σ = some o) : Met l yX11_forget wsX11_forget rmX11_forget (va_Pc [.ref (am 0)] (PW D cI cB cZ (MW cI cB cZ am τ σ))) (QI D (MW cI cB cZ am τ) (mwA am) o.1 o.2) 0 0 (mwA am) := by
  refine Met.ofW (cc := cX11_forget) (maxL := 2) (ret := (some .int)) (by decide) rfl ?_
  intro p e s m args below meth c s₁ B hml hv
  obtain ⟨rfl, hP, hK, hN⟩ := hv
  have C0 : Cx p s m _ meth c cX11_forget 2 (some .int) RX11 wsX11_forget := ⟨⟨B.exec, B.bytes, hml, findClass_of_methodNamed B.named, atoms_spec B.pre⟩, B.returns, B.notSynchronized⟩
  obtain ⟨⟨hx, hb, -, hown, hts⟩, hr, hlk⟩ := id C0
  have hS : va_S (mwA am) s.heap s.heap [] := va_S.rf
  have hl := lv_entry ([.ref (am 0)]) (n := 2) (Nat.le_of_ble_eq_true rfl)
  rw [lg_entry_eq]
  generalize (lg_sl ([.ref (am 0)]) ++ List.replicate (2 - (lg_sl ([.ref (am 0)])).length) Slot.unset).toArray = ls at hl ⊢
  have hl : lv_has ls 2 [(0, .ref (am 0))] := hl
  rw [pX11_forget] at h
  refine lv_aload_n hx hb dX11_forget_0 rfl (lv_at hl 0 rfl) ?_
  refine va_get (D := D) (ci := 11) (v := .int (σ 0 28)) (C := RX11) (T := TX11) (N := 30) hx hb hts iX11_forget_X11 hown hK hP 0 mw_0 rfl 28 (by decide) (hts (.fieldLink RX11 131 RX11 "heard" "I") (by decide +kernel)) (fun _ h9 => h9) rfl dX11_forget_1 ?_
  obtain ⟨v1, e2, h⟩ := k_bd h
  refine lv_nmi (k_sm e2) ?_
  refine lv_istore_n (lv' := [(1, .int v1), (0, .ref (am 0))]) hx hb dX11_forget_4 rfl hl (by decide) rfl (fun ls hl => ?_)
  refine lv_aload_n hx hb dX11_forget_5 rfl (lv_at hl 1 rfl) ?_
  refine lv_iconst (v := 0) hx hb dX11_forget_6 (by decide) ?_
  refine va_put (D := D) (ci := 11) (v := .int 0) (ty := .int) (C := RX11) (T := TX11) (N := 30) hx hb hts iX11_forget_X11 tyX11 tyX11_ok nmX11 hown hK hP (mw_D hap) hS 0 mw_0 rfl 28 (by decide) (hts (.fieldLink RX11 131 RX11 "heard" "I") (by decide +kernel)) (fun _ h9 => h9) rfl (by decide +kernel) rfl rfl (Nat.le_of_ble_eq_true rfl) dX11_forget_7 (fun H locs hP _ hS => ?_)
  have hP := mw_s0_28 hP
  obtain ⟨σ3, e4, h⟩ := k_bd h
  rw [k_sm e4] at hP
  refine lv_iload_n hx hb dX11_forget_10 rfl (lv_at hl 0 rfl) ?_
  obtain rfl := k_sm h
  exact W.iret hx hb hr (fun t ht hW => ⟨⟨_, _, rfl, ⟨rfl, rfl⟩, pw_end ht hP⟩, hS.F ht⟩) hS.2.2 dX11_forget_11
set_option maxHeartbeats 4000000 in
set_option maxRecDepth 100000 in
theorem bX11_fits_L23 {p : Program} {l : Launch} {e : Env} {s : State} {m : MethodId} {args : Array Value} {below : List Frame} {meth : Method} {c : Code} {Q : State → Prop} {D : va_G} {cI cB cZ : ClassId} {am : Nat → Nat} (C0 : Cx p s m args meth c cX11_fits 5 (some .int) RX11 wsX11_fits) (hK : va_K D vwCl (tysA cI cB cZ) s) (hN : NW s) {τ : Int64} {σ : Sg} (hP : va_P D vwCl (MW cI cB cZ am τ σ) s.heap) (x1 : Int32) (x2 : Int32) : ∀ (n : Nat) (x3 : Int32) (x4 : Int32) (v : Int32) (ls : Array Slot), lv_has ls 5 [(0, .ref (am 0)), (1, .int x1), (2, .int x2), (3, .int x3), (4, .int x4)] → pX11_fits_L23 σ x1 x2 n x3 x4 = some v → (∀ (ls1 : Array Slot), lv_has ls1 5 [(0, .ref (am 0)), (1, .int x1), (2, .int x2), (3, .int v)] → W p l e rmX11_fits s m args below meth c s.heap [] 0 0 Q (F0 m 87 ls1 [])) → W p l e rmX11_fits s m args below meth c s.heap [] 0 0 Q (F0 m 23 ls []) := by
  obtain ⟨⟨hx, hb, hml, hown, hts⟩, hr, hlk⟩ := id C0
  intro n
  induction n with
  | zero =>
    intro x3 x4 v ls hl h kk
    exact absurd h (by simp [pX11_fits_L23])
  | succ n ih =>
    intro x3 x4 v ls hl h kk
    rw [pX11_fits_L23] at h
    refine lv_iload hx hb dX11_fits_23 (lv_at hl 4 rfl) ?_
    refine lv_aload_n hx hb dX11_fits_25 rfl (lv_at hl 0 rfl) ?_
    refine va_get (D := D) (ci := 11) (v := .int (σ 0 28)) (C := RX11) (T := TX11) (N := 30) hx hb hts iX11_fits_X11 hown hK hP 0 mw_0 rfl 28 (by decide) (hts (.fieldLink RX11 131 RX11 "heard" "I") (by decide +kernel)) (fun _ h9 => h9) rfl dX11_fits_26 ?_
    refine lv_icmp_ge (tgt := 87) hx hb dX11_fits_29 (by decide) (fun c29 => ?_) (fun c29 => ?_)
    · replace h := k_ip c29 h
      obtain rfl := k_sm h
      exact kk _ (lv_sub hl [0, 1, 2, 3] rfl)
    · replace h := k_in c29 h
      refine lv_iload_n hx hb dX11_fits_32 rfl (lv_at hl 3 rfl) ?_
      refine lv_if_eq (tgt := 79) hx hb dX11_fits_33 (by decide) (fun c33 => ?_) (fun c33 => ?_)
      · replace h := k_ip c33 h
        refine lv_iconst (v := 0) hx hb dX11_fits_79 (by decide) ?_
        refine lv_istore_n (lv' := [(3, .int 0), (0, .ref (am 0)), (1, .int x1), (2, .int x2), (4, .int x4)]) hx hb dX11_fits_80 rfl hl (by decide) rfl (fun ls hl => ?_)
        refine lv_iinc (v := (x4 + 1)) (lv' := [(4, .int (x4 + 1)), (3, .int 0), (0, .ref (am 0)), (1, .int x1), (2, .int x2)]) hx hb dX11_fits_81 hl (k := 4) rfl rfl (by decide) rfl (fun ls hl => ?_)
        refine lv_goto (tgt := 23) hx hb dX11_fits_84 (by decide) ?_
        exact ih 0 (x4 + 1) _ ls (lv_sub hl [2, 3, 4, 1, 0] rfl) h kk
      · replace h := k_in c33 h
        refine lv_aload_n hx hb dX11_fits_36 rfl (lv_at hl 0 rfl) ?_
        refine lv_iload_n hx hb dX11_fits_37 rfl (lv_at hl 2 rfl) ?_
        obtain ⟨v5, e6, h⟩ := k_bd h
        refine rd_calli (va_runV (As := [.int x2]) (rest := []) C0.1 (kX11_strength l (D := D) (cI := cI) (cB := cB) (cZ := cZ) (am := am) (τ := τ) σ x2 _ e6) (wX11_fits_X11_strength hts ⟨Nat.le_of_ble_eq_true rfl, Nat.le_of_ble_eq_true rfl⟩) ⟨PW.blind, mw_r0 hK hP, PW.mk hP hK hN⟩ rfl rfl hl.1 rfl (lv_room (Nat.le_of_ble_eq_true rfl)) dX11_fits_38 ⟨Nat.zero_le _, Nat.zero_le _⟩) ?_
        refine lv_aload_n hx hb dX11_fits_41 rfl (lv_at hl 0 rfl) ?_
        refine va_get (D := D) (ci := 11) (v := .ref (am 20)) (C := RX11) (T := TX11) (N := 30) hx hb hts iX11_fits_X11 hown hK hP 0 mw_0 rfl 26 (by decide) (hts (.fieldLink RX11 69 RX11 "earStorm" "[I") (by decide +kernel)) (fun _ h9 => h9) rfl dX11_fits_42 ?_
        refine lv_iload hx hb dX11_fits_45 (lv_at hl 4 rfl) ?_
        obtain ⟨v7, e8, h⟩ := k_bd h
        refine va_iald hx hb hK hP 20 0 mw_20 rfl (k_rd e8).1 dX11_fits_47 ?_
        refine lv_nmi (k_rd e8).2 ?_
        obtain ⟨j9, e10, h⟩ := k_bd h
        have key : ∀ (ls : Array Slot), lv_has ls 5 [(0, .ref (am 0)), (1, .int x1), (2, .int x2), (4, .int x4)] → W p l e rmX11_fits s m args below meth c s.heap [] 0 0 Q (F0 m 56 ls [.int j9]) := by
          intro ls hl
          refine lv_aload_n hx hb dX11_fits_56 rfl (lv_at hl 0 rfl) ?_
          refine va_get (D := D) (ci := 11) (v := .ref (am 21)) (C := RX11) (T := TX11) (N := 30) hx hb hts iX11_fits_X11 hown hK hP 0 mw_0 rfl 27 (by decide) (hts (.fieldLink RX11 72 RX11 "earHeld" "[I") (by decide +kernel)) (fun _ h9 => h9) rfl dX11_fits_57 ?_
          refine lv_iload hx hb dX11_fits_60 (lv_at hl 3 rfl) ?_
          obtain ⟨v11, e12, h⟩ := k_bd h
          refine va_iald hx hb hK hP 21 0 mw_21 rfl (k_rd e12).1 dX11_fits_62 ?_
          refine lv_nmi (k_rd e12).2 ?_
          refine lv_iconst (v := 1) hx hb dX11_fits_63 (by decide) ?_
          obtain ⟨j13, e14, h⟩ := k_bd h
          have key : ∀ (ls : Array Slot), lv_has ls 5 [(0, .ref (am 0)), (1, .int x1), (2, .int x2), (4, .int x4)] → W p l e rmX11_fits s m args below meth c s.heap [] 0 0 Q (F0 m 72 ls [.int j13, .int j9]) := by
            intro ls hl
            refine lv_icmp_ne (tgt := 79) hx hb dX11_fits_72 (by decide) (fun c72 => ?_) (fun c72 => ?_)
            · replace h := k_in c72 h
              refine lv_iconst (v := 0) hx hb dX11_fits_79 (by decide) ?_
              refine lv_istore_n (lv' := [(3, .int 0), (0, .ref (am 0)), (1, .int x1), (2, .int x2), (4, .int x4)]) hx hb dX11_fits_80 rfl hl (by decide) rfl (fun ls hl => ?_)
              refine lv_iinc (v := (x4 + 1)) (lv' := [(4, .int (x4 + 1)), (3, .int 0), (0, .ref (am 0)), (1, .int x1), (2, .int x2)]) hx hb dX11_fits_81 hl (k := 4) rfl rfl (by decide) rfl (fun ls hl => ?_)
              refine lv_goto (tgt := 23) hx hb dX11_fits_84 (by decide) ?_
              exact ih 0 (x4 + 1) _ ls (lv_sub hl [2, 3, 4, 1, 0] rfl) h kk
            · replace h := k_ip c72 h
              refine lv_iconst (v := 1) hx hb dX11_fits_75 (by decide) ?_
              refine lv_goto (tgt := 80) hx hb dX11_fits_76 (by decide) ?_
              refine lv_istore_n (lv' := [(3, .int 1), (0, .ref (am 0)), (1, .int x1), (2, .int x2), (4, .int x4)]) hx hb dX11_fits_80 rfl hl (by decide) rfl (fun ls hl => ?_)
              refine lv_iinc (v := (x4 + 1)) (lv' := [(4, .int (x4 + 1)), (3, .int 1), (0, .ref (am 0)), (1, .int x1), (2, .int x2)]) hx hb dX11_fits_81 hl (k := 4) rfl rfl (by decide) rfl (fun ls hl => ?_)
              refine lv_goto (tgt := 23) hx hb dX11_fits_84 (by decide) ?_
              exact ih 1 (x4 + 1) _ ls (lv_sub hl [2, 3, 4, 1, 0] rfl) h kk
          clear h
          have h := e14
          clear e14
          refine lv_icmp_ne (tgt := 71) hx hb dX11_fits_64 (by decide) (fun c64 => ?_) (fun c64 => ?_)
          · replace h := k_in c64 h
            refine lv_iconst (v := 0) hx hb dX11_fits_71 (by decide) ?_
            obtain rfl := k_sm h
            exact key _ (lv_sub hl [0, 1, 2, 3] rfl)
          · replace h := k_ip c64 h
            refine lv_iconst (v := 1) hx hb dX11_fits_67 (by decide) ?_
            refine lv_goto (tgt := 72) hx hb dX11_fits_68 (by decide) ?_
            obtain rfl := k_sm h
            exact key _ (lv_sub hl [0, 1, 2, 3] rfl)
        clear h
        have h := e10
        clear e10
        refine lv_icmp_lt (tgt := 55) hx hb dX11_fits_48 (by decide) (fun c48 => ?_) (fun c48 => ?_)
        · replace h := k_ip c48 h
          refine lv_iconst (v := 0) hx hb dX11_fits_55 (by decide) ?_
          obtain rfl := k_sm h
          exact key _ (lv_sub hl [0, 1, 2, 4] rfl)
        · replace h := k_in c48 h
          refine lv_iconst (v := 1) hx hb dX11_fits_51 (by decide) ?_
          refine lv_goto (tgt := 56) hx hb dX11_fits_52 (by decide) ?_
          obtain rfl := k_sm h
          exact key _ (lv_sub hl [0, 1, 2, 4] rfl)
set_option maxHeartbeats 4000000 in
set_option maxRecDepth 100000 in
theorem bX11_fits_L4 {p : Program} {l : Launch} {e : Env} {s : State} {m : MethodId} {args : Array Value} {below : List Frame} {meth : Method} {c : Code} {Q : State → Prop} {D : va_G} {cI cB cZ : ClassId} {am : Nat → Nat} (C0 : Cx p s m args meth c cX11_fits 5 (some .int) RX11 wsX11_fits) (hK : va_K D vwCl (tysA cI cB cZ) s) (hN : NW s) {τ : Int64} {σ : Sg} (hP : va_P D vwCl (MW cI cB cZ am τ σ) s.heap)  : ∀ (n : Nat) (x1 : Int32) (x2 : Int32) (v : Int32) (ls : Array Slot), lv_has ls 5 [(0, .ref (am 0)), (1, .int x1), (2, .int x2)] → pX11_fits_L4 σ n x1 x2 = some v → (∀ (ls1 : Array Slot), lv_has ls1 5 [(1, .int v)] → W p l e rmX11_fits s m args below meth c s.heap [] 0 0 Q (F0 m 107 ls1 [])) → W p l e rmX11_fits s m args below meth c s.heap [] 0 0 Q (F0 m 4 ls []) := by
  obtain ⟨⟨hx, hb, hml, hown, hts⟩, hr, hlk⟩ := id C0
  intro n
  induction n with
  | zero =>
    intro x1 x2 v ls hl h kk
    exact absurd h (by simp [pX11_fits_L4])
  | succ n ih =>
    intro x1 x2 v ls hl h kk
    rw [pX11_fits_L4] at h
    refine lv_iload_n hx hb dX11_fits_4 rfl (lv_at hl 2 rfl) ?_
    refine lv_aload_n hx hb dX11_fits_5 rfl (lv_at hl 0 rfl) ?_
    refine va_get (D := D) (ci := 11) (v := .ref (am 7)) (C := RX11) (T := TX11) (N := 30) hx hb hts iX11_fits_X11 hown hK hP 0 mw_0 rfl 7 (by decide) (hts (.fieldLink RX11 29 RX11 "anchors" "[I") (by decide +kernel)) (fun _ h9 => h9) rfl dX11_fits_6 ?_
    refine lv_iconst (v := 0) hx hb dX11_fits_9 (by decide) ?_
    obtain ⟨v1, e2, h⟩ := k_bd h
    refine va_iald hx hb hK hP 7 0 mw_7 rfl (k_rd e2).1 dX11_fits_10 ?_
    refine lv_nmi (k_rd e2).2 ?_
    refine lv_icmp_ge (tgt := 107) hx hb dX11_fits_11 (by decide) (fun c11 => ?_) (fun c11 => ?_)
    · replace h := k_ip c11 h
      obtain rfl := k_sm h
      exact kk _ (lv_sub hl [1] rfl)
    · replace h := k_in c11 h
      refine lv_aload_n hx hb dX11_fits_14 rfl (lv_at hl 0 rfl) ?_
      refine lv_iload_n hx hb dX11_fits_15 rfl (lv_at hl 2 rfl) ?_
      obtain ⟨v3, e4, h⟩ := k_bd h
      refine rd_calli (va_runV (As := [.int x2]) (rest := []) C0.1 (kX11_isLying l (D := D) (cI := cI) (cB := cB) (cZ := cZ) (am := am) (τ := τ) σ x2 _ e4) (wX11_fits_X11_isLying hts ⟨Nat.le_of_ble_eq_true rfl, Nat.le_of_ble_eq_true rfl⟩) ⟨PW.blind, mw_r0 hK hP, PW.mk hP hK hN⟩ rfl rfl hl.1 rfl (lv_room (Nat.le_of_ble_eq_true rfl)) dX11_fits_16 ⟨Nat.zero_le _, Nat.zero_le _⟩) ?_
      refine lv_istore_n (lv' := [(3, .int v3), (0, .ref (am 0)), (1, .int x1), (2, .int x2)]) hx hb dX11_fits_19 rfl hl (by decide) rfl (fun ls hl => ?_)
      refine lv_iconst (v := 0) hx hb dX11_fits_20 (by decide) ?_
      refine lv_istore (lv' := [(4, .int 0), (3, .int v3), (0, .ref (am 0)), (1, .int x1), (2, .int x2)]) hx hb dX11_fits_21 hl (by decide) rfl (fun ls hl => ?_)
      obtain ⟨w15, e16, h⟩ := k_bd h
      refine bX11_fits_L23 C0 hK hN hP x1 x2 2000 v3 0 _ ls (lv_sub hl [2, 3, 4, 1, 0] rfl) e16 (fun ls hl => ?_)
      refine lv_iload_n hx hb dX11_fits_87 rfl (lv_at hl 1 rfl) ?_
      refine lv_iload_n hx hb dX11_fits_88 rfl (lv_at hl 3 rfl) ?_
      refine lv_if_eq (tgt := 98) hx hb dX11_fits_89 (by decide) (fun c89 => ?_) (fun c89 => ?_)
      · replace h := k_ip c89 h
        refine lv_iconst (v := 0) hx hb dX11_fits_98 (by decide) ?_
        refine lv_ior hx hb dX11_fits_99 ?_
        obtain ⟨v17, e18, h⟩ := k_bd h
        refine lv_nmi (k_sm e18) ?_
        refine lv_istore_n (lv' := [(1, .int v17), (0, .ref (am 0)), (2, .int x2), (3, .int w15)]) hx hb dX11_fits_100 rfl hl (by decide) rfl (fun ls hl => ?_)
        refine lv_iinc (v := (x2 + 1)) (lv' := [(2, .int (x2 + 1)), (1, .int v17), (0, .ref (am 0)), (3, .int w15)]) hx hb dX11_fits_101 hl (k := 2) rfl rfl (by decide) rfl (fun ls hl => ?_)
        refine lv_goto (tgt := 4) hx hb dX11_fits_104 (by decide) ?_
        exact ih v17 (x2 + 1) _ ls (lv_sub hl [2, 1, 0] rfl) h kk
      · replace h := k_in c89 h
        refine lv_iconst (v := 1) hx hb dX11_fits_92 (by decide) ?_
        refine lv_iload_n hx hb dX11_fits_93 rfl (lv_at hl 2 rfl) ?_
        refine lv_ishl hx hb dX11_fits_94 ?_
        refine lv_goto (tgt := 99) hx hb dX11_fits_95 (by decide) ?_
        refine lv_ior hx hb dX11_fits_99 ?_
        obtain ⟨v19, e20, h⟩ := k_bd h
        refine lv_nmi (k_sm e20) ?_
        refine lv_istore_n (lv' := [(1, .int v19), (0, .ref (am 0)), (2, .int x2), (3, .int w15)]) hx hb dX11_fits_100 rfl hl (by decide) rfl (fun ls hl => ?_)
        refine lv_iinc (v := (x2 + 1)) (lv' := [(2, .int (x2 + 1)), (1, .int v19), (0, .ref (am 0)), (3, .int w15)]) hx hb dX11_fits_101 hl (k := 2) rfl rfl (by decide) rfl (fun ls hl => ?_)
        refine lv_goto (tgt := 4) hx hb dX11_fits_104 (by decide) ?_
        exact ih v19 (x2 + 1) _ ls (lv_sub hl [2, 1, 0] rfl) h kk
set_option maxHeartbeats 4000000 in
set_option maxRecDepth 100000 in
theorem kX11_fits (l : Launch) {D : va_G} {cI cB cZ : ClassId} {am : Nat → Nat} {τ : Int64} (σ : Sg) (o : Int32) (h : pX11_fits σ = some o) : Met l yX11_fits wsX11_fits rmX11_fits (va_Pc [.ref (am 0)] (PW D cI cB cZ (MW cI cB cZ am τ σ))) (QcRead o) 0 0 (fun _ => False) := by
  refine Met.ofW (cc := cX11_fits) (maxL := 5) (ret := (some .int)) (by decide) rfl ?_
  intro p e s m args below meth c s₁ B hml hv
  obtain ⟨rfl, hP, hK, hN⟩ := hv
  have C0 : Cx p s m _ meth c cX11_fits 5 (some .int) RX11 wsX11_fits := ⟨⟨B.exec, B.bytes, hml, findClass_of_methodNamed B.named, atoms_spec B.pre⟩, B.returns, B.notSynchronized⟩
  obtain ⟨⟨hx, hb, -, hown, hts⟩, hr, hlk⟩ := id C0
  have hl := lv_entry ([.ref (am 0)]) (n := 5) (Nat.le_of_ble_eq_true rfl)
  rw [lg_entry_eq]
  generalize (lg_sl ([.ref (am 0)]) ++ List.replicate (5 - (lg_sl ([.ref (am 0)])).length) Slot.unset).toArray = ls at hl ⊢
  have hl : lv_has ls 5 [(0, .ref (am 0))] := hl
  rw [pX11_fits] at h
  refine lv_iconst (v := 0) hx hb dX11_fits_0 (by decide) ?_
  refine lv_istore_n (lv' := [(1, .int 0), (0, .ref (am 0))]) hx hb dX11_fits_1 rfl hl (by decide) rfl (fun ls hl => ?_)
  refine lv_iconst (v := 0) hx hb dX11_fits_2 (by decide) ?_
  refine lv_istore_n (lv' := [(2, .int 0), (1, .int 0), (0, .ref (am 0))]) hx hb dX11_fits_3 rfl hl (by decide) rfl (fun ls hl => ?_)
  obtain ⟨w21, e22, h⟩ := k_bd h
  refine bX11_fits_L4 C0 hK hN hP  2000 0 0 _ ls (lv_sub hl [2, 1, 0] rfl) e22 (fun ls hl => ?_)
  refine lv_iload_n hx hb dX11_fits_107 rfl (lv_at hl 0 rfl) ?_
  obtain rfl := k_sm h
  exact W.iret hx hb hr (fun t ht hW => ⟨rfl, ht⟩) (fun _ h => by cases h) dX11_fits_108
set_option maxHeartbeats 4000000 in
set_option maxRecDepth 100000 in
theorem bX11_ask_L29 {p : Program} {l : Launch} {e : Env} {s : State} {m : MethodId} {args : Array Value} {below : List Frame} {meth : Method} {c : Code} {Q : State → Prop} {D : va_G} {cI cB cZ : ClassId} {am : Nat → Nat} (C0 : Cx p s m args meth c cX11_ask 7 (some .int) RX11 wsX11_ask) (hK : va_K D vwCl (tysA cI cB cZ) s) (hN : NW s) {τ : Int64} {σ : Sg} (hP : va_P D vwCl (MW cI cB cZ am τ σ) s.heap) (x1 : Int32) (x2 : Int32) (x3 : Int32) (x4 : Int32) : ∀ (n : Nat) (x5 : Int32) (x6 : Int32) (v : Int32) (ls : Array Slot), lv_has ls 7 [(0, .ref (am 0)), (1, .int x1), (2, .int x2), (3, .int x3), (4, .int x4), (5, .int x5), (6, .int x6)] → pX11_ask_L29 σ x1 x2 x3 x4 n x5 x6 = some v → (∀ (ls1 : Array Slot), lv_has ls1 7 [(0, .ref (am 0)), (1, .int x1), (2, .int x2), (3, .int x3), (4, .int x4), (5, .int v)] → W p l e rmX11_ask s m args below meth c s.heap [] 0 0 Q (F0 m 76 ls1 [])) → W p l e rmX11_ask s m args below meth c s.heap [] 0 0 Q (F0 m 29 ls []) := by
  obtain ⟨⟨hx, hb, hml, hown, hts⟩, hr, hlk⟩ := id C0
  intro n
  induction n with
  | zero =>
    intro x5 x6 v ls hl h kk
    exact absurd h (by simp [pX11_ask_L29])
  | succ n ih =>
    intro x5 x6 v ls hl h kk
    rw [pX11_ask_L29] at h
    refine lv_iload hx hb dX11_ask_29 (lv_at hl 6 rfl) ?_
    refine lv_aload_n hx hb dX11_ask_31 rfl (lv_at hl 0 rfl) ?_
    refine va_get (D := D) (ci := 11) (v := .ref (am 7)) (C := RX11) (T := TX11) (N := 30) hx hb hts iX11_ask_X11 hown hK hP 0 mw_0 rfl 7 (by decide) (hts (.fieldLink RX11 29 RX11 "anchors" "[I") (by decide +kernel)) (fun _ h9 => h9) rfl dX11_ask_32 ?_
    refine lv_iconst (v := 0) hx hb dX11_ask_35 (by decide) ?_
    obtain ⟨v5, e6, h⟩ := k_bd h
    refine va_iald hx hb hK hP 7 0 mw_7 rfl (k_rd e6).1 dX11_ask_36 ?_
    refine lv_nmi (k_rd e6).2 ?_
    refine lv_icmp_ge (tgt := 76) hx hb dX11_ask_37 (by decide) (fun c37 => ?_) (fun c37 => ?_)
    · replace h := k_ip c37 h
      obtain rfl := k_sm h
      exact kk _ (lv_sub hl [0, 1, 2, 3, 4, 5] rfl)
    · replace h := k_in c37 h
      refine lv_iload hx hb dX11_ask_40 (lv_at hl 5 rfl) ?_
      refine lv_iload_n hx hb dX11_ask_42 rfl (lv_at hl 1 rfl) ?_
      refine lv_iload hx hb dX11_ask_43 (lv_at hl 6 rfl) ?_
      refine rd_calli (va_runS (As := [.int x1, .int x6]) (rest := [.int x5]) C0.1 (kX11_has l x1 x6) (wX11_ask_X11_has hts ⟨Nat.le_of_ble_eq_true rfl, Nat.le_of_ble_eq_true rfl⟩) ⟨PT.blind, fun _ _ _ => ⟨rfl, trivial⟩⟩ rfl rfl hl.1 rfl (lv_room (Nat.le_of_ble_eq_true rfl)) dX11_ask_45 ⟨Nat.zero_le _, Nat.zero_le _⟩) ?_
      refine lv_if_eq (tgt := 66) hx hb dX11_ask_48 (by decide) (fun c48 => ?_) (fun c48 => ?_)
      · replace h := k_ip c48 h
        refine lv_iconst (v := 0) hx hb dX11_ask_66 (by decide) ?_
        refine lv_iadd hx hb dX11_ask_67 ?_
        obtain ⟨v7, e8, h⟩ := k_bd h
        refine lv_nmi (k_sm e8) ?_
        refine lv_istore (lv' := [(5, .int v7), (0, .ref (am 0)), (1, .int x1), (2, .int x2), (3, .int x3), (4, .int x4), (6, .int x6)]) hx hb dX11_ask_68 hl (by decide) rfl (fun ls hl => ?_)
        refine lv_iinc (v := (x6 + 1)) (lv' := [(6, .int (x6 + 1)), (5, .int v7), (0, .ref (am 0)), (1, .int x1), (2, .int x2), (3, .int x3), (4, .int x4)]) hx hb dX11_ask_70 hl (k := 6) rfl rfl (by decide) rfl (fun ls hl => ?_)
        refine lv_goto (tgt := 29) hx hb dX11_ask_73 (by decide) ?_
        exact ih v7 (x6 + 1) _ ls (lv_sub hl [2, 3, 4, 5, 6, 1, 0] rfl) h kk
      · replace h := k_in c48 h
        refine lv_aload_n hx hb dX11_ask_51 rfl (lv_at hl 0 rfl) ?_
        refine lv_iload hx hb dX11_ask_52 (lv_at hl 6 rfl) ?_
        obtain ⟨v9, e10, h⟩ := k_bd h
        refine rd_calli (va_runV (As := [.int x6]) (rest := [.int x5]) C0.1 (kX11_strength l (D := D) (cI := cI) (cB := cB) (cZ := cZ) (am := am) (τ := τ) σ x6 _ e10) (wX11_ask_X11_strength hts ⟨Nat.le_of_ble_eq_true rfl, Nat.le_of_ble_eq_true rfl⟩) ⟨PW.blind, mw_r0 hK hP, PW.mk hP hK hN⟩ rfl rfl hl.1 rfl (lv_room (Nat.le_of_ble_eq_true rfl)) dX11_ask_54 ⟨Nat.zero_le _, Nat.zero_le _⟩) ?_
        refine lv_iload hx hb dX11_ask_57 (lv_at hl 4 rfl) ?_
        refine lv_icmp_lt (tgt := 66) hx hb dX11_ask_59 (by decide) (fun c59 => ?_) (fun c59 => ?_)
        · replace h := k_ip c59 h
          refine lv_iconst (v := 0) hx hb dX11_ask_66 (by decide) ?_
          refine lv_iadd hx hb dX11_ask_67 ?_
          obtain ⟨v11, e12, h⟩ := k_bd h
          refine lv_nmi (k_sm e12) ?_
          refine lv_istore (lv' := [(5, .int v11), (0, .ref (am 0)), (1, .int x1), (2, .int x2), (3, .int x3), (4, .int x4), (6, .int x6)]) hx hb dX11_ask_68 hl (by decide) rfl (fun ls hl => ?_)
          refine lv_iinc (v := (x6 + 1)) (lv' := [(6, .int (x6 + 1)), (5, .int v11), (0, .ref (am 0)), (1, .int x1), (2, .int x2), (3, .int x3), (4, .int x4)]) hx hb dX11_ask_70 hl (k := 6) rfl rfl (by decide) rfl (fun ls hl => ?_)
          refine lv_goto (tgt := 29) hx hb dX11_ask_73 (by decide) ?_
          exact ih v11 (x6 + 1) _ ls (lv_sub hl [2, 3, 4, 5, 6, 1, 0] rfl) h kk
        · replace h := k_in c59 h
          refine lv_iconst (v := 1) hx hb dX11_ask_62 (by decide) ?_
          refine lv_goto (tgt := 67) hx hb dX11_ask_63 (by decide) ?_
          refine lv_iadd hx hb dX11_ask_67 ?_
          obtain ⟨v13, e14, h⟩ := k_bd h
          refine lv_nmi (k_sm e14) ?_
          refine lv_istore (lv' := [(5, .int v13), (0, .ref (am 0)), (1, .int x1), (2, .int x2), (3, .int x3), (4, .int x4), (6, .int x6)]) hx hb dX11_ask_68 hl (by decide) rfl (fun ls hl => ?_)
          refine lv_iinc (v := (x6 + 1)) (lv' := [(6, .int (x6 + 1)), (5, .int v13), (0, .ref (am 0)), (1, .int x1), (2, .int x2), (3, .int x3), (4, .int x4)]) hx hb dX11_ask_70 hl (k := 6) rfl rfl (by decide) rfl (fun ls hl => ?_)
          refine lv_goto (tgt := 29) hx hb dX11_ask_73 (by decide) ?_
          exact ih v13 (x6 + 1) _ ls (lv_sub hl [2, 3, 4, 5, 6, 1, 0] rfl) h kk
set_option maxHeartbeats 4000000 in
set_option maxRecDepth 100000 in
theorem bX11_ask_L16 {p : Program} {l : Launch} {e : Env} {s : State} {m : MethodId} {args : Array Value} {below : List Frame} {meth : Method} {c : Code} {Q : State → Prop} {D : va_G} {cI cB cZ : ClassId} {am : Nat → Nat} (C0 : Cx p s m args meth c cX11_ask 7 (some .int) RX11 wsX11_ask) (hK : va_K D vwCl (tysA cI cB cZ) s) (hN : NW s) {τ : Int64} {σ : Sg} (hP : va_P D vwCl (MW cI cB cZ am τ σ) s.heap) (x1 : Int32) : ∀ (n : Nat) (x2 : Int32) (x3 : Int32) (x4 : Int32) (v : Int32) (ls : Array Slot), lv_has ls 7 [(0, .ref (am 0)), (1, .int x1), (2, .int x2), (3, .int x3), (4, .int x4)] → pX11_ask_L16 σ x1 n x2 x3 x4 = some v → (∀ (ls1 : Array Slot), lv_has ls1 7 [(2, .int v)] → W p l e rmX11_ask s m args below meth c s.heap [] 0 0 Q (F0 m 120 ls1 [])) → W p l e rmX11_ask s m args below meth c s.heap [] 0 0 Q (F0 m 16 ls []) := by
  obtain ⟨⟨hx, hb, hml, hown, hts⟩, hr, hlk⟩ := id C0
  intro n
  induction n with
  | zero =>
    intro x2 x3 x4 v ls hl h kk
    exact absurd h (by simp [pX11_ask_L16])
  | succ n ih =>
    intro x2 x3 x4 v ls hl h kk
    rw [pX11_ask_L16] at h
    refine lv_iload hx hb dX11_ask_16 (lv_at hl 4 rfl) ?_
    refine lv_bipush (v := 99) hx hb dX11_ask_18 (by decide) ?_
    refine lv_icmp_gt (tgt := 120) hx hb dX11_ask_20 (by decide) (fun c20 => ?_) (fun c20 => ?_)
    · replace h := k_ip c20 h
      obtain rfl := k_sm h
      exact kk _ (lv_sub hl [2] rfl)
    · replace h := k_in c20 h
      refine lv_iconst (v := 0) hx hb dX11_ask_23 (by decide) ?_
      refine lv_istore (lv' := [(5, .int 0), (0, .ref (am 0)), (1, .int x1), (2, .int x2), (3, .int x3), (4, .int x4)]) hx hb dX11_ask_24 hl (by decide) rfl (fun ls hl => ?_)
      refine lv_iconst (v := 0) hx hb dX11_ask_26 (by decide) ?_
      refine lv_istore (lv' := [(6, .int 0), (5, .int 0), (0, .ref (am 0)), (1, .int x1), (2, .int x2), (3, .int x3), (4, .int x4)]) hx hb dX11_ask_27 hl (by decide) rfl (fun ls hl => ?_)
      obtain ⟨w15, e16, h⟩ := k_bd h
      refine bX11_ask_L29 C0 hK hN hP x1 x2 x3 x4 2000 0 0 _ ls (lv_sub hl [2, 3, 4, 5, 6, 1, 0] rfl) e16 (fun ls hl => ?_)
      refine lv_iload_n hx hb dX11_ask_76 rfl (lv_at hl 1 rfl) ?_
      obtain ⟨v17, e18, h⟩ := k_bd h
      refine rd_calli (va_runS (As := [.int x1]) (rest := []) C0.1 (kX11_bitsOf l x1 _ e18) (wX11_ask_X11_bitsOf hts ⟨Nat.le_of_ble_eq_true rfl, Nat.le_of_ble_eq_true rfl⟩) ⟨PT.blind, fun _ _ _ => ⟨rfl, trivial⟩⟩ rfl rfl hl.1 rfl (lv_room (Nat.le_of_ble_eq_true rfl)) dX11_ask_77 ⟨Nat.zero_le _, Nat.zero_le _⟩) ?_
      refine lv_iload hx hb dX11_ask_80 (lv_at hl 5 rfl) ?_
      refine lv_isub hx hb dX11_ask_82 ?_
      refine lv_iload hx hb dX11_ask_83 (lv_at hl 5 rfl) ?_
      obtain ⟨j19, e22, h⟩ := k_bd h
      have key : ∀ (ls : Array Slot), lv_has ls 7 [(0, .ref (am 0)), (1, .int x1), (2, .int x2), (3, .int x3), (4, .int x4)] → W p l e rmX11_ask s m args below meth c s.heap [] 0 0 Q (F0 m 100 ls [.int j19]) := by
        intro ls hl
        refine lv_istore (lv' := [(6, .int j19), (0, .ref (am 0)), (1, .int x1), (2, .int x2), (3, .int x3), (4, .int x4)]) hx hb dX11_ask_100 hl (by decide) rfl (fun ls hl => ?_)
        refine lv_iload hx hb dX11_ask_102 (lv_at hl 0 rfl) ?_
        refine lv_iload_n hx hb dX11_ask_104 rfl (lv_at hl 4 rfl) ?_
        refine lv_icmp_ge (tgt := 114) hx hb dX11_ask_105 (by decide) (fun c105 => ?_) (fun c105 => ?_)
        · replace h := k_ip c105 h
          refine lv_iinc (v := (x4 + 1)) (lv' := [(4, .int (x4 + 1)), (6, .int j19), (0, .ref (am 0)), (1, .int x1), (2, .int x2), (3, .int x3)]) hx hb dX11_ask_114 hl (k := 5) rfl rfl (by decide) rfl (fun ls hl => ?_)
          refine lv_goto (tgt := 16) hx hb dX11_ask_117 (by decide) ?_
          exact ih x2 x3 (x4 + 1) _ ls (lv_sub hl [2, 3, 4, 5, 0] rfl) h kk
        · replace h := k_in c105 h
          refine lv_iload hx hb dX11_ask_108 (lv_at hl 5 rfl) ?_
          refine lv_istore_n (lv' := [(2, .int x4), (6, .int j19), (0, .ref (am 0)), (1, .int x1), (3, .int x3), (4, .int x4)]) hx hb dX11_ask_110 rfl hl (by decide) rfl (fun ls hl => ?_)
          refine lv_iload hx hb dX11_ask_111 (lv_at hl 1 rfl) ?_
          refine lv_istore_n (lv' := [(3, .int j19), (2, .int x4), (6, .int j19), (0, .ref (am 0)), (1, .int x1), (4, .int x4)]) hx hb dX11_ask_113 rfl hl (by decide) rfl (fun ls hl => ?_)
          refine lv_iinc (v := (x4 + 1)) (lv' := [(4, .int (x4 + 1)), (3, .int j19), (2, .int x4), (6, .int j19), (0, .ref (am 0)), (1, .int x1)]) hx hb dX11_ask_114 hl (k := 5) rfl rfl (by decide) rfl (fun ls hl => ?_)
          refine lv_goto (tgt := 16) hx hb dX11_ask_117 (by decide) ?_
          exact ih x4 j19 (x4 + 1) _ ls (lv_sub hl [4, 5, 2, 1, 0] rfl) h kk
      clear h
      have h := e22
      clear e22
      refine lv_icmp_le (tgt := 98) hx hb dX11_ask_85 (by decide) (fun c85 => ?_) (fun c85 => ?_)
      · replace h := k_ip c85 h
        refine lv_iload hx hb dX11_ask_98 (lv_at hl 5 rfl) ?_
        obtain rfl := k_sm h
        exact key _ (lv_sub hl [0, 1, 2, 3, 4] rfl)
      · replace h := k_in c85 h
        refine lv_iload_n hx hb dX11_ask_88 rfl (lv_at hl 1 rfl) ?_
        obtain ⟨v20, e21, h⟩ := k_bd h
        refine rd_calli (va_runS (As := [.int x1]) (rest := []) C0.1 (kX11_bitsOf l x1 _ e21) (wX11_ask_X11_bitsOf hts ⟨Nat.le_of_ble_eq_true rfl, Nat.le_of_ble_eq_true rfl⟩) ⟨PT.blind, fun _ _ _ => ⟨rfl, trivial⟩⟩ rfl rfl hl.1 rfl (lv_room (Nat.le_of_ble_eq_true rfl)) dX11_ask_89 ⟨Nat.zero_le _, Nat.zero_le _⟩) ?_
        refine lv_iload hx hb dX11_ask_92 (lv_at hl 5 rfl) ?_
        refine lv_isub hx hb dX11_ask_94 ?_
        refine lv_goto (tgt := 100) hx hb dX11_ask_95 (by decide) ?_
        obtain rfl := k_sm h
        exact key _ (lv_sub hl [0, 1, 2, 3, 4] rfl)
set_option maxHeartbeats 4000000 in
set_option maxRecDepth 100000 in
theorem kX11_ask (l : Launch) {D : va_G} {cI cB cZ : ClassId} {am : Nat → Nat} {τ : Int64} (σ : Sg) (o : Int32) (h : pX11_ask σ = some o) : Met l yX11_ask wsX11_ask rmX11_ask (va_Pc [.ref (am 0)] (PW D cI cB cZ (MW cI cB cZ am τ σ))) (QcRead o) 0 0 (fun _ => False) := by
  refine Met.ofW (cc := cX11_ask) (maxL := 7) (ret := (some .int)) (by decide) rfl ?_
  intro p e s m args below meth c s₁ B hml hv
  obtain ⟨rfl, hP, hK, hN⟩ := hv
  have C0 : Cx p s m _ meth c cX11_ask 7 (some .int) RX11 wsX11_ask := ⟨⟨B.exec, B.bytes, hml, findClass_of_methodNamed B.named, atoms_spec B.pre⟩, B.returns, B.notSynchronized⟩
  obtain ⟨⟨hx, hb, -, hown, hts⟩, hr, hlk⟩ := id C0
  have hl := lv_entry ([.ref (am 0)]) (n := 7) (Nat.le_of_ble_eq_true rfl)
  rw [lg_entry_eq]
  generalize (lg_sl ([.ref (am 0)]) ++ List.replicate (7 - (lg_sl ([.ref (am 0)])).length) Slot.unset).toArray = ls at hl ⊢
  have hl : lv_has ls 7 [(0, .ref (am 0))] := hl
  rw [pX11_ask] at h
  refine lv_aload_n hx hb dX11_ask_0 rfl (lv_at hl 0 rfl) ?_
  obtain ⟨v1, e2, h⟩ := k_bd h
  refine rd_calli (va_runV (As := []) (rest := []) C0.1 (kX11_fits l (D := D) (cI := cI) (cB := cB) (cZ := cZ) (am := am) (τ := τ) σ  _ e2) (wX11_ask_X11_fits hts ⟨Nat.le_of_ble_eq_true rfl, Nat.le_of_ble_eq_true rfl⟩) ⟨PW.blind, mw_r0 hK hP, PW.mk hP hK hN⟩ rfl rfl hl.1 rfl (lv_room (Nat.le_of_ble_eq_true rfl)) dX11_ask_1 ⟨Nat.zero_le _, Nat.zero_le _⟩) ?_
  refine lv_istore_n (lv' := [(1, .int v1), (0, .ref (am 0))]) hx hb dX11_ask_4 rfl hl (by decide) rfl (fun ls hl => ?_)
  refine lv_bipush (v := (-9)) hx hb dX11_ask_5 (by decide) ?_
  refine lv_istore_n (lv' := [(2, .int (-9)), (1, .int v1), (0, .ref (am 0))]) hx hb dX11_ask_7 rfl hl (by decide) rfl (fun ls hl => ?_)
  refine lv_iload_n hx hb dX11_ask_8 rfl (lv_at hl 1 rfl) ?_
  obtain ⟨v3, e4, h⟩ := k_bd h
  refine rd_calli (va_runS (As := [.int v1]) (rest := []) C0.1 (kX11_bitsOf l v1 _ e4) (wX11_ask_X11_bitsOf hts ⟨Nat.le_of_ble_eq_true rfl, Nat.le_of_ble_eq_true rfl⟩) ⟨PT.blind, fun _ _ _ => ⟨rfl, trivial⟩⟩ rfl rfl hl.1 rfl (lv_room (Nat.le_of_ble_eq_true rfl)) dX11_ask_9 ⟨Nat.zero_le _, Nat.zero_le _⟩) ?_
  refine lv_istore_n (lv' := [(3, .int v3), (2, .int (-9)), (1, .int v1), (0, .ref (am 0))]) hx hb dX11_ask_12 rfl hl (by decide) rfl (fun ls hl => ?_)
  refine lv_iconst (v := 1) hx hb dX11_ask_13 (by decide) ?_
  refine lv_istore (lv' := [(4, .int 1), (3, .int v3), (2, .int (-9)), (1, .int v1), (0, .ref (am 0))]) hx hb dX11_ask_14 hl (by decide) rfl (fun ls hl => ?_)
  obtain ⟨w23, e24, h⟩ := k_bd h
  refine bX11_ask_L16 C0 hK hN hP v1 2000 (-9) v3 1 _ ls (lv_sub hl [4, 3, 2, 1, 0] rfl) e24 (fun ls hl => ?_)
  refine lv_iload_n hx hb dX11_ask_120 rfl (lv_at hl 0 rfl) ?_
  obtain rfl := k_sm h
  exact W.iret hx hb hr (fun t ht hW => ⟨rfl, ht⟩) (fun _ h => by cases h) dX11_ask_121
set_option maxHeartbeats 4000000 in
set_option maxRecDepth 100000 in
theorem kX11_bodiesOf (l : Launch) (x0 : Int32) : Met l yX11_bodiesOf wsX11_bodiesOf rmX11_bodiesOf (va_Pc [.int x0] (fun _ => True)) (QcRead (pX11_bodiesOf x0)) 0 0 (fun _ => False) := by
  obtain ⟨o, h⟩ : ∃ o, pX11_bodiesOf x0 = o := ⟨_, rfl⟩
  rw [h]
  refine Met.ofW (cc := cX11_bodiesOf) (maxL := 1) (ret := (some .int)) (by decide) rfl ?_
  intro p e s m args below meth c s₁ B hml hv
  obtain ⟨rfl, -⟩ := hv
  have C0 : Cx p s m _ meth c cX11_bodiesOf 1 (some .int) RX11 wsX11_bodiesOf := ⟨⟨B.exec, B.bytes, hml, findClass_of_methodNamed B.named, atoms_spec B.pre⟩, B.returns, B.notSynchronized⟩
  obtain ⟨⟨hx, hb, -, hown, hts⟩, hr, hlk⟩ := id C0
  have hl := lv_entry ([.int x0]) (n := 1) (Nat.le_of_ble_eq_true rfl)
  rw [lg_entry_eq]
  generalize (lg_sl ([.int x0]) ++ List.replicate (1 - (lg_sl ([.int x0])).length) Slot.unset).toArray = ls at hl ⊢
  have hl : lv_has ls 1 [(0, .int x0)] := hl
  rw [pX11_bodiesOf] at h
  refine lv_iload_n hx hb dX11_bodiesOf_0 rfl (lv_at hl 0 rfl) ?_
  by_cases c1_0 : x0 = 0
  · replace h := k_ip c1_0 h
    refine lv_tableIn (tgt := 36) hx hb dX11_bodiesOf_1 (by rw [c1_0] <;> decide) (by rw [c1_0] <;> decide) (by rw [c1_0] <;> rfl) (by decide) ?_
    refine lv_iconst (v := 1) hx hb dX11_bodiesOf_36 (by decide) ?_
    subst h
    exact W.iret hx hb hr (fun t ht hW => ⟨rfl, ht⟩) (fun _ h => by cases h) dX11_bodiesOf_37
  replace h := k_in c1_0 h
  by_cases c1_1 : x0 = 1
  · replace h := k_ip c1_1 h
    refine lv_tableIn (tgt := 38) hx hb dX11_bodiesOf_1 (by rw [c1_1] <;> decide) (by rw [c1_1] <;> decide) (by rw [c1_1] <;> rfl) (by decide) ?_
    refine lv_iconst (v := 3) hx hb dX11_bodiesOf_38 (by decide) ?_
    subst h
    exact W.iret hx hb hr (fun t ht hW => ⟨rfl, ht⟩) (fun _ h => by cases h) dX11_bodiesOf_39
  replace h := k_in c1_1 h
  by_cases c1_2 : x0 = 2
  · replace h := k_ip c1_2 h
    refine lv_tableIn (tgt := 40) hx hb dX11_bodiesOf_1 (by rw [c1_2] <;> decide) (by rw [c1_2] <;> decide) (by rw [c1_2] <;> rfl) (by decide) ?_
    refine lv_iconst (v := 5) hx hb dX11_bodiesOf_40 (by decide) ?_
    subst h
    exact W.iret hx hb hr (fun t ht hW => ⟨rfl, ht⟩) (fun _ h => by cases h) dX11_bodiesOf_41
  replace h := k_in c1_2 h
  by_cases c1_3 : x0 = 3
  · replace h := k_ip c1_3 h
    refine lv_tableIn (tgt := 42) hx hb dX11_bodiesOf_1 (by rw [c1_3] <;> decide) (by rw [c1_3] <;> decide) (by rw [c1_3] <;> rfl) (by decide) ?_
    refine lv_bipush (v := 11) hx hb dX11_bodiesOf_42 (by decide) ?_
    subst h
    exact W.iret hx hb hr (fun t ht hW => ⟨rfl, ht⟩) (fun _ h => by cases h) dX11_bodiesOf_44
  replace h := k_in c1_3 h
  by_cases c1_4 : x0 = 4
  · replace h := k_ip c1_4 h
    refine lv_tableIn (tgt := 45) hx hb dX11_bodiesOf_1 (by rw [c1_4] <;> decide) (by rw [c1_4] <;> decide) (by rw [c1_4] <;> rfl) (by decide) ?_
    refine lv_bipush (v := 21) hx hb dX11_bodiesOf_45 (by decide) ?_
    subst h
    exact W.iret hx hb hr (fun t ht hW => ⟨rfl, ht⟩) (fun _ h => by cases h) dX11_bodiesOf_47
  replace h := k_in c1_4 h
  refine lv_tableOut (tgt := 48) hx hb dX11_bodiesOf_1 (by have z0 := lv_neT (a := 0) c1_0 (by decide); have z1 := lv_neT (a := 1) c1_1 (by decide); have z2 := lv_neT (a := 2) c1_2 (by decide); have z3 := lv_neT (a := 3) c1_3 (by decide); have z4 := lv_neT (a := 4) c1_4 (by decide); omega) (by decide) ?_
  refine lv_bipush (v := 33) hx hb dX11_bodiesOf_48 (by decide) ?_
  subst h
  exact W.iret hx hb hr (fun t ht hW => ⟨rfl, ht⟩) (fun _ h => by cases h) dX11_bodiesOf_50
set_option maxHeartbeats 4000000 in
set_option maxRecDepth 100000 in
theorem bX11_mark_L31 {p : Program} {l : Launch} {e : Env} {s : State} {m : MethodId} {args : Array Value} {below : List Frame} {meth : Method} {c : Code} {Q : State → Prop} {D : va_G} {cI cB cZ : ClassId} {am : Nat → Nat} (C0 : Cx p s m args meth c cX11_mark 7 (some .int) RX11 wsX11_mark) (hK : va_K D vwCl (tysA cI cB cZ) s) (hN : NW s) (hap : mwX am) {σ : Sg} (x2 : Int32) (x3 : Int32) : ∀ (n : Nat) (x4 : Int64) (x6 : Int32) (τ : Int64) (v : Int64) (H : Heap) (locs : List Loc) (ls : Array Slot), va_P D vwCl (MW cI cB cZ am τ σ) H → va_S (mwA am) s.heap H locs → lv_has ls 7 [(0, .ref (am 0)), (2, .int x2), (3, .int x3), (4, .long x4), (6, .int x6)] → pX11_mark_L31 σ x2 x3 n x4 x6 τ = some v → (∀ (H1 : Heap) (locs1 : List Loc) (ls1 : Array Slot), va_P D vwCl (MW cI cB cZ am v σ) H1 → va_S (mwA am) s.heap H1 locs1 → lv_has ls1 7 [(0, .ref (am 0)), (2, .int x2), (3, .int x3)] → W p l e rmX11_mark s m args below meth c H1 locs1 0 0 Q (F0 m 76 ls1 [])) → W p l e rmX11_mark s m args below meth c H locs 0 0 Q (F0 m 31 ls []) := by
  obtain ⟨⟨hx, hb, hml, hown, hts⟩, hr, hlk⟩ := id C0
  intro n
  induction n with
  | zero =>
    intro x4 x6 τ v H locs ls hP hS hl h kk
    exact absurd h (by simp [pX11_mark_L31])
  | succ n ih =>
    intro x4 x6 τ v H locs ls hP hS hl h kk
    rw [pX11_mark_L31] at h
    refine lv_iload hx hb dX11_mark_31 (lv_at hl 4 rfl) ?_
    refine lv_bipush (v := 6) hx hb dX11_mark_33 (by decide) ?_
    refine lv_icmp_ge (tgt := 76) hx hb dX11_mark_35 (by decide) (fun c35 => ?_) (fun c35 => ?_)
    · replace h := k_ip c35 h
      obtain rfl := k_sm h
      exact kk _ _ _ hP hS (lv_sub hl [0, 1, 2] rfl)
    · replace h := k_in c35 h
      refine lv_aload_n hx hb dX11_mark_38 rfl (lv_at hl 0 rfl) ?_
      refine lv_dup hx hb dX11_mark_39 rfl ?_
      refine va_get (D := D) (ci := 11) (v := .long τ) (C := RX11) (T := TX11) (N := 30) hx hb hts iX11_mark_X11 hown hK hP 0 mw_0 rfl 29 (by decide) (hts (.fieldLink RX11 201 RX11 "trace" "J") (by decide +kernel)) (fun _ h9 => h9) rfl dX11_mark_40 ?_
      refine lv_iload_n hx hb dX11_mark_43 rfl (lv_at hl 2 rfl) ?_
      refine lv_iload hx hb dX11_mark_44 (lv_at hl 4 rfl) ?_
      refine rd_calli (va_runS (As := [.int x3, .int x6]) (rest := [.long τ, .ref (am 0)]) C0.1 (kX11_has l x3 x6) (wX11_mark_X11_has hts ⟨Nat.le_of_ble_eq_true rfl, Nat.le_of_ble_eq_true rfl⟩) ⟨PT.blind, fun _ _ _ => ⟨rfl, trivial⟩⟩ rfl rfl hl.1 rfl (lv_room (Nat.le_of_ble_eq_true rfl)) dX11_mark_46 ⟨Nat.zero_le _, Nat.zero_le _⟩) ?_
      refine lv_if_eq (tgt := 57) hx hb dX11_mark_49 (by decide) (fun c49 => ?_) (fun c49 => ?_)
      · replace h := k_ip c49 h
        refine lv_lconst (v := 0) hx hb dX11_mark_57 (by decide) ?_
        refine lv_ladd hx hb dX11_mark_58 ?_
        refine va_put (D := D) (ci := 11) (v := .long (τ + 0)) (ty := .long) (C := RX11) (T := TX11) (N := 30) hx hb hts iX11_mark_X11 tyX11 tyX11_ok nmX11 hown hK hP (mw_D hap) hS 0 mw_0 rfl 29 (by decide) (hts (.fieldLink RX11 201 RX11 "trace" "J") (by decide +kernel)) (fun _ h9 => h9) rfl (by decide +kernel) rfl rfl (Nat.le_of_ble_eq_true rfl) dX11_mark_59 (fun H locs hP _ hS => ?_)
        have hP := mw_s0_29 hP
        obtain ⟨t5, e6, h⟩ := k_bd h
        rw [k_sm e6] at hP
        refine lv_lload hx hb dX11_mark_62 (lv_at hl 3 rfl) ?_
        refine lv_ldc2 (v := 10) hx hb hown (hts (.constantLong RX11 205 10) (by decide +kernel)) dX11_mark_64 ?_
        refine lv_lmul hx hb dX11_mark_67 ?_
        refine lv_lstore (lv' := [(4, .long (x4 * 10)), (0, .ref (am 0)), (2, .int x2), (3, .int x3), (6, .int x6)]) hx hb dX11_mark_68 hl (by decide) rfl (fun ls hl => ?_)
        refine lv_iinc (v := (x6 + 1)) (lv' := [(6, .int (x6 + 1)), (4, .long (x4 * 10)), (0, .ref (am 0)), (2, .int x2), (3, .int x3)]) hx hb dX11_mark_70 hl (k := 4) rfl rfl (by decide) rfl (fun ls hl => ?_)
        refine lv_goto (tgt := 31) hx hb dX11_mark_73 (by decide) ?_
        exact ih (x4 * 10) (x6 + 1) t5 _ _ _ ls hP hS (lv_sub hl [2, 3, 4, 1, 0] rfl) h kk
      · replace h := k_in c49 h
        refine lv_lload hx hb dX11_mark_52 (lv_at hl 3 rfl) ?_
        refine lv_goto (tgt := 58) hx hb dX11_mark_54 (by decide) ?_
        refine lv_ladd hx hb dX11_mark_58 ?_
        refine va_put (D := D) (ci := 11) (v := .long (τ + x4)) (ty := .long) (C := RX11) (T := TX11) (N := 30) hx hb hts iX11_mark_X11 tyX11 tyX11_ok nmX11 hown hK hP (mw_D hap) hS 0 mw_0 rfl 29 (by decide) (hts (.fieldLink RX11 201 RX11 "trace" "J") (by decide +kernel)) (fun _ h9 => h9) rfl (by decide +kernel) rfl rfl (Nat.le_of_ble_eq_true rfl) dX11_mark_59 (fun H locs hP _ hS => ?_)
        have hP := mw_s0_29 hP
        obtain ⟨t7, e8, h⟩ := k_bd h
        rw [k_sm e8] at hP
        refine lv_lload hx hb dX11_mark_62 (lv_at hl 3 rfl) ?_
        refine lv_ldc2 (v := 10) hx hb hown (hts (.constantLong RX11 205 10) (by decide +kernel)) dX11_mark_64 ?_
        refine lv_lmul hx hb dX11_mark_67 ?_
        refine lv_lstore (lv' := [(4, .long (x4 * 10)), (0, .ref (am 0)), (2, .int x2), (3, .int x3), (6, .int x6)]) hx hb dX11_mark_68 hl (by decide) rfl (fun ls hl => ?_)
        refine lv_iinc (v := (x6 + 1)) (lv' := [(6, .int (x6 + 1)), (4, .long (x4 * 10)), (0, .ref (am 0)), (2, .int x2), (3, .int x3)]) hx hb dX11_mark_70 hl (k := 4) rfl rfl (by decide) rfl (fun ls hl => ?_)
        refine lv_goto (tgt := 31) hx hb dX11_mark_73 (by decide) ?_
        exact ih (x4 * 10) (x6 + 1) t7 _ _ _ ls hP hS (lv_sub hl [2, 3, 4, 1, 0] rfl) h kk
set_option maxHeartbeats 4000000 in
set_option maxRecDepth 100000 in
theorem kX11_mark (l : Launch) {D : va_G} {cI cB cZ : ClassId} {am : Nat → Nat} (hap : mwX am) (σ : Sg) (τ : Int64) (x1 : Int32) (x2 : Int32) (o : (Int32 × Int64)) (h : pX11_mark σ τ x1 x2 = some o) : Met l yX11_mark wsX11_mark rmX11_mark (va_Pc [.ref (am 0), .int x1, .int x2] (PW D cI cB cZ (MW cI cB cZ am τ σ))) (QI D (fun t => MW cI cB cZ am t σ) (mwA am) o.1 o.2) 0 0 (mwA am) := by
  refine Met.ofW (cc := cX11_mark) (maxL := 7) (ret := (some .int)) (by decide) rfl ?_
  intro p e s m args below meth c s₁ B hml hv
  obtain ⟨rfl, hP, hK, hN⟩ := hv
  have C0 : Cx p s m _ meth c cX11_mark 7 (some .int) RX11 wsX11_mark := ⟨⟨B.exec, B.bytes, hml, findClass_of_methodNamed B.named, atoms_spec B.pre⟩, B.returns, B.notSynchronized⟩
  obtain ⟨⟨hx, hb, -, hown, hts⟩, hr, hlk⟩ := id C0
  have hS : va_S (mwA am) s.heap s.heap [] := va_S.rf
  have hl := lv_entry ([.ref (am 0), .int x1, .int x2]) (n := 7) (Nat.le_of_ble_eq_true rfl)
  rw [lg_entry_eq]
  generalize (lg_sl ([.ref (am 0), .int x1, .int x2]) ++ List.replicate (7 - (lg_sl ([.ref (am 0), .int x1, .int x2])).length) Slot.unset).toArray = ls at hl ⊢
  have hl : lv_has ls 7 [(0, .ref (am 0)), (1, .int x1), (2, .int x2)] := hl
  rw [pX11_mark] at h
  refine lv_iload_n hx hb dX11_mark_0 rfl (lv_at hl 1 rfl) ?_
  refine lv_iconst (v := 0) hx hb dX11_mark_1 (by decide) ?_
  refine lv_iconst (v := 5) hx hb dX11_mark_2 (by decide) ?_
  refine rd_calli (va_runS (As := [.int x1, .int 0, .int 5]) (rest := []) C0.1 (kX11_in l x1 0 5) (wX11_mark_X11_in hts ⟨Nat.le_of_ble_eq_true rfl, Nat.le_of_ble_eq_true rfl⟩) ⟨PT.blind, fun _ _ _ => ⟨rfl, trivial⟩⟩ rfl rfl hl.1 rfl (lv_room (Nat.le_of_ble_eq_true rfl)) dX11_mark_3 ⟨Nat.zero_le _, Nat.zero_le _⟩) ?_
  refine lv_if_eq (tgt := 17) hx hb dX11_mark_6 (by decide) (fun c6 => ?_) (fun c6 => ?_)
  · replace h := k_ip c6 h
    refine lv_ldc (v := (-1000000)) hx hb hown (hts (.constant RX11 197 (-1000000)) (by decide +kernel)) dX11_mark_17 ?_
    obtain rfl := k_sm h
    exact W.iret hx hb hr (fun t ht hW => ⟨⟨_, _, rfl, ⟨rfl, rfl⟩, pw_end ht hP⟩, hS.F ht⟩) hS.2.2 dX11_mark_19
  · replace h := k_in c6 h
    refine lv_aload_n hx hb dX11_mark_9 rfl (lv_at hl 0 rfl) ?_
    refine lv_iload_n hx hb dX11_mark_10 rfl (lv_at hl 2 rfl) ?_
    obtain ⟨v1, e2, h⟩ := k_bd h
    refine rd_calli (va_runV (As := [.int x2]) (rest := []) C0.1 (kX11_isAnchor l (D := D) (cI := cI) (cB := cB) (cZ := cZ) (am := am) (τ := τ) σ x2 _ e2) (wX11_mark_X11_isAnchor hts ⟨Nat.le_of_ble_eq_true rfl, Nat.le_of_ble_eq_true rfl⟩) ⟨PW.blind, mw_r0 hK hP, PW.mk hP hK hN⟩ rfl rfl hl.1 rfl (lv_room (Nat.le_of_ble_eq_true rfl)) dX11_mark_11 ⟨Nat.zero_le _, Nat.zero_le _⟩) ?_
    refine lv_if_ne (tgt := 20) hx hb dX11_mark_14 (by decide) (fun c14 => ?_) (fun c14 => ?_)
    · replace h := k_in c14 h
      refine lv_iload_n hx hb dX11_mark_20 rfl (lv_at hl 1 rfl) ?_
      refine rd_calli (va_runS (As := [.int x1]) (rest := []) C0.1 (kX11_bodiesOf l x1) (wX11_mark_X11_bodiesOf hts ⟨Nat.le_of_ble_eq_true rfl, Nat.le_of_ble_eq_true rfl⟩) ⟨PT.blind, fun _ _ _ => ⟨rfl, trivial⟩⟩ rfl rfl hl.1 rfl (lv_room (Nat.le_of_ble_eq_true rfl)) dX11_mark_21 ⟨Nat.zero_le _, Nat.zero_le _⟩) ?_
      obtain ⟨v3, e4, h⟩ := k_bd h
      refine lv_nmi (k_sm e4) ?_
      refine lv_istore_n (lv' := [(3, .int v3), (0, .ref (am 0)), (1, .int x1), (2, .int x2)]) hx hb dX11_mark_24 rfl hl (by decide) rfl (fun ls hl => ?_)
      refine lv_lconst (v := 1) hx hb dX11_mark_25 (by decide) ?_
      refine lv_lstore (lv' := [(4, .long 1), (3, .int v3), (0, .ref (am 0)), (1, .int x1), (2, .int x2)]) hx hb dX11_mark_26 hl (by decide) rfl (fun ls hl => ?_)
      refine lv_iconst (v := 0) hx hb dX11_mark_28 (by decide) ?_
      refine lv_istore (lv' := [(6, .int 0), (4, .long 1), (3, .int v3), (0, .ref (am 0)), (1, .int x1), (2, .int x2)]) hx hb dX11_mark_29 hl (by decide) rfl (fun ls hl => ?_)
      obtain ⟨w9, e10, h⟩ := k_bd h
      refine bX11_mark_L31 C0 hK hN hap x2 v3 2000 1 0 τ _ _ _ ls hP hS (lv_sub hl [3, 5, 2, 1, 0] rfl) e10 (fun H locs ls hP hS hl => ?_)
      refine lv_aload_n hx hb dX11_mark_76 rfl (lv_at hl 0 rfl) ?_
      refine lv_iload_n hx hb dX11_mark_77 rfl (lv_at hl 1 rfl) ?_
      obtain ⟨v11, e12, h⟩ := k_bd h
      refine rd_calli (va_runV (As := [.int x2]) (rest := []) C0.1 (kX11_strength l (D := D) (cI := cI) (cB := cB) (cZ := cZ) (am := am) (τ := w9) σ x2 _ e12) (wX11_mark_X11_strength hts ⟨Nat.le_of_ble_eq_true rfl, Nat.le_of_ble_eq_true rfl⟩) ⟨PW.blind, mw_r0 hK hP, PW.mk hP hK hN⟩ rfl rfl hl.1 rfl (lv_room (Nat.le_of_ble_eq_true rfl)) dX11_mark_78 ⟨Nat.zero_le _, Nat.zero_le _⟩) ?_
      refine lv_istore (lv' := [(6, .int v11), (0, .ref (am 0)), (2, .int x2), (3, .int v3)]) hx hb dX11_mark_81 hl (by decide) rfl (fun ls hl => ?_)
      refine lv_iload hx hb dX11_mark_83 (lv_at hl 0 rfl) ?_
      refine lv_iload_n hx hb dX11_mark_85 rfl (lv_at hl 3 rfl) ?_
      refine lv_iconst (v := 1) hx hb dX11_mark_86 (by decide) ?_
      refine rd_calli (va_runS (As := [.int v3, .int 1]) (rest := [.int v11]) C0.1 (kX11_has l v3 1) (wX11_mark_X11_has hts ⟨Nat.le_of_ble_eq_true rfl, Nat.le_of_ble_eq_true rfl⟩) ⟨PT.blind, fun _ _ _ => ⟨rfl, trivial⟩⟩ rfl rfl hl.1 rfl (lv_room (Nat.le_of_ble_eq_true rfl)) dX11_mark_87 ⟨Nat.zero_le _, Nat.zero_le _⟩) ?_
      obtain ⟨j13, e16, h⟩ := k_bd h
      have key : ∀ (H : Heap) (locs : List Loc) (ls : Array Slot), va_P D vwCl (MW cI cB cZ am w9 σ) H → va_S (mwA am) s.heap H locs → lv_has ls 7 [(0, .ref (am 0)), (2, .int x2), (3, .int v3)] → W p l e rmX11_mark s m ([.ref (am 0), .int x1, .int x2] : List Value).toArray below meth c H locs 0 0 (MQ below (QI D (fun t => MW cI cB cZ am t σ) (mwA am) o.1 o.2) ([.ref (am 0), .int x1, .int x2] : List Value).toArray s 0 0 (mwA am)) (F0 m 103 ls [.int j13, .int v11]) := by
        intro H locs ls hP hS hl
        refine lv_iadd hx hb dX11_mark_103 ?_
        obtain ⟨v17, e18, h⟩ := k_bd h
        refine lv_nmi (k_sm e18) ?_
        refine lv_istore (lv' := [(6, .int v17), (0, .ref (am 0)), (2, .int x2), (3, .int v3)]) hx hb dX11_mark_104 hl (by decide) rfl (fun ls hl => ?_)
        refine lv_iload hx hb dX11_mark_106 (lv_at hl 0 rfl) ?_
        refine lv_iload_n hx hb dX11_mark_108 rfl (lv_at hl 3 rfl) ?_
        refine lv_iconst (v := 2) hx hb dX11_mark_109 (by decide) ?_
        refine rd_calli (va_runS (As := [.int v3, .int 2]) (rest := [.int v17]) C0.1 (kX11_has l v3 2) (wX11_mark_X11_has hts ⟨Nat.le_of_ble_eq_true rfl, Nat.le_of_ble_eq_true rfl⟩) ⟨PT.blind, fun _ _ _ => ⟨rfl, trivial⟩⟩ rfl rfl hl.1 rfl (lv_room (Nat.le_of_ble_eq_true rfl)) dX11_mark_110 ⟨Nat.zero_le _, Nat.zero_le _⟩) ?_
        obtain ⟨j19, e22, h⟩ := k_bd h
        have key : ∀ (H : Heap) (locs : List Loc) (ls : Array Slot), va_P D vwCl (MW cI cB cZ am w9 σ) H → va_S (mwA am) s.heap H locs → lv_has ls 7 [(0, .ref (am 0)), (2, .int x2), (3, .int v3)] → W p l e rmX11_mark s m ([.ref (am 0), .int x1, .int x2] : List Value).toArray below meth c H locs 0 0 (MQ below (QI D (fun t => MW cI cB cZ am t σ) (mwA am) o.1 o.2) ([.ref (am 0), .int x1, .int x2] : List Value).toArray s 0 0 (mwA am)) (F0 m 129 ls [.int j19, .int v17]) := by
          intro H locs ls hP hS hl
          refine lv_isub hx hb dX11_mark_129 ?_
          obtain ⟨v23, e24, h⟩ := k_bd h
          refine lv_nmi (k_sm e24) ?_
          refine lv_istore (lv' := [(6, .int v23), (0, .ref (am 0)), (2, .int x2), (3, .int v3)]) hx hb dX11_mark_130 hl (by decide) rfl (fun ls hl => ?_)
          refine lv_iload_n hx hb dX11_mark_132 rfl (lv_at hl 3 rfl) ?_
          refine lv_iconst (v := 3) hx hb dX11_mark_133 (by decide) ?_
          refine rd_calli (va_runS (As := [.int v3, .int 3]) (rest := []) C0.1 (kX11_has l v3 3) (wX11_mark_X11_has hts ⟨Nat.le_of_ble_eq_true rfl, Nat.le_of_ble_eq_true rfl⟩) ⟨PT.blind, fun _ _ _ => ⟨rfl, trivial⟩⟩ rfl rfl hl.1 rfl (lv_room (Nat.le_of_ble_eq_true rfl)) dX11_mark_134 ⟨Nat.zero_le _, Nat.zero_le _⟩) ?_
          obtain ⟨j25, e26, h⟩ := k_bd h
          have key : ∀ (H : Heap) (locs : List Loc) (ls : Array Slot), va_P D vwCl (MW cI cB cZ am w9 σ) H → va_S (mwA am) s.heap H locs → lv_has ls 7 [(0, .ref (am 0)), (2, .int x2), (3, .int v3)] → W p l e rmX11_mark s m ([.ref (am 0), .int x1, .int x2] : List Value).toArray below meth c H locs 0 0 (MQ below (QI D (fun t => MW cI cB cZ am t σ) (mwA am) o.1 o.2) ([.ref (am 0), .int x1, .int x2] : List Value).toArray s 0 0 (mwA am)) (F0 m 149 ls [.int j25]) := by
            intro H locs ls hP hS hl
            refine lv_istore (lv' := [(6, .int j25), (0, .ref (am 0)), (2, .int x2), (3, .int v3)]) hx hb dX11_mark_149 hl (by decide) rfl (fun ls hl => ?_)
            refine lv_iload hx hb dX11_mark_151 (lv_at hl 0 rfl) ?_
            refine lv_iload_n hx hb dX11_mark_153 rfl (lv_at hl 3 rfl) ?_
            refine lv_iconst (v := 4) hx hb dX11_mark_154 (by decide) ?_
            refine rd_calli (va_runS (As := [.int v3, .int 4]) (rest := [.int j25]) C0.1 (kX11_has l v3 4) (wX11_mark_X11_has hts ⟨Nat.le_of_ble_eq_true rfl, Nat.le_of_ble_eq_true rfl⟩) ⟨PT.blind, fun _ _ _ => ⟨rfl, trivial⟩⟩ rfl rfl hl.1 rfl (lv_room (Nat.le_of_ble_eq_true rfl)) dX11_mark_155 ⟨Nat.zero_le _, Nat.zero_le _⟩) ?_
            obtain ⟨j27, e28, h⟩ := k_bd h
            have key : ∀ (H : Heap) (locs : List Loc) (ls : Array Slot), va_P D vwCl (MW cI cB cZ am w9 σ) H → va_S (mwA am) s.heap H locs → lv_has ls 7 [(0, .ref (am 0)), (2, .int x2), (3, .int v3)] → W p l e rmX11_mark s m ([.ref (am 0), .int x1, .int x2] : List Value).toArray below meth c H locs 0 0 (MQ below (QI D (fun t => MW cI cB cZ am t σ) (mwA am) o.1 o.2) ([.ref (am 0), .int x1, .int x2] : List Value).toArray s 0 0 (mwA am)) (F0 m 166 ls [.int j27, .int j25]) := by
              intro H locs ls hP hS hl
              refine lv_iadd hx hb dX11_mark_166 ?_
              obtain ⟨v29, e30, h⟩ := k_bd h
              refine lv_nmi (k_sm e30) ?_
              refine lv_istore (lv' := [(6, .int v29), (0, .ref (am 0)), (2, .int x2), (3, .int v3)]) hx hb dX11_mark_167 hl (by decide) rfl (fun ls hl => ?_)
              refine lv_iload hx hb dX11_mark_169 (lv_at hl 0 rfl) ?_
              refine lv_iload_n hx hb dX11_mark_171 rfl (lv_at hl 3 rfl) ?_
              refine lv_iconst (v := 5) hx hb dX11_mark_172 (by decide) ?_
              refine rd_calli (va_runS (As := [.int v3, .int 5]) (rest := [.int v29]) C0.1 (kX11_has l v3 5) (wX11_mark_X11_has hts ⟨Nat.le_of_ble_eq_true rfl, Nat.le_of_ble_eq_true rfl⟩) ⟨PT.blind, fun _ _ _ => ⟨rfl, trivial⟩⟩ rfl rfl hl.1 rfl (lv_room (Nat.le_of_ble_eq_true rfl)) dX11_mark_173 ⟨Nat.zero_le _, Nat.zero_le _⟩) ?_
              refine lv_if_eq (tgt := 196) hx hb dX11_mark_176 (by decide) (fun c176 => ?_) (fun c176 => ?_)
              · replace h := k_ip c176 h
                refine lv_iconst (v := 0) hx hb dX11_mark_196 (by decide) ?_
                refine lv_iadd hx hb dX11_mark_197 ?_
                obtain ⟨v31, e32, h⟩ := k_bd h
                refine lv_nmi (k_sm e32) ?_
                refine lv_istore (lv' := [(6, .int v31), (0, .ref (am 0)), (2, .int x2), (3, .int v3)]) hx hb dX11_mark_198 hl (by decide) rfl (fun ls hl => ?_)
                refine lv_iload hx hb dX11_mark_200 (lv_at hl 0 rfl) ?_
                obtain rfl := k_sm h
                exact W.iret hx hb hr (fun t ht hW => ⟨⟨_, _, rfl, ⟨rfl, rfl⟩, pw_end ht hP⟩, hS.F ht⟩) hS.2.2 dX11_mark_202
              · replace h := k_in c176 h
                refine lv_aload_n hx hb dX11_mark_179 rfl (lv_at hl 1 rfl) ?_
                refine va_get (D := D) (ci := 11) (v := .ref (am 13)) (C := RX11) (T := TX11) (N := 30) hx hb hts iX11_mark_X11 hown hK hP 0 mw_0 rfl 19 (by decide) (hts (.fieldLink RX11 47 RX11 "now" "[I") (by decide +kernel)) (fun _ h9 => h9) rfl dX11_mark_180 ?_
                refine lv_bipush (v := 39) hx hb dX11_mark_183 (by decide) ?_
                refine lv_aload_n hx hb dX11_mark_185 rfl (lv_at hl 1 rfl) ?_
                refine va_get (D := D) (ci := 11) (v := .ref (am 8)) (C := RX11) (T := TX11) (N := 30) hx hb hts iX11_mark_X11 hown hK hP 0 mw_0 rfl 8 (by decide) (hts (.fieldLink RX11 32 RX11 "owner" "[I") (by decide +kernel)) (fun _ h9 => h9) rfl dX11_mark_186 ?_
                refine lv_iload_n hx hb dX11_mark_189 rfl (lv_at hl 2 rfl) ?_
                obtain ⟨v33, e34, h⟩ := k_bd h
                refine va_iald hx hb hK hP 8 0 mw_8 rfl (k_rd e34).1 dX11_mark_190 ?_
                refine lv_nmi (k_rd e34).2 ?_
                refine lv_iadd hx hb dX11_mark_191 ?_
                obtain ⟨v35, e36, h⟩ := k_bd h
                refine va_iald hx hb hK hP 13 0 mw_13 rfl (k_rd e36).1 dX11_mark_192 ?_
                refine lv_nmi (k_rd e36).2 ?_
                refine lv_goto (tgt := 197) hx hb dX11_mark_193 (by decide) ?_
                refine lv_iadd hx hb dX11_mark_197 ?_
                obtain ⟨v37, e38, h⟩ := k_bd h
                refine lv_nmi (k_sm e38) ?_
                refine lv_istore (lv' := [(6, .int v37), (0, .ref (am 0)), (2, .int x2), (3, .int v3)]) hx hb dX11_mark_198 hl (by decide) rfl (fun ls hl => ?_)
                refine lv_iload hx hb dX11_mark_200 (lv_at hl 0 rfl) ?_
                obtain rfl := k_sm h
                exact W.iret hx hb hr (fun t ht hW => ⟨⟨_, _, rfl, ⟨rfl, rfl⟩, pw_end ht hP⟩, hS.F ht⟩) hS.2.2 dX11_mark_202
            clear h
            have h := e28
            clear e28
            refine lv_if_eq (tgt := 165) hx hb dX11_mark_158 (by decide) (fun c158 => ?_) (fun c158 => ?_)
            · replace h := k_ip c158 h
              refine lv_iconst (v := 0) hx hb dX11_mark_165 (by decide) ?_
              obtain rfl := k_sm h
              exact key _ _ _ hP hS (lv_sub hl [1, 2, 3] rfl)
            · replace h := k_in c158 h
              refine lv_iload_n hx hb dX11_mark_161 rfl (lv_at hl 2 rfl) ?_
              refine lv_goto (tgt := 166) hx hb dX11_mark_162 (by decide) ?_
              obtain rfl := k_sm h
              exact key _ _ _ hP hS (lv_sub hl [1, 2, 3] rfl)
          clear h
          have h := e26
          clear e26
          refine lv_if_eq (tgt := 147) hx hb dX11_mark_137 (by decide) (fun c137 => ?_) (fun c137 => ?_)
          · replace h := k_ip c137 h
            refine lv_iload hx hb dX11_mark_147 (lv_at hl 0 rfl) ?_
            obtain rfl := k_sm h
            exact key _ _ _ hP hS (lv_sub hl [1, 2, 3] rfl)
          · replace h := k_in c137 h
            refine lv_iconst (v := 2) hx hb dX11_mark_140 (by decide) ?_
            refine lv_iload hx hb dX11_mark_141 (lv_at hl 0 rfl) ?_
            refine lv_imul hx hb dX11_mark_143 ?_
            refine lv_goto (tgt := 149) hx hb dX11_mark_144 (by decide) ?_
            obtain rfl := k_sm h
            exact key _ _ _ hP hS (lv_sub hl [1, 2, 3] rfl)
        clear h
        have h := e22
        clear e22
        refine lv_if_eq (tgt := 128) hx hb dX11_mark_113 (by decide) (fun c113 => ?_) (fun c113 => ?_)
        · replace h := k_ip c113 h
          refine lv_iconst (v := 0) hx hb dX11_mark_128 (by decide) ?_
          obtain rfl := k_sm h
          exact key _ _ _ hP hS (lv_sub hl [1, 2, 3] rfl)
        · replace h := k_in c113 h
          refine lv_aload_n hx hb dX11_mark_116 rfl (lv_at hl 1 rfl) ?_
          refine va_get (D := D) (ci := 11) (v := .ref (am 13)) (C := RX11) (T := TX11) (N := 30) hx hb hts iX11_mark_X11 hown hK hP 0 mw_0 rfl 19 (by decide) (hts (.fieldLink RX11 47 RX11 "now" "[I") (by decide +kernel)) (fun _ h9 => h9) rfl dX11_mark_117 ?_
          refine lv_bipush (v := 16) hx hb dX11_mark_120 (by decide) ?_
          refine lv_iload_n hx hb dX11_mark_122 rfl (lv_at hl 2 rfl) ?_
          refine lv_iadd hx hb dX11_mark_123 ?_
          obtain ⟨v20, e21, h⟩ := k_bd h
          refine va_iald hx hb hK hP 13 0 mw_13 rfl (k_rd e21).1 dX11_mark_124 ?_
          refine lv_nmi (k_rd e21).2 ?_
          refine lv_goto (tgt := 129) hx hb dX11_mark_125 (by decide) ?_
          obtain rfl := k_sm h
          exact key _ _ _ hP hS (lv_sub hl [1, 2, 3] rfl)
      clear h
      have h := e16
      clear e16
      refine lv_if_eq (tgt := 102) hx hb dX11_mark_90 (by decide) (fun c90 => ?_) (fun c90 => ?_)
      · replace h := k_ip c90 h
        refine lv_iconst (v := 0) hx hb dX11_mark_102 (by decide) ?_
        obtain rfl := k_sm h
        exact key _ _ _ hP hS (lv_sub hl [1, 2, 3] rfl)
      · replace h := k_in c90 h
        refine lv_aload_n hx hb dX11_mark_93 rfl (lv_at hl 1 rfl) ?_
        refine va_get (D := D) (ci := 11) (v := .ref (am 12)) (C := RX11) (T := TX11) (N := 30) hx hb hts iX11_mark_X11 hown hK hP 0 mw_0 rfl 12 (by decide) (hts (.fieldLink RX11 44 RX11 "worth" "[I") (by decide +kernel)) (fun _ h9 => h9) rfl dX11_mark_94 ?_
        refine lv_iload_n hx hb dX11_mark_97 rfl (lv_at hl 2 rfl) ?_
        obtain ⟨v14, e15, h⟩ := k_bd h
        refine va_iald hx hb hK hP 12 0 mw_12 rfl (k_rd e15).1 dX11_mark_98 ?_
        refine lv_nmi (k_rd e15).2 ?_
        refine lv_goto (tgt := 103) hx hb dX11_mark_99 (by decide) ?_
        obtain rfl := k_sm h
        exact key _ _ _ hP hS (lv_sub hl [1, 2, 3] rfl)
    · replace h := k_ip c14 h
      refine lv_ldc (v := (-1000000)) hx hb hown (hts (.constant RX11 197 (-1000000)) (by decide +kernel)) dX11_mark_17 ?_
      obtain rfl := k_sm h
      exact W.iret hx hb hr (fun t ht hW => ⟨⟨_, _, rfl, ⟨rfl, rfl⟩, pw_end ht hP⟩, hS.F ht⟩) hS.2.2 dX11_mark_19
set_option maxHeartbeats 4000000 in
set_option maxRecDepth 100000 in
theorem kX11_trace (l : Launch) {D : va_G} {cI cB cZ : ClassId} {am : Nat → Nat} {τ : Int64} (σ : Sg) : Met l yX11_trace wsX11_trace rmX11_trace (va_Pc [.ref (am 0)] (PW D cI cB cZ (MW cI cB cZ am τ σ))) (QcReadL (pX11_trace σ τ)) 0 0 (fun _ => False) := by
  obtain ⟨o, h⟩ : ∃ o, pX11_trace σ τ = o := ⟨_, rfl⟩
  rw [h]
  refine Met.ofW (cc := cX11_trace) (maxL := 1) (ret := (some .long)) (by decide) rfl ?_
  intro p e s m args below meth c s₁ B hml hv
  obtain ⟨rfl, hP, hK, hN⟩ := hv
  have C0 : Cx p s m _ meth c cX11_trace 1 (some .long) RX11 wsX11_trace := ⟨⟨B.exec, B.bytes, hml, findClass_of_methodNamed B.named, atoms_spec B.pre⟩, B.returns, B.notSynchronized⟩
  obtain ⟨⟨hx, hb, -, hown, hts⟩, hr, hlk⟩ := id C0
  have hl := lv_entry ([.ref (am 0)]) (n := 1) (Nat.le_of_ble_eq_true rfl)
  rw [lg_entry_eq]
  generalize (lg_sl ([.ref (am 0)]) ++ List.replicate (1 - (lg_sl ([.ref (am 0)])).length) Slot.unset).toArray = ls at hl ⊢
  have hl : lv_has ls 1 [(0, .ref (am 0))] := hl
  rw [pX11_trace] at h
  refine lv_aload_n hx hb dX11_trace_0 rfl (lv_at hl 0 rfl) ?_
  refine va_get (D := D) (ci := 11) (v := .long τ) (C := RX11) (T := TX11) (N := 30) hx hb hts iX11_trace_X11 hown hK hP 0 mw_0 rfl 29 (by decide) (hts (.fieldLink RX11 201 RX11 "trace" "J") (by decide +kernel)) (fun _ h9 => h9) rfl dX11_trace_1 ?_
  subst h
  exact W.lret hx hb hr (fun t ht hW => ⟨rfl, ht⟩) (fun _ h => by cases h) dX11_trace_4
set_option maxHeartbeats 4000000 in
set_option maxRecDepth 100000 in
theorem bX11_keep_L13 {p : Program} {l : Launch} {e : Env} {s : State} {m : MethodId} {args : Array Value} {below : List Frame} {meth : Method} {c : Code} {Q : State → Prop} {D : va_G} {cI cB cZ : ClassId} {am : Nat → Nat} (C0 : Cx p s m args meth c cX11_keep 3 (some .int) RX11 wsX11_keep) (hK : va_K D vwCl (tysA cI cB cZ) s) (hN : NW s) (hap : mwX am) {τ : Int64} (x1 : Int32) : ∀ (n : Nat) (x2 : Int32) (σ : Sg) (v : Sg) (H : Heap) (locs : List Loc) (ls : Array Slot), va_P D vwCl (MW cI cB cZ am τ σ) H → va_S (mwA am) s.heap H locs → lv_has ls 3 [(0, .ref (am 0)), (1, .int x1), (2, .int x2)] → pX11_keep_L13 x1 n x2 σ = some v → (∀ (H1 : Heap) (locs1 : List Loc) (ls1 : Array Slot), va_P D vwCl (MW cI cB cZ am τ v) H1 → va_S (mwA am) s.heap H1 locs1 → lv_has ls1 3 [(0, .ref (am 0)), (1, .int x1)] → W p l e rmX11_keep s m args below meth c H1 locs1 0 0 Q (F0 m 42 ls1 [])) → W p l e rmX11_keep s m args below meth c H locs 0 0 Q (F0 m 13 ls []) := by
  obtain ⟨⟨hx, hb, hml, hown, hts⟩, hr, hlk⟩ := id C0
  intro n
  induction n with
  | zero =>
    intro x2 σ v H locs ls hP hS hl h kk
    exact absurd h (by simp [pX11_keep_L13])
  | succ n ih =>
    intro x2 σ v H locs ls hP hS hl h kk
    rw [pX11_keep_L13] at h
    refine lv_iload_n hx hb dX11_keep_13 rfl (lv_at hl 2 rfl) ?_
    refine lv_bipush (v := 45) hx hb dX11_keep_14 (by decide) ?_
    refine lv_icmp_ge (tgt := 42) hx hb dX11_keep_16 (by decide) (fun c16 => ?_) (fun c16 => ?_)
    · replace h := k_ip c16 h
      obtain rfl := k_sm h
      exact kk _ _ _ hP hS (lv_sub hl [0, 1] rfl)
    · replace h := k_in c16 h
      refine lv_aload_n hx hb dX11_keep_19 rfl (lv_at hl 0 rfl) ?_
      refine va_get (D := D) (ci := 11) (v := .ref (am 16)) (C := RX11) (T := TX11) (N := 30) hx hb hts iX11_keep_X11 hown hK hP 0 mw_0 rfl 22 (by decide) (hts (.fieldLink RX11 56 RX11 "store" "[I") (by decide +kernel)) (fun _ h9 => h9) rfl dX11_keep_20 ?_
      refine lv_bipush (v := 45) hx hb dX11_keep_23 (by decide) ?_
      refine lv_iload_n hx hb dX11_keep_25 rfl (lv_at hl 1 rfl) ?_
      refine lv_imul hx hb dX11_keep_26 ?_
      refine lv_iload_n hx hb dX11_keep_27 rfl (lv_at hl 2 rfl) ?_
      refine lv_iadd hx hb dX11_keep_28 ?_
      refine lv_aload_n hx hb dX11_keep_29 rfl (lv_at hl 0 rfl) ?_
      refine va_get (D := D) (ci := 11) (v := .ref (am 13)) (C := RX11) (T := TX11) (N := 30) hx hb hts iX11_keep_X11 hown hK hP 0 mw_0 rfl 19 (by decide) (hts (.fieldLink RX11 47 RX11 "now" "[I") (by decide +kernel)) (fun _ h9 => h9) rfl dX11_keep_30 ?_
      refine lv_iload_n hx hb dX11_keep_33 rfl (lv_at hl 2 rfl) ?_
      obtain ⟨v1, e2, h⟩ := k_bd h
      refine va_iald hx hb hK hP 13 0 mw_13 rfl (k_rd e2).1 dX11_keep_34 ?_
      refine lv_nmi (k_rd e2).2 ?_
      obtain ⟨σ3, e4, h⟩ := k_bd h
      refine va_iast hx hb hK hP (mw_D hap) hS 16 0 mw_16 rfl (k_wr e4).1 dX11_keep_35 (fun H locs hP _ hS => ?_)
      have hP := mw_s16 hP
      rw [(k_wr e4).2] at hP
      refine lv_iinc (v := (x2 + 1)) (lv' := [(2, .int (x2 + 1)), (0, .ref (am 0)), (1, .int x1)]) hx hb dX11_keep_36 hl (k := 2) rfl rfl (by decide) rfl (fun ls hl => ?_)
      refine lv_goto (tgt := 13) hx hb dX11_keep_39 (by decide) ?_
      exact ih (x2 + 1) σ3 _ _ _ ls hP hS (lv_sub hl [1, 2, 0] rfl) h kk
set_option maxHeartbeats 4000000 in
set_option maxRecDepth 100000 in
theorem bX11_keep_L44 {p : Program} {l : Launch} {e : Env} {s : State} {m : MethodId} {args : Array Value} {below : List Frame} {meth : Method} {c : Code} {Q : State → Prop} {D : va_G} {cI cB cZ : ClassId} {am : Nat → Nat} (C0 : Cx p s m args meth c cX11_keep 3 (some .int) RX11 wsX11_keep) (hK : va_K D vwCl (tysA cI cB cZ) s) (hN : NW s) (hap : mwX am) {τ : Int64} (x1 : Int32) : ∀ (n : Nat) (x2 : Int32) (σ : Sg) (v : Sg) (H : Heap) (locs : List Loc) (ls : Array Slot), va_P D vwCl (MW cI cB cZ am τ σ) H → va_S (mwA am) s.heap H locs → lv_has ls 3 [(0, .ref (am 0)), (1, .int x1), (2, .int x2)] → pX11_keep_L44 x1 n x2 σ = some v → (∀ (H1 : Heap) (locs1 : List Loc) (ls1 : Array Slot), va_P D vwCl (MW cI cB cZ am τ v) H1 → va_S (mwA am) s.heap H1 locs1 → lv_has ls1 3 [(0, .ref (am 0)), (1, .int x1)] → W p l e rmX11_keep s m args below meth c H1 locs1 0 0 Q (F0 m 77 ls1 [])) → W p l e rmX11_keep s m args below meth c H locs 0 0 Q (F0 m 44 ls []) := by
  obtain ⟨⟨hx, hb, hml, hown, hts⟩, hr, hlk⟩ := id C0
  intro n
  induction n with
  | zero =>
    intro x2 σ v H locs ls hP hS hl h kk
    exact absurd h (by simp [pX11_keep_L44])
  | succ n ih =>
    intro x2 σ v H locs ls hP hS hl h kk
    rw [pX11_keep_L44] at h
    refine lv_iload_n hx hb dX11_keep_44 rfl (lv_at hl 2 rfl) ?_
    refine lv_sipush (v := 450) hx hb dX11_keep_45 (by decide) ?_
    refine lv_icmp_ge (tgt := 77) hx hb dX11_keep_48 (by decide) (fun c48 => ?_) (fun c48 => ?_)
    · replace h := k_ip c48 h
      obtain rfl := k_sm h
      exact kk _ _ _ hP hS (lv_sub hl [0, 1] rfl)
    · replace h := k_in c48 h
      refine lv_aload_n hx hb dX11_keep_51 rfl (lv_at hl 0 rfl) ?_
      refine va_get (D := D) (ci := 11) (v := .ref (am 15)) (C := RX11) (T := TX11) (N := 30) hx hb hts iX11_keep_X11 hown hK hP 0 mw_0 rfl 21 (by decide) (hts (.fieldLink RX11 53 RX11 "before" "[I") (by decide +kernel)) (fun _ h9 => h9) rfl dX11_keep_52 ?_
      refine lv_sipush (v := 450) hx hb dX11_keep_55 (by decide) ?_
      refine lv_iconst (v := 1) hx hb dX11_keep_58 (by decide) ?_
      refine lv_iload_n hx hb dX11_keep_59 rfl (lv_at hl 1 rfl) ?_
      refine lv_iadd hx hb dX11_keep_60 ?_
      refine lv_imul hx hb dX11_keep_61 ?_
      refine lv_iload_n hx hb dX11_keep_62 rfl (lv_at hl 2 rfl) ?_
      refine lv_iadd hx hb dX11_keep_63 ?_
      refine lv_aload_n hx hb dX11_keep_64 rfl (lv_at hl 0 rfl) ?_
      refine va_get (D := D) (ci := 11) (v := .ref (am 15)) (C := RX11) (T := TX11) (N := 30) hx hb hts iX11_keep_X11 hown hK hP 0 mw_0 rfl 21 (by decide) (hts (.fieldLink RX11 53 RX11 "before" "[I") (by decide +kernel)) (fun _ h9 => h9) rfl dX11_keep_65 ?_
      refine lv_iload_n hx hb dX11_keep_68 rfl (lv_at hl 2 rfl) ?_
      obtain ⟨v7, e8, h⟩ := k_bd h
      refine va_iald hx hb hK hP 15 0 mw_15 rfl (k_rd e8).1 dX11_keep_69 ?_
      refine lv_nmi (k_rd e8).2 ?_
      obtain ⟨σ9, e10, h⟩ := k_bd h
      refine va_iast hx hb hK hP (mw_D hap) hS 15 0 mw_15 rfl (k_wr e10).1 dX11_keep_70 (fun H locs hP _ hS => ?_)
      have hP := mw_s15 hP
      rw [(k_wr e10).2] at hP
      refine lv_iinc (v := (x2 + 1)) (lv' := [(2, .int (x2 + 1)), (0, .ref (am 0)), (1, .int x1)]) hx hb dX11_keep_71 hl (k := 2) rfl rfl (by decide) rfl (fun ls hl => ?_)
      refine lv_goto (tgt := 44) hx hb dX11_keep_74 (by decide) ?_
      exact ih (x2 + 1) σ9 _ _ _ ls hP hS (lv_sub hl [1, 2, 0] rfl) h kk
set_option maxHeartbeats 4000000 in
set_option maxRecDepth 100000 in
theorem kX11_keep (l : Launch) {D : va_G} {cI cB cZ : ClassId} {am : Nat → Nat} {τ : Int64} (hap : mwX am) (σ : Sg) (x1 : Int32) (o : (Int32 × Sg)) (h : pX11_keep σ x1 = some o) : Met l yX11_keep wsX11_keep rmX11_keep (va_Pc [.ref (am 0), .int x1] (PW D cI cB cZ (MW cI cB cZ am τ σ))) (QI D (MW cI cB cZ am τ) (mwA am) o.1 o.2) 0 0 (mwA am) := by
  refine Met.ofW (cc := cX11_keep) (maxL := 3) (ret := (some .int)) (by decide) rfl ?_
  intro p e s m args below meth c s₁ B hml hv
  obtain ⟨rfl, hP, hK, hN⟩ := hv
  have C0 : Cx p s m _ meth c cX11_keep 3 (some .int) RX11 wsX11_keep := ⟨⟨B.exec, B.bytes, hml, findClass_of_methodNamed B.named, atoms_spec B.pre⟩, B.returns, B.notSynchronized⟩
  obtain ⟨⟨hx, hb, -, hown, hts⟩, hr, hlk⟩ := id C0
  have hS : va_S (mwA am) s.heap s.heap [] := va_S.rf
  have hl := lv_entry ([.ref (am 0), .int x1]) (n := 3) (Nat.le_of_ble_eq_true rfl)
  rw [lg_entry_eq]
  generalize (lg_sl ([.ref (am 0), .int x1]) ++ List.replicate (3 - (lg_sl ([.ref (am 0), .int x1])).length) Slot.unset).toArray = ls at hl ⊢
  have hl : lv_has ls 3 [(0, .ref (am 0)), (1, .int x1)] := hl
  rw [pX11_keep] at h
  refine lv_iload_n hx hb dX11_keep_0 rfl (lv_at hl 1 rfl) ?_
  refine lv_iconst (v := 0) hx hb dX11_keep_1 (by decide) ?_
  refine lv_iconst (v := 1) hx hb dX11_keep_2 (by decide) ?_
  refine rd_calli (va_runS (As := [.int x1, .int 0, .int 1]) (rest := []) C0.1 (kX11_in l x1 0 1) (wX11_keep_X11_in hts ⟨Nat.le_of_ble_eq_true rfl, Nat.le_of_ble_eq_true rfl⟩) ⟨PT.blind, fun _ _ _ => ⟨rfl, trivial⟩⟩ rfl rfl hl.1 rfl (lv_room (Nat.le_of_ble_eq_true rfl)) dX11_keep_3 ⟨Nat.zero_le _, Nat.zero_le _⟩) ?_
  refine lv_if_ne (tgt := 11) hx hb dX11_keep_6 (by decide) (fun c6 => ?_) (fun c6 => ?_)
  · replace h := k_in c6 h
    refine lv_iconst (v := 0) hx hb dX11_keep_11 (by decide) ?_
    refine lv_istore_n (lv' := [(2, .int 0), (0, .ref (am 0)), (1, .int x1)]) hx hb dX11_keep_12 rfl hl (by decide) rfl (fun ls hl => ?_)
    obtain ⟨w5, e6, h⟩ := k_bd h
    refine bX11_keep_L13 C0 hK hN hap x1 2000 0 σ _ _ _ ls hP hS (lv_sub hl [1, 2, 0] rfl) e6 (fun H locs ls hP hS hl => ?_)
    refine lv_iconst (v := 0) hx hb dX11_keep_42 (by decide) ?_
    refine lv_istore_n (lv' := [(2, .int 0), (0, .ref (am 0)), (1, .int x1)]) hx hb dX11_keep_43 rfl hl (by decide) rfl (fun ls hl => ?_)
    obtain ⟨w11, e12, h⟩ := k_bd h
    refine bX11_keep_L44 C0 hK hN hap x1 2000 0 w5 _ _ _ ls hP hS (lv_sub hl [1, 2, 0] rfl) e12 (fun H locs ls hP hS hl => ?_)
    refine lv_aload_n hx hb dX11_keep_77 rfl (lv_at hl 0 rfl) ?_
    refine va_get (D := D) (ci := 11) (v := .ref (am 14)) (C := RX11) (T := TX11) (N := 30) hx hb hts iX11_keep_X11 hown hK hP 0 mw_0 rfl 20 (by decide) (hts (.fieldLink RX11 50 RX11 "known" "[I") (by decide +kernel)) (fun _ h9 => h9) rfl dX11_keep_78 ?_
    refine lv_iconst (v := 1) hx hb dX11_keep_81 (by decide) ?_
    refine lv_iload_n hx hb dX11_keep_82 rfl (lv_at hl 1 rfl) ?_
    refine lv_iadd hx hb dX11_keep_83 ?_
    refine lv_aload_n hx hb dX11_keep_84 rfl (lv_at hl 0 rfl) ?_
    refine va_get (D := D) (ci := 11) (v := .ref (am 14)) (C := RX11) (T := TX11) (N := 30) hx hb hts iX11_keep_X11 hown hK hP 0 mw_0 rfl 20 (by decide) (hts (.fieldLink RX11 50 RX11 "known" "[I") (by decide +kernel)) (fun _ h9 => h9) rfl dX11_keep_85 ?_
    refine lv_iconst (v := 0) hx hb dX11_keep_88 (by decide) ?_
    obtain ⟨v13, e14, h⟩ := k_bd h
    refine va_iald hx hb hK hP 14 0 mw_14 rfl (k_rd e14).1 dX11_keep_89 ?_
    refine lv_nmi (k_rd e14).2 ?_
    obtain ⟨σ15, e16, h⟩ := k_bd h
    refine va_iast hx hb hK hP (mw_D hap) hS 14 0 mw_14 rfl (k_wr e16).1 dX11_keep_90 (fun H locs hP _ hS => ?_)
    have hP := mw_s14 hP
    rw [(k_wr e16).2] at hP
    refine lv_aload_n hx hb dX11_keep_91 rfl (lv_at hl 0 rfl) ?_
    refine va_get (D := D) (ci := 11) (v := .ref (am 17)) (C := RX11) (T := TX11) (N := 30) hx hb hts iX11_keep_X11 hown hK hP 0 mw_0 rfl 23 (by decide) (hts (.fieldLink RX11 59 RX11 "isKept" "[Z") (by decide +kernel)) (fun _ h9 => h9) rfl dX11_keep_92 ?_
    refine lv_iload_n hx hb dX11_keep_95 rfl (lv_at hl 1 rfl) ?_
    refine lv_iconst (v := 1) hx hb dX11_keep_96 (by decide) ?_
    obtain ⟨σ17, e18, h⟩ := k_bd h
    refine va_zast hx hb hK hP (mw_D hap) hS 17 2 mw_17 rfl (k_wr e18).1 dX11_keep_97 (fun H locs hP _ hS => ?_)
    have hP := mw_s17 hP
    rw [(k_wr e18).2] at hP
    refine lv_aload_n hx hb dX11_keep_98 rfl (lv_at hl 0 rfl) ?_
    refine lv_iconst (v := 0) hx hb dX11_keep_99 (by decide) ?_
    obtain ⟨v19, e20, h⟩ := k_bd h
    refine rd_calli (va_runV (As := [.int 0]) (rest := []) C0.1 (kX11_those l (D := D) (cI := cI) (cB := cB) (cZ := cZ) (am := am) (τ := τ) σ17 0 _ e20) (wX11_keep_X11_those hts ⟨Nat.le_of_ble_eq_true rfl, Nat.le_of_ble_eq_true rfl⟩) ⟨PW.blind, mw_r0 hK hP, PW.mk hP hK hN⟩ rfl rfl hl.1 rfl (lv_room (Nat.le_of_ble_eq_true rfl)) dX11_keep_100 ⟨Nat.zero_le _, Nat.zero_le _⟩) ?_
    obtain rfl := k_sm h
    exact W.iret hx hb hr (fun t ht hW => ⟨⟨_, _, rfl, ⟨rfl, rfl⟩, pw_end ht hP⟩, hS.F ht⟩) hS.2.2 dX11_keep_103
  · replace h := k_ip c6 h
    refine lv_iconst (v := (-1)) hx hb dX11_keep_9 (by decide) ?_
    obtain rfl := k_sm h
    exact W.iret hx hb hr (fun t ht hW => ⟨⟨_, _, rfl, ⟨rfl, rfl⟩, pw_end ht hP⟩, hS.F ht⟩) hS.2.2 dX11_keep_10
set_option maxHeartbeats 4000000 in
set_option maxRecDepth 100000 in
theorem bX11_back_L25 {p : Program} {l : Launch} {e : Env} {s : State} {m : MethodId} {args : Array Value} {below : List Frame} {meth : Method} {c : Code} {Q : State → Prop} {D : va_G} {cI cB cZ : ClassId} {am : Nat → Nat} (C0 : Cx p s m args meth c cX11_back 3 (some .int) RX11 wsX11_back) (hK : va_K D vwCl (tysA cI cB cZ) s) (hN : NW s) (hap : mwX am) {τ : Int64} (x1 : Int32) : ∀ (n : Nat) (x2 : Int32) (σ : Sg) (v : Sg) (H : Heap) (locs : List Loc) (ls : Array Slot), va_P D vwCl (MW cI cB cZ am τ σ) H → va_S (mwA am) s.heap H locs → lv_has ls 3 [(0, .ref (am 0)), (1, .int x1), (2, .int x2)] → pX11_back_L25 x1 n x2 σ = some v → (∀ (H1 : Heap) (locs1 : List Loc) (ls1 : Array Slot), va_P D vwCl (MW cI cB cZ am τ v) H1 → va_S (mwA am) s.heap H1 locs1 → lv_has ls1 3 [(0, .ref (am 0)), (1, .int x1)] → W p l e rmX11_back s m args below meth c H1 locs1 0 0 Q (F0 m 54 ls1 [])) → W p l e rmX11_back s m args below meth c H locs 0 0 Q (F0 m 25 ls []) := by
  obtain ⟨⟨hx, hb, hml, hown, hts⟩, hr, hlk⟩ := id C0
  intro n
  induction n with
  | zero =>
    intro x2 σ v H locs ls hP hS hl h kk
    exact absurd h (by simp [pX11_back_L25])
  | succ n ih =>
    intro x2 σ v H locs ls hP hS hl h kk
    rw [pX11_back_L25] at h
    refine lv_iload_n hx hb dX11_back_25 rfl (lv_at hl 2 rfl) ?_
    refine lv_bipush (v := 45) hx hb dX11_back_26 (by decide) ?_
    refine lv_icmp_ge (tgt := 54) hx hb dX11_back_28 (by decide) (fun c28 => ?_) (fun c28 => ?_)
    · replace h := k_ip c28 h
      obtain rfl := k_sm h
      exact kk _ _ _ hP hS (lv_sub hl [0, 1] rfl)
    · replace h := k_in c28 h
      refine lv_aload_n hx hb dX11_back_31 rfl (lv_at hl 0 rfl) ?_
      refine va_get (D := D) (ci := 11) (v := .ref (am 13)) (C := RX11) (T := TX11) (N := 30) hx hb hts iX11_back_X11 hown hK hP 0 mw_0 rfl 19 (by decide) (hts (.fieldLink RX11 47 RX11 "now" "[I") (by decide +kernel)) (fun _ h9 => h9) rfl dX11_back_32 ?_
      refine lv_iload_n hx hb dX11_back_35 rfl (lv_at hl 2 rfl) ?_
      refine lv_aload_n hx hb dX11_back_36 rfl (lv_at hl 0 rfl) ?_
      refine va_get (D := D) (ci := 11) (v := .ref (am 16)) (C := RX11) (T := TX11) (N := 30) hx hb hts iX11_back_X11 hown hK hP 0 mw_0 rfl 22 (by decide) (hts (.fieldLink RX11 56 RX11 "store" "[I") (by decide +kernel)) (fun _ h9 => h9) rfl dX11_back_37 ?_
      refine lv_bipush (v := 45) hx hb dX11_back_40 (by decide) ?_
      refine lv_iload_n hx hb dX11_back_42 rfl (lv_at hl 1 rfl) ?_
      refine lv_imul hx hb dX11_back_43 ?_
      refine lv_iload_n hx hb dX11_back_44 rfl (lv_at hl 2 rfl) ?_
      refine lv_iadd hx hb dX11_back_45 ?_
      obtain ⟨v3, e4, h⟩ := k_bd h
      refine va_iald hx hb hK hP 16 0 mw_16 rfl (k_rd e4).1 dX11_back_46 ?_
      refine lv_nmi (k_rd e4).2 ?_
      obtain ⟨σ5, e6, h⟩ := k_bd h
      refine va_iast hx hb hK hP (mw_D hap) hS 13 0 mw_13 rfl (k_wr e6).1 dX11_back_47 (fun H locs hP _ hS => ?_)
      have hP := mw_s13 hP
      rw [(k_wr e6).2] at hP
      refine lv_iinc (v := (x2 + 1)) (lv' := [(2, .int (x2 + 1)), (0, .ref (am 0)), (1, .int x1)]) hx hb dX11_back_48 hl (k := 2) rfl rfl (by decide) rfl (fun ls hl => ?_)
      refine lv_goto (tgt := 25) hx hb dX11_back_51 (by decide) ?_
      exact ih (x2 + 1) σ5 _ _ _ ls hP hS (lv_sub hl [1, 2, 0] rfl) h kk
set_option maxHeartbeats 4000000 in
set_option maxRecDepth 100000 in
theorem bX11_back_L56 {p : Program} {l : Launch} {e : Env} {s : State} {m : MethodId} {args : Array Value} {below : List Frame} {meth : Method} {c : Code} {Q : State → Prop} {D : va_G} {cI cB cZ : ClassId} {am : Nat → Nat} (C0 : Cx p s m args meth c cX11_back 3 (some .int) RX11 wsX11_back) (hK : va_K D vwCl (tysA cI cB cZ) s) (hN : NW s) (hap : mwX am) {τ : Int64} (x1 : Int32) : ∀ (n : Nat) (x2 : Int32) (σ : Sg) (v : Sg) (H : Heap) (locs : List Loc) (ls : Array Slot), va_P D vwCl (MW cI cB cZ am τ σ) H → va_S (mwA am) s.heap H locs → lv_has ls 3 [(0, .ref (am 0)), (1, .int x1), (2, .int x2)] → pX11_back_L56 x1 n x2 σ = some v → (∀ (H1 : Heap) (locs1 : List Loc) (ls1 : Array Slot), va_P D vwCl (MW cI cB cZ am τ v) H1 → va_S (mwA am) s.heap H1 locs1 → lv_has ls1 3 [(0, .ref (am 0)), (1, .int x1)] → W p l e rmX11_back s m args below meth c H1 locs1 0 0 Q (F0 m 89 ls1 [])) → W p l e rmX11_back s m args below meth c H locs 0 0 Q (F0 m 56 ls []) := by
  obtain ⟨⟨hx, hb, hml, hown, hts⟩, hr, hlk⟩ := id C0
  intro n
  induction n with
  | zero =>
    intro x2 σ v H locs ls hP hS hl h kk
    exact absurd h (by simp [pX11_back_L56])
  | succ n ih =>
    intro x2 σ v H locs ls hP hS hl h kk
    rw [pX11_back_L56] at h
    refine lv_iload_n hx hb dX11_back_56 rfl (lv_at hl 2 rfl) ?_
    refine lv_sipush (v := 450) hx hb dX11_back_57 (by decide) ?_
    refine lv_icmp_ge (tgt := 89) hx hb dX11_back_60 (by decide) (fun c60 => ?_) (fun c60 => ?_)
    · replace h := k_ip c60 h
      obtain rfl := k_sm h
      exact kk _ _ _ hP hS (lv_sub hl [0, 1] rfl)
    · replace h := k_in c60 h
      refine lv_aload_n hx hb dX11_back_63 rfl (lv_at hl 0 rfl) ?_
      refine va_get (D := D) (ci := 11) (v := .ref (am 15)) (C := RX11) (T := TX11) (N := 30) hx hb hts iX11_back_X11 hown hK hP 0 mw_0 rfl 21 (by decide) (hts (.fieldLink RX11 53 RX11 "before" "[I") (by decide +kernel)) (fun _ h9 => h9) rfl dX11_back_64 ?_
      refine lv_iload_n hx hb dX11_back_67 rfl (lv_at hl 2 rfl) ?_
      refine lv_aload_n hx hb dX11_back_68 rfl (lv_at hl 0 rfl) ?_
      refine va_get (D := D) (ci := 11) (v := .ref (am 15)) (C := RX11) (T := TX11) (N := 30) hx hb hts iX11_back_X11 hown hK hP 0 mw_0 rfl 21 (by decide) (hts (.fieldLink RX11 53 RX11 "before" "[I") (by decide +kernel)) (fun _ h9 => h9) rfl dX11_back_69 ?_
      refine lv_sipush (v := 450) hx hb dX11_back_72 (by decide) ?_
      refine lv_iconst (v := 1) hx hb dX11_back_75 (by decide) ?_
      refine lv_iload_n hx hb dX11_back_76 rfl (lv_at hl 1 rfl) ?_
      refine lv_iadd hx hb dX11_back_77 ?_
      refine lv_imul hx hb dX11_back_78 ?_
      refine lv_iload_n hx hb dX11_back_79 rfl (lv_at hl 2 rfl) ?_
      refine lv_iadd hx hb dX11_back_80 ?_
      obtain ⟨v9, e10, h⟩ := k_bd h
      refine va_iald hx hb hK hP 15 0 mw_15 rfl (k_rd e10).1 dX11_back_81 ?_
      refine lv_nmi (k_rd e10).2 ?_
      obtain ⟨σ11, e12, h⟩ := k_bd h
      refine va_iast hx hb hK hP (mw_D hap) hS 15 0 mw_15 rfl (k_wr e12).1 dX11_back_82 (fun H locs hP _ hS => ?_)
      have hP := mw_s15 hP
      rw [(k_wr e12).2] at hP
      refine lv_iinc (v := (x2 + 1)) (lv' := [(2, .int (x2 + 1)), (0, .ref (am 0)), (1, .int x1)]) hx hb dX11_back_83 hl (k := 2) rfl rfl (by decide) rfl (fun ls hl => ?_)
      refine lv_goto (tgt := 56) hx hb dX11_back_86 (by decide) ?_
      exact ih (x2 + 1) σ11 _ _ _ ls hP hS (lv_sub hl [1, 2, 0] rfl) h kk
set_option maxHeartbeats 4000000 in
set_option maxRecDepth 100000 in
theorem kX11_back (l : Launch) {D : va_G} {cI cB cZ : ClassId} {am : Nat → Nat} {τ : Int64} (hap : mwX am) (σ : Sg) (x1 : Int32) (o : (Int32 × Sg)) (h : pX11_back σ x1 = some o) : Met l yX11_back wsX11_back rmX11_back (va_Pc [.ref (am 0), .int x1] (PW D cI cB cZ (MW cI cB cZ am τ σ))) (QI D (MW cI cB cZ am τ) (mwA am) o.1 o.2) 0 0 (mwA am) := by
  refine Met.ofW (cc := cX11_back) (maxL := 3) (ret := (some .int)) (by decide) rfl ?_
  intro p e s m args below meth c s₁ B hml hv
  obtain ⟨rfl, hP, hK, hN⟩ := hv
  have C0 : Cx p s m _ meth c cX11_back 3 (some .int) RX11 wsX11_back := ⟨⟨B.exec, B.bytes, hml, findClass_of_methodNamed B.named, atoms_spec B.pre⟩, B.returns, B.notSynchronized⟩
  obtain ⟨⟨hx, hb, -, hown, hts⟩, hr, hlk⟩ := id C0
  have hS : va_S (mwA am) s.heap s.heap [] := va_S.rf
  have hl := lv_entry ([.ref (am 0), .int x1]) (n := 3) (Nat.le_of_ble_eq_true rfl)
  rw [lg_entry_eq]
  generalize (lg_sl ([.ref (am 0), .int x1]) ++ List.replicate (3 - (lg_sl ([.ref (am 0), .int x1])).length) Slot.unset).toArray = ls at hl ⊢
  have hl : lv_has ls 3 [(0, .ref (am 0)), (1, .int x1)] := hl
  rw [pX11_back] at h
  refine lv_iload_n hx hb dX11_back_0 rfl (lv_at hl 1 rfl) ?_
  refine lv_iconst (v := 0) hx hb dX11_back_1 (by decide) ?_
  refine lv_iconst (v := 1) hx hb dX11_back_2 (by decide) ?_
  refine rd_calli (va_runS (As := [.int x1, .int 0, .int 1]) (rest := []) C0.1 (kX11_in l x1 0 1) (wX11_back_X11_in hts ⟨Nat.le_of_ble_eq_true rfl, Nat.le_of_ble_eq_true rfl⟩) ⟨PT.blind, fun _ _ _ => ⟨rfl, trivial⟩⟩ rfl rfl hl.1 rfl (lv_room (Nat.le_of_ble_eq_true rfl)) dX11_back_3 ⟨Nat.zero_le _, Nat.zero_le _⟩) ?_
  refine lv_if_ne (tgt := 11) hx hb dX11_back_6 (by decide) (fun c6 => ?_) (fun c6 => ?_)
  · replace h := k_in c6 h
    refine lv_aload_n hx hb dX11_back_11 rfl (lv_at hl 0 rfl) ?_
    refine va_get (D := D) (ci := 11) (v := .ref (am 17)) (C := RX11) (T := TX11) (N := 30) hx hb hts iX11_back_X11 hown hK hP 0 mw_0 rfl 23 (by decide) (hts (.fieldLink RX11 59 RX11 "isKept" "[Z") (by decide +kernel)) (fun _ h9 => h9) rfl dX11_back_12 ?_
    refine lv_iload_n hx hb dX11_back_15 rfl (lv_at hl 1 rfl) ?_
    obtain ⟨v1, e2, h⟩ := k_bd h
    refine va_zald hx hb hK hP 17 2 mw_17 rfl (k_rd e2).1 dX11_back_16 ?_
    refine lv_nmi (k_rd e2).2 ?_
    refine lv_if_ne (tgt := 23) hx hb dX11_back_17 (by decide) (fun c17 => ?_) (fun c17 => ?_)
    · replace h := k_in c17 h
      refine lv_iconst (v := 0) hx hb dX11_back_23 (by decide) ?_
      refine lv_istore_n (lv' := [(2, .int 0), (0, .ref (am 0)), (1, .int x1)]) hx hb dX11_back_24 rfl hl (by decide) rfl (fun ls hl => ?_)
      obtain ⟨w7, e8, h⟩ := k_bd h
      refine bX11_back_L25 C0 hK hN hap x1 2000 0 σ _ _ _ ls hP hS (lv_sub hl [1, 2, 0] rfl) e8 (fun H locs ls hP hS hl => ?_)
      refine lv_iconst (v := 0) hx hb dX11_back_54 (by decide) ?_
      refine lv_istore_n (lv' := [(2, .int 0), (0, .ref (am 0)), (1, .int x1)]) hx hb dX11_back_55 rfl hl (by decide) rfl (fun ls hl => ?_)
      obtain ⟨w13, e14, h⟩ := k_bd h
      refine bX11_back_L56 C0 hK hN hap x1 2000 0 w7 _ _ _ ls hP hS (lv_sub hl [1, 2, 0] rfl) e14 (fun H locs ls hP hS hl => ?_)
      refine lv_aload_n hx hb dX11_back_89 rfl (lv_at hl 0 rfl) ?_
      refine va_get (D := D) (ci := 11) (v := .ref (am 14)) (C := RX11) (T := TX11) (N := 30) hx hb hts iX11_back_X11 hown hK hP 0 mw_0 rfl 20 (by decide) (hts (.fieldLink RX11 50 RX11 "known" "[I") (by decide +kernel)) (fun _ h9 => h9) rfl dX11_back_90 ?_
      refine lv_iconst (v := 0) hx hb dX11_back_93 (by decide) ?_
      refine lv_aload_n hx hb dX11_back_94 rfl (lv_at hl 0 rfl) ?_
      refine va_get (D := D) (ci := 11) (v := .ref (am 14)) (C := RX11) (T := TX11) (N := 30) hx hb hts iX11_back_X11 hown hK hP 0 mw_0 rfl 20 (by decide) (hts (.fieldLink RX11 50 RX11 "known" "[I") (by decide +kernel)) (fun _ h9 => h9) rfl dX11_back_95 ?_
      refine lv_iconst (v := 1) hx hb dX11_back_98 (by decide) ?_
      refine lv_iload_n hx hb dX11_back_99 rfl (lv_at hl 1 rfl) ?_
      refine lv_iadd hx hb dX11_back_100 ?_
      obtain ⟨v15, e16, h⟩ := k_bd h
      refine va_iald hx hb hK hP 14 0 mw_14 rfl (k_rd e16).1 dX11_back_101 ?_
      refine lv_nmi (k_rd e16).2 ?_
      obtain ⟨σ17, e18, h⟩ := k_bd h
      refine va_iast hx hb hK hP (mw_D hap) hS 14 0 mw_14 rfl (k_wr e18).1 dX11_back_102 (fun H locs hP _ hS => ?_)
      have hP := mw_s14 hP
      rw [(k_wr e18).2] at hP
      refine lv_aload_n hx hb dX11_back_103 rfl (lv_at hl 0 rfl) ?_
      refine lv_iconst (v := 0) hx hb dX11_back_104 (by decide) ?_
      obtain ⟨v19, e20, h⟩ := k_bd h
      refine rd_calli (va_runV (As := [.int 0]) (rest := []) C0.1 (kX11_those l (D := D) (cI := cI) (cB := cB) (cZ := cZ) (am := am) (τ := τ) σ17 0 _ e20) (wX11_back_X11_those hts ⟨Nat.le_of_ble_eq_true rfl, Nat.le_of_ble_eq_true rfl⟩) ⟨PW.blind, mw_r0 hK hP, PW.mk hP hK hN⟩ rfl rfl hl.1 rfl (lv_room (Nat.le_of_ble_eq_true rfl)) dX11_back_105 ⟨Nat.zero_le _, Nat.zero_le _⟩) ?_
      obtain rfl := k_sm h
      exact W.iret hx hb hr (fun t ht hW => ⟨⟨_, _, rfl, ⟨rfl, rfl⟩, pw_end ht hP⟩, hS.F ht⟩) hS.2.2 dX11_back_108
    · replace h := k_ip c17 h
      refine lv_bipush (v := (-2)) hx hb dX11_back_20 (by decide) ?_
      obtain rfl := k_sm h
      exact W.iret hx hb hr (fun t ht hW => ⟨⟨_, _, rfl, ⟨rfl, rfl⟩, pw_end ht hP⟩, hS.F ht⟩) hS.2.2 dX11_back_22
  · replace h := k_ip c6 h
    refine lv_iconst (v := (-1)) hx hb dX11_back_9 (by decide) ?_
    obtain rfl := k_sm h
    exact W.iret hx hb hr (fun t ht hW => ⟨⟨_, _, rfl, ⟨rfl, rfl⟩, pw_end ht hP⟩, hS.F ht⟩) hS.2.2 dX11_back_10
set_option maxHeartbeats 4000000 in
set_option maxRecDepth 100000 in
theorem bX11_count_L56 {p : Program} {l : Launch} {e : Env} {s : State} {m : MethodId} {args : Array Value} {below : List Frame} {meth : Method} {c : Code} {Q : State → Prop} {D : va_G} {cI cB cZ : ClassId} {am : Nat → Nat} (C0 : Cx p s m args meth c cX11_count 4 (some .int) RX11 wsX11_count) (hK : va_K D vwCl (tysA cI cB cZ) s) (hN : NW s) {τ : Int64} {σ : Sg} (hP : va_P D vwCl (MW cI cB cZ am τ σ) s.heap)  : ∀ (n : Nat) (x2 : Int32) (x3 : Int32) (v : Int32) (ls : Array Slot), lv_has ls 4 [(0, .ref (am 0)), (2, .int x2), (3, .int x3)] → pX11_count_L56 σ n x2 x3 = some v → (∀ (ls1 : Array Slot), lv_has ls1 4 [(2, .int v)] → W p l e rmX11_count s m args below meth c s.heap [] 0 0 Q (F0 m 84 ls1 [])) → W p l e rmX11_count s m args below meth c s.heap [] 0 0 Q (F0 m 56 ls []) := by
  obtain ⟨⟨hx, hb, hml, hown, hts⟩, hr, hlk⟩ := id C0
  intro n
  induction n with
  | zero =>
    intro x2 x3 v ls hl h kk
    exact absurd h (by simp [pX11_count_L56])
  | succ n ih =>
    intro x2 x3 v ls hl h kk
    rw [pX11_count_L56] at h
    refine lv_iload_n hx hb dX11_count_56 rfl (lv_at hl 2 rfl) ?_
    refine lv_aload_n hx hb dX11_count_57 rfl (lv_at hl 0 rfl) ?_
    refine va_get (D := D) (ci := 11) (v := .ref (am 4)) (C := RX11) (T := TX11) (N := 30) hx hb hts iX11_count_X11 hown hK hP 0 mw_0 rfl 4 (by decide) (hts (.fieldLink RX11 20 RX11 "rafts" "[I") (by decide +kernel)) (fun _ h9 => h9) rfl dX11_count_58 ?_
    refine lv_iconst (v := 0) hx hb dX11_count_61 (by decide) ?_
    obtain ⟨v5, e6, h⟩ := k_bd h
    refine va_iald hx hb hK hP 4 0 mw_4 rfl (k_rd e6).1 dX11_count_62 ?_
    refine lv_nmi (k_rd e6).2 ?_
    refine lv_icmp_ge (tgt := 84) hx hb dX11_count_63 (by decide) (fun c63 => ?_) (fun c63 => ?_)
    · replace h := k_ip c63 h
      obtain rfl := k_sm h
      exact kk _ (lv_sub hl [1] rfl)
    · replace h := k_in c63 h
      refine lv_iload_n hx hb dX11_count_66 rfl (lv_at hl 1 rfl) ?_
      refine lv_aload_n hx hb dX11_count_67 rfl (lv_at hl 0 rfl) ?_
      refine va_get (D := D) (ci := 11) (v := .ref (am 6)) (C := RX11) (T := TX11) (N := 30) hx hb hts iX11_count_X11 hown hK hP 0 mw_0 rfl 6 (by decide) (hts (.fieldLink RX11 26 RX11 "roped" "[I") (by decide +kernel)) (fun _ h9 => h9) rfl dX11_count_68 ?_
      refine lv_iload_n hx hb dX11_count_71 rfl (lv_at hl 2 rfl) ?_
      obtain ⟨v7, e8, h⟩ := k_bd h
      refine va_iald hx hb hK hP 6 0 mw_6 rfl (k_rd e8).1 dX11_count_72 ?_
      refine lv_nmi (k_rd e8).2 ?_
      obtain ⟨v9, e10, h⟩ := k_bd h
      refine rd_calli (va_runS (As := [.int v7]) (rest := [.int x2]) C0.1 (kX11_bitsOf l v7 _ e10) (wX11_count_X11_bitsOf hts ⟨Nat.le_of_ble_eq_true rfl, Nat.le_of_ble_eq_true rfl⟩) ⟨PT.blind, fun _ _ _ => ⟨rfl, trivial⟩⟩ rfl rfl hl.1 rfl (lv_room (Nat.le_of_ble_eq_true rfl)) dX11_count_73 ⟨Nat.zero_le _, Nat.zero_le _⟩) ?_
      refine lv_iadd hx hb dX11_count_76 ?_
      obtain ⟨v11, e12, h⟩ := k_bd h
      refine lv_nmi (k_sm e12) ?_
      refine lv_istore_n (lv' := [(2, .int v11), (0, .ref (am 0)), (3, .int x3)]) hx hb dX11_count_77 rfl hl (by decide) rfl (fun ls hl => ?_)
      refine lv_iinc (v := (x3 + 1)) (lv' := [(3, .int (x3 + 1)), (2, .int v11), (0, .ref (am 0))]) hx hb dX11_count_78 hl (k := 2) rfl rfl (by decide) rfl (fun ls hl => ?_)
      refine lv_goto (tgt := 56) hx hb dX11_count_81 (by decide) ?_
      exact ih v11 (x3 + 1) _ ls (lv_sub hl [2, 1, 0] rfl) h kk
set_option maxHeartbeats 4000000 in
set_option maxRecDepth 100000 in
theorem kX11_count (l : Launch) {D : va_G} {cI cB cZ : ClassId} {am : Nat → Nat} {τ : Int64} (σ : Sg) (x1 : Int32) (o : Int32) (h : pX11_count σ x1 = some o) : Met l yX11_count wsX11_count rmX11_count (va_Pc [.ref (am 0), .int x1] (PW D cI cB cZ (MW cI cB cZ am τ σ))) (QcRead o) 0 0 (fun _ => False) := by
  refine Met.ofW (cc := cX11_count) (maxL := 4) (ret := (some .int)) (by decide) rfl ?_
  intro p e s m args below meth c s₁ B hml hv
  obtain ⟨rfl, hP, hK, hN⟩ := hv
  have C0 : Cx p s m _ meth c cX11_count 4 (some .int) RX11 wsX11_count := ⟨⟨B.exec, B.bytes, hml, findClass_of_methodNamed B.named, atoms_spec B.pre⟩, B.returns, B.notSynchronized⟩
  obtain ⟨⟨hx, hb, -, hown, hts⟩, hr, hlk⟩ := id C0
  have hl := lv_entry ([.ref (am 0), .int x1]) (n := 4) (Nat.le_of_ble_eq_true rfl)
  rw [lg_entry_eq]
  generalize (lg_sl ([.ref (am 0), .int x1]) ++ List.replicate (4 - (lg_sl ([.ref (am 0), .int x1])).length) Slot.unset).toArray = ls at hl ⊢
  have hl : lv_has ls 4 [(0, .ref (am 0)), (1, .int x1)] := hl
  rw [pX11_count] at h
  refine lv_iconst (v := 0) hx hb dX11_count_0 (by decide) ?_
  refine lv_istore_n (lv' := [(2, .int 0), (0, .ref (am 0)), (1, .int x1)]) hx hb dX11_count_1 rfl hl (by decide) rfl (fun ls hl => ?_)
  refine lv_iload_n hx hb dX11_count_2 rfl (lv_at hl 2 rfl) ?_
  by_cases c3_0 : x1 = 0
  · replace h := k_ip c3_0 h
    refine lv_tableIn (tgt := 40) hx hb dX11_count_3 (by rw [c3_0] <;> decide) (by rw [c3_0] <;> decide) (by rw [c3_0] <;> rfl) (by decide) ?_
    refine lv_aload_n hx hb dX11_count_40 rfl (lv_at hl 1 rfl) ?_
    refine va_get (D := D) (ci := 11) (v := .ref (am 4)) (C := RX11) (T := TX11) (N := 30) hx hb hts iX11_count_X11 hown hK hP 0 mw_0 rfl 4 (by decide) (hts (.fieldLink RX11 20 RX11 "rafts" "[I") (by decide +kernel)) (fun _ h9 => h9) rfl dX11_count_41 ?_
    refine lv_iconst (v := 0) hx hb dX11_count_44 (by decide) ?_
    obtain ⟨v1, e2, h⟩ := k_bd h
    refine va_iald hx hb hK hP 4 0 mw_4 rfl (k_rd e2).1 dX11_count_45 ?_
    refine lv_nmi (k_rd e2).2 ?_
    obtain rfl := k_sm h
    exact W.iret hx hb hr (fun t ht hW => ⟨rfl, ht⟩) (fun _ h => by cases h) dX11_count_46
  replace h := k_in c3_0 h
  by_cases c3_1 : x1 = 1
  · replace h := k_ip c3_1 h
    refine lv_tableIn (tgt := 47) hx hb dX11_count_3 (by rw [c3_1] <;> decide) (by rw [c3_1] <;> decide) (by rw [c3_1] <;> rfl) (by decide) ?_
    refine lv_aload_n hx hb dX11_count_47 rfl (lv_at hl 1 rfl) ?_
    refine va_get (D := D) (ci := 11) (v := .ref (am 7)) (C := RX11) (T := TX11) (N := 30) hx hb hts iX11_count_X11 hown hK hP 0 mw_0 rfl 7 (by decide) (hts (.fieldLink RX11 29 RX11 "anchors" "[I") (by decide +kernel)) (fun _ h9 => h9) rfl dX11_count_48 ?_
    refine lv_iconst (v := 0) hx hb dX11_count_51 (by decide) ?_
    obtain ⟨v3, e4, h⟩ := k_bd h
    refine va_iald hx hb hK hP 7 0 mw_7 rfl (k_rd e4).1 dX11_count_52 ?_
    refine lv_nmi (k_rd e4).2 ?_
    obtain rfl := k_sm h
    exact W.iret hx hb hr (fun t ht hW => ⟨rfl, ht⟩) (fun _ h => by cases h) dX11_count_53
  replace h := k_in c3_1 h
  by_cases c3_2 : x1 = 2
  · replace h := k_ip c3_2 h
    refine lv_tableIn (tgt := 54) hx hb dX11_count_3 (by rw [c3_2] <;> decide) (by rw [c3_2] <;> decide) (by rw [c3_2] <;> rfl) (by decide) ?_
    refine lv_iconst (v := 0) hx hb dX11_count_54 (by decide) ?_
    refine lv_istore_n (lv' := [(3, .int 0), (2, .int 0), (0, .ref (am 0)), (1, .int x1)]) hx hb dX11_count_55 rfl hl (by decide) rfl (fun ls hl => ?_)
    obtain ⟨w13, e14, h⟩ := k_bd h
    refine bX11_count_L56 C0 hK hN hP  2000 0 0 _ ls (lv_sub hl [2, 1, 0] rfl) e14 (fun ls hl => ?_)
    refine lv_iload_n hx hb dX11_count_84 rfl (lv_at hl 0 rfl) ?_
    refine lv_iconst (v := 2) hx hb dX11_count_85 (by decide) ?_
    obtain ⟨v15, e16, h⟩ := k_bd h
    refine lv_idiv hx hb dX11_count_86 (k_dv e16).1 ?_
    refine lv_nmi (k_dv e16).2 ?_
    obtain rfl := k_sm h
    exact W.iret hx hb hr (fun t ht hW => ⟨rfl, ht⟩) (fun _ h => by cases h) dX11_count_87
  replace h := k_in c3_2 h
  by_cases c3_3 : x1 = 3
  · replace h := k_ip c3_3 h
    refine lv_tableIn (tgt := 88) hx hb dX11_count_3 (by rw [c3_3] <;> decide) (by rw [c3_3] <;> decide) (by rw [c3_3] <;> rfl) (by decide) ?_
    refine lv_aload_n hx hb dX11_count_88 rfl (lv_at hl 1 rfl) ?_
    refine va_get (D := D) (ci := 11) (v := .int (σ 0 28)) (C := RX11) (T := TX11) (N := 30) hx hb hts iX11_count_X11 hown hK hP 0 mw_0 rfl 28 (by decide) (hts (.fieldLink RX11 131 RX11 "heard" "I") (by decide +kernel)) (fun _ h9 => h9) rfl dX11_count_89 ?_
    obtain rfl := k_sm h
    exact W.iret hx hb hr (fun t ht hW => ⟨rfl, ht⟩) (fun _ h => by cases h) dX11_count_92
  replace h := k_in c3_3 h
  by_cases c3_4 : x1 = 4
  · replace h := k_ip c3_4 h
    refine lv_tableIn (tgt := 93) hx hb dX11_count_3 (by rw [c3_4] <;> decide) (by rw [c3_4] <;> decide) (by rw [c3_4] <;> rfl) (by decide) ?_
    refine lv_aload_n hx hb dX11_count_93 rfl (lv_at hl 1 rfl) ?_
    refine va_get (D := D) (ci := 11) (v := .ref (am 14)) (C := RX11) (T := TX11) (N := 30) hx hb hts iX11_count_X11 hown hK hP 0 mw_0 rfl 20 (by decide) (hts (.fieldLink RX11 50 RX11 "known" "[I") (by decide +kernel)) (fun _ h9 => h9) rfl dX11_count_94 ?_
    refine lv_iconst (v := 0) hx hb dX11_count_97 (by decide) ?_
    obtain ⟨v17, e18, h⟩ := k_bd h
    refine va_iald hx hb hK hP 14 0 mw_14 rfl (k_rd e18).1 dX11_count_98 ?_
    refine lv_nmi (k_rd e18).2 ?_
    obtain rfl := k_sm h
    exact W.iret hx hb hr (fun t ht hW => ⟨rfl, ht⟩) (fun _ h => by cases h) dX11_count_99
  replace h := k_in c3_4 h
  by_cases c3_5 : x1 = 5
  · replace h := k_ip c3_5 h
    refine lv_tableIn (tgt := 100) hx hb dX11_count_3 (by rw [c3_5] <;> decide) (by rw [c3_5] <;> decide) (by rw [c3_5] <;> rfl) (by decide) ?_
    refine lv_aload_n hx hb dX11_count_100 rfl (lv_at hl 1 rfl) ?_
    refine va_get (D := D) (ci := 11) (v := .int (σ 0 1)) (C := RX11) (T := TX11) (N := 30) hx hb hts iX11_count_X11 hown hK hP 0 mw_0 rfl 1 (by decide) (hts (.fieldLink RX11 79 RX11 "typed" "I") (by decide +kernel)) (fun _ h9 => h9) rfl dX11_count_101 ?_
    obtain rfl := k_sm h
    exact W.iret hx hb hr (fun t ht hW => ⟨rfl, ht⟩) (fun _ h => by cases h) dX11_count_104
  replace h := k_in c3_5 h
  refine lv_tableOut (tgt := 105) hx hb dX11_count_3 (by have z0 := lv_neT (a := 0) c3_0 (by decide); have z1 := lv_neT (a := 1) c3_1 (by decide); have z2 := lv_neT (a := 2) c3_2 (by decide); have z3 := lv_neT (a := 3) c3_3 (by decide); have z4 := lv_neT (a := 4) c3_4 (by decide); have z5 := lv_neT (a := 5) c3_5 (by decide); omega) (by decide) ?_
  refine lv_iconst (v := (-1)) hx hb dX11_count_105 (by decide) ?_
  obtain rfl := k_sm h
  exact W.iret hx hb hr (fun t ht hW => ⟨rfl, ht⟩) (fun _ h => by cases h) dX11_count_106
