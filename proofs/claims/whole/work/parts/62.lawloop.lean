/-! THE CLAIM OUT OF ONE WALK OF THE LAW'S BODY. Your part is whole_start (and what it stands on); all else here is the same for every law, but numbers. -/
def R_law : String := "AnchorWillsLaw"
def lw_P (b : Addr) (xs : List Int32) (args : Array Value) (s : State) : Prop := args = #[.ref b] ∧ s.IntsAt b xs ∧ xs.length ≤ 2560 ∧ (Jvm.Cond.and given_1 narrow_1).before args s = true
def lw_Q (_ : Array Value) (s : State) (o : Outcome) (t : State) : Prop := o = .returned (some (.int 1)) ∧ Framed s o t [] 600000 7302249
def lw_Z (below : List Frame) (a : Array Value) (s : State) : State → Prop := fun t => ∃ o, t.status = .running ∧ Ended t below o ∧ lw_Q a s o t
/-- the law's own end, with 1 on the stack, nothing written that was there before, its room as the claim has it -/
theorem lw_ret {p : Program} {l : Launch} {e : Env} {s : State} {m : MethodId} {below : List Frame} {meth : Method} {c : Code} {b : Nat} (hx : p.tables.exec = Jvm.exec) (hb : c.code = code) (hr : meth.sig.returnType = ret) (hlocks : meth.locks = false) {pc : Nat} {H : Heap} {ls : Array Slot} (hdg : decode code pc = .ok (.ireturn, 1)) : W p l e room_1 s m #[Value.ref b] below meth c H [] 600000 7302249 (lw_Z below #[Value.ref b] s) (F0 m pc ls [.int 1]) := by
  intro T hT X
  obtain ⟨fs, hret, hrun, hended, hW, hframe⟩ := X.leave (v := some (.int 1)) (hlocks := hlocks) (fun h => by rw [hr] at h; cases h)
  have hmeth' : T.vm.method? m = some meth := X.method'
  refine ⟨T.setFrames fs, ?_, .returned (some (.int 1)), hrun, hended, rfl, ⟨_, rfl⟩, hW, hframe⟩
  jvm_step X.here [X.here.top, hx, hb, hdg, hmeth', hr, ret, narrow_b1]
  (try refine ⟨rfl, ?_⟩); (try refine ⟨rfl, ?_⟩)
  first | (intro acts; rw [hret _ acts rfl rfl rfl]) | rw [hret _ _ rfl rfl rfl]
  exact Steps.refl _
/-- what holds at the law's entry: the machine, the code, the tables' words (any of lw_tbl by 'hts w (by decide +kernel)'), the script of L ints xs at the cell b, what the Statement gives of the start (any of its parts by flat_of_before) -/
def lw_At (p : Program) (s : State) (m : MethodId) (meth : Method) (c : Code) (b L : Nat) (xs : Nat → Int32) : Prop :=
  p.tables.exec = Jvm.exec ∧ c.code = code ∧ meth.sig.returnType = ret ∧ c.maxLocals = 4 ∧ s.vm.findClass R_law = some m.cls ∧ (∀ w ∈ lw_tbl, w.before #[Value.ref b] s = true) ∧ va_X b L xs s s.heap ∧ b < s.heap.size ∧ meth.locks = false ∧ (Jvm.Cond.and given_1 narrow_1).before #[Value.ref b] s = true
def EQ_type : Prop := ∀ (v : Vw) (σ μ : Sg) (a1 : Int32), Inv v → Rc σ v → Rm μ v → ∃ (o : Int32 × Sg) (o2 : Int32 × Sg) (v' : Vw), pX10_type σ a1 = some o ∧ pX11_type μ a1 = some o2 ∧ o.1 = o2.1 ∧ Inv v' ∧ Rc o.2 v' ∧ Rm o2.2 v'
def EQ_clear : Prop := ∀ (v : Vw) (σ μ : Sg), Inv v → Rc σ v → Rm μ v → ∃ (o : Int32 × Sg) (o2 : Int32 × Sg) (v' : Vw), pX10_clear σ  = some o ∧ pX11_clear μ  = some o2 ∧ o.1 = o2.1 ∧ Inv v' ∧ Rc o.2 v' ∧ Rm o2.2 v'
def EQ_town : Prop := ∀ (v : Vw) (σ μ : Sg), Inv v → Rc σ v → Rm μ v → ∃ (o : Int32 × Sg) (o2 : Int32 × Sg) (v' : Vw), pX10_town σ  = some o ∧ pX11_town μ  = some o2 ∧ o.1 = o2.1 ∧ Inv v' ∧ Rc o.2 v' ∧ Rm o2.2 v'
def EQ_cell : Prop := ∀ (v : Vw) (σ μ : Sg) (a1 a2 : Int32), Inv v → Rc σ v → Rm μ v → ∃ (o : Int32) (o2 : Int32), pX10_cell σ a1 a2 = some o ∧ pX11_cell μ a1 a2 = some o2 ∧ o = o2
def EQ_raft : Prop := ∀ (v : Vw) (σ μ : Sg) (a1 a2 : Int32), Inv v → Rc σ v → Rm μ v → ∃ (o : Int32) (o2 : Int32), pX10_raft σ a1 a2 = some o ∧ pX11_raft μ a1 a2 = some o2 ∧ o = o2
def EQ_anchor : Prop := ∀ (v : Vw) (σ μ : Sg) (a1 a2 : Int32), Inv v → Rc σ v → Rm μ v → ∃ (o : Int32 × Sg) (o2 : Int32) (v' : Vw), pX10_anchor σ a1 a2 = some o ∧ pX11_anchor μ a1 a2 = some o2 ∧ o.1 = o2 ∧ Inv v' ∧ Rc o.2 v' ∧ Rm μ v'
def EQ_storms : Prop := ∀ (v : Vw) (σ μ : Sg) (a1 a2 : Int32), Inv v → Rc σ v → Rm μ v → ∃ (o : Int32 × Sg) (o2 : Int32 × Sg) (v' : Vw), pX10_storms σ a1 a2 = some o ∧ pX11_storms μ a1 a2 = some o2 ∧ o.1 = o2.1 ∧ Inv v' ∧ Rc o.2 v' ∧ Rm o2.2 v'
def EQ_pays : Prop := ∀ (v : Vw) (σ μ : Sg) (a1 a2 : Int32), Inv v → Rc σ v → Rm μ v → ∃ (o : Int32 × Sg) (o2 : Int32 × Sg) (v' : Vw), pX10_pays σ a1 a2 = some o ∧ pX11_pays μ a1 a2 = some o2 ∧ o.1 = o2.1 ∧ Inv v' ∧ Rc o.2 v' ∧ Rm o2.2 v'
def EQ_dies : Prop := ∀ (v : Vw) (σ μ : Sg) (a1 : Int32), Inv v → Rc σ v → Rm μ v → ∃ (o : Int32 × Sg) (o2 : Int32 × Sg) (v' : Vw), pX10_dies σ a1 = some o ∧ pX11_dies μ a1 = some o2 ∧ o.1 = o2.1 ∧ Inv v' ∧ Rc o.2 v' ∧ Rm o2.2 v'
def EQ_wills : Prop := ∀ (v : Vw) (σ μ : Sg) (a1 a2 : Int32), Inv v → Rc σ v → Rm μ v → ∃ (o : Int32 × Sg) (o2 : Int32 × Sg) (v' : Vw), pX10_wills σ a1 a2 = some o ∧ pX11_wills μ a1 a2 = some o2 ∧ o.1 = o2.1 ∧ Inv v' ∧ Rc o.2 v' ∧ Rm o2.2 v'
def EQ_year : Prop := ∀ (v : Vw) (σ μ : Sg), Inv v → Rc σ v → Rm μ v → ∃ (o : Int32 × Sg) (o2 : Int32 × Sg) (v' : Vw), pX10_year σ  = some o ∧ pX11_year μ  = some o2 ∧ o.1 = o2.1 ∧ Inv v' ∧ Rc o.2 v' ∧ Rm o2.2 v'
def EQ_hauls : Prop := ∀ (v : Vw) (σ μ : Sg) (a1 a2 : Int32), Inv v → Rc σ v → Rm μ v → ∃ (o : Int32 × Sg) (o2 : Int32 × Sg) (v' : Vw), pX10_hauls σ a1 a2 = some o ∧ pX11_hauls μ a1 a2 = some o2 ∧ o.1 = o2.1 ∧ Inv v' ∧ Rc o.2 v' ∧ Rm o2.2 v'
def EQ_undo : Prop := ∀ (v : Vw) (σ μ : Sg), Inv v → Rc σ v → Rm μ v → ∃ (o : Int32 × Sg) (o2 : Int32 × Sg) (v' : Vw), pX10_undo σ  = some o ∧ pX11_undo μ  = some o2 ∧ o.1 = o2.1 ∧ Inv v' ∧ Rc o.2 v' ∧ Rm o2.2 v'
def EQ_now : Prop := ∀ (v : Vw) (σ μ : Sg) (a1 : Int32), Inv v → Rc σ v → Rm μ v → ∃ (o : Int32) (o2 : Int32), pX10_now σ a1 = some o ∧ pX11_now μ a1 = some o2 ∧ o = o2
def EQ_needs : Prop := ∀ (v : Vw) (σ μ : Sg) (a1 a2 : Int32), Inv v → Rc σ v → Rm μ v → ∃ (o : Int32) (o2 : Int32), pX10_needs σ a1 a2 = some o ∧ pX11_needs μ a1 a2 = some o2 ∧ o = o2
def EQ_after : Prop := ∀ (v : Vw) (σ μ : Sg) (a1 a2 a3 : Int32), Inv v → Rc σ v → Rm μ v → ∃ (o : Int32 × Sg) (o2 : Int32) (v' : Vw), pX10_after σ a1 a2 a3 = some o ∧ pX11_after μ a1 a2 a3 = some o2 ∧ o.1 = o2 ∧ Inv v' ∧ Rc o.2 v' ∧ Rm μ v'
def EQ_wreck : Prop := ∀ (v : Vw) (σ μ : Sg) (a1 a2 a3 : Int32), Inv v → Rc σ v → Rm μ v → ∃ (o : Int32 × Sg) (o2 : Int32 × Sg) (v' : Vw), pX10_wreck σ a1 a2 a3 = some o ∧ pX11_wreck μ a1 a2 a3 = some o2 ∧ o.1 = o2.1 ∧ Inv v' ∧ Rc o.2 v' ∧ Rm o2.2 v'
def EQ_place : Prop := ∀ (v : Vw) (σ μ : Sg) (a1 a2 a3 : Int32), Inv v → Rc σ v → Rm μ v → ∃ (o : Int32 × Sg) (o2 : Int32 × Sg) (v' : Vw), pX10_place σ a1 a2 a3 = some o ∧ pX11_place μ a1 a2 a3 = some o2 ∧ o.1 = o2.1 ∧ Inv v' ∧ Rc o.2 v' ∧ Rm o2.2 v'
def EQ_vital : Prop := ∀ (v : Vw) (σ μ : Sg) (a1 a2 : Int32), Inv v → Rc σ v → Rm μ v → ∃ (o : Int32) (o2 : Int32), pX10_vital σ a1 a2 = some o ∧ pX11_vital μ a1 a2 = some o2 ∧ o = o2
def EQ_odds : Prop := ∀ (v : Vw) (σ μ : Sg) (a1 a2 a3 a4 : Int32), Inv v → Rc σ v → Rm μ v → ∃ (o : Int32 × Sg) (o2 : Int32) (v' : Vw), pX10_odds σ a1 a2 a3 a4 = some o ∧ pX11_odds μ a1 a2 a3 a4 = some o2 ∧ o.1 = o2 ∧ Inv v' ∧ Rc o.2 v' ∧ Rm μ v'
def EQ_hears : Prop := ∀ (v : Vw) (σ μ : Sg) (a1 a2 : Int32), Inv v → Rc σ v → Rm μ v → ∃ (o : Int32 × Sg) (o2 : Int32 × Sg) (v' : Vw), pX10_hears σ a1 a2 = some o ∧ pX11_hears μ a1 a2 = some o2 ∧ o.1 = o2.1 ∧ Inv v' ∧ Rc o.2 v' ∧ Rm o2.2 v'
def EQ_forget : Prop := ∀ (v : Vw) (σ μ : Sg), Inv v → Rc σ v → Rm μ v → ∃ (o : Int32 × Sg) (o2 : Int32 × Sg) (v' : Vw), pX10_forget σ  = some o ∧ pX11_forget μ  = some o2 ∧ o.1 = o2.1 ∧ Inv v' ∧ Rc o.2 v' ∧ Rm o2.2 v'
def EQ_fits : Prop := ∀ (v : Vw) (σ μ : Sg), Inv v → Rc σ v → Rm μ v → ∃ (o : Int32 × Sg) (o2 : Int32) (v' : Vw), pX10_fits σ  = some o ∧ pX11_fits μ  = some o2 ∧ o.1 = o2 ∧ Inv v' ∧ Rc o.2 v' ∧ Rm μ v'
def EQ_ask : Prop := ∀ (v : Vw) (σ μ : Sg), Inv v → Rc σ v → Rm μ v → ∃ (o : Int32 × Sg) (o2 : Int32) (v' : Vw), pX10_ask σ  = some o ∧ pX11_ask μ  = some o2 ∧ o.1 = o2 ∧ Inv v' ∧ Rc o.2 v' ∧ Rm μ v'
def EQ_mark : Prop := ∀ (τ : Int64) (v : Vw) (σ μ : Sg) (a1 a2 : Int32), Inv v → Rc σ v → Rm μ v → ∃ (o o2 : Int32 × Int64), pX10_mark σ τ a1 a2 = some o ∧ pX11_mark μ τ a1 a2 = some o2 ∧ o = o2
def EQ_keep : Prop := ∀ (v : Vw) (σ μ : Sg) (a1 : Int32), Inv v → Rc σ v → Rm μ v → ∃ (o : Int32 × Sg) (o2 : Int32 × Sg) (v' : Vw), pX10_keep σ a1 = some o ∧ pX11_keep μ a1 = some o2 ∧ o.1 = o2.1 ∧ Inv v' ∧ Rc o.2 v' ∧ Rm o2.2 v'
def EQ_back : Prop := ∀ (v : Vw) (σ μ : Sg) (a1 : Int32), Inv v → Rc σ v → Rm μ v → ∃ (o : Int32 × Sg) (o2 : Int32 × Sg) (v' : Vw), pX10_back σ a1 = some o ∧ pX11_back μ a1 = some o2 ∧ o.1 = o2.1 ∧ Inv v' ∧ Rc o.2 v' ∧ Rm o2.2 v'
def EQ_count : Prop := ∀ (v : Vw) (σ μ : Sg) (a1 : Int32), Inv v → Rc σ v → Rm μ v → ∃ (o2 : Int32), pX11_count μ a1 = some o2 ∧ (pX10_count σ a1) = o2
def EQall : Prop := EQ_type ∧ EQ_clear ∧ EQ_town ∧ EQ_cell ∧ EQ_raft ∧ EQ_anchor ∧ EQ_storms ∧ EQ_pays ∧ EQ_dies ∧ EQ_wills ∧ EQ_year ∧ EQ_hauls ∧ EQ_undo ∧ EQ_now ∧ EQ_needs ∧ EQ_after ∧ EQ_wreck ∧ EQ_place ∧ EQ_vital ∧ EQ_odds ∧ EQ_hears ∧ EQ_forget ∧ EQ_fits ∧ EQ_ask ∧ EQ_mark ∧ EQ_keep ∧ EQ_back ∧ EQ_count
theorem nestF_in : ∀ q ∈ nestF, Cond.fieldLinkNest q.1 q.2.1 q.2.2.1 q.2.2.2.1 q.2.2.2.2.1 q.2.2.2.2.2 ∈ lw_tbl := by
  have h : nestF.map (fun q => Cond.fieldLinkNest q.1 q.2.1 q.2.2.1 q.2.2.2.1 q.2.2.2.2.1 q.2.2.2.2.2) = [118, 136, 137, 139, 140, 142, 143, 144, 146, 148, 149, 150, 152, 154, 156, 157, 158, 160, 161, 162, 163, 164, 165, 167, 199, 218, 234, 320, 343].filterMap (fun i => lw_tbl[i]?) := by decide +kernel
  intro q hq
  have h2 : Cond.fieldLinkNest q.1 q.2.1 q.2.2.1 q.2.2.2.1 q.2.2.2.2.1 q.2.2.2.2.2 ∈ nestF.map (fun q => Cond.fieldLinkNest q.1 q.2.1 q.2.2.1 q.2.2.2.1 q.2.2.2.2.1 q.2.2.2.2.2) := List.mem_map_of_mem hq
  rw [h] at h2
  obtain ⟨i, -, hi⟩ := List.mem_filterMap.mp h2
  exact List.mem_of_getElem? hi
theorem nestM_in : ∀ q ∈ nestM, Cond.methodLinkNest q.1 q.2.1 q.2.2.1 q.2.2.2 ∈ lw_tbl := by
  have h : nestM.map (fun q => Cond.methodLinkNest q.1 q.2.1 q.2.2.1 q.2.2.2) = [107, 113, 127, 130, 134, 190, 193, 207, 212, 214, 228, 257, 262, 278, 297, 310, 336, 395, 399, 410, 414, 423, 426, 447, 451, 455, 460, 464, 469, 473, 474, 480, 481, 485, 491, 495, 496, 505, 513, 514, 523, 531, 532, 536, 541, 542, 543, 551, 555, 556, 557, 565, 569, 574, 585, 593, 594, 595, 596, 597, 598, 599, 607, 611, 612, 616, 617, 622, 627, 649, 653, 654, 659, 667, 678, 682, 687, 691, 697, 701, 705, 711, 715, 720, 721, 725, 730, 735, 736, 737, 746, 768, 772, 781, 789, 790, 791, 796, 801, 813, 818, 819, 823, 832, 836, 837, 845].filterMap (fun i => lw_tbl[i]?) := by decide +kernel
  intro q hq
  have h2 : Cond.methodLinkNest q.1 q.2.1 q.2.2.1 q.2.2.2 ∈ nestM.map (fun q => Cond.methodLinkNest q.1 q.2.1 q.2.2.1 q.2.2.2) := List.mem_map_of_mem hq
  rw [h] at h2
  obtain ⟨i, -, hi⟩ := List.mem_filterMap.mp h2
  exact List.mem_of_getElem? hi
theorem law_NW {args : Array Value} {s : State} (hts : ∀ w ∈ lw_tbl, w.before args s = true) : NW s := ⟨fun q hq => va_Nw.of rfl (hts _ (nestF_in q hq)), fun q hq => va_Nw.of rfl (hts _ (nestM_in q hq))⟩
/-- the two rows of numbers, at the law's entry -/
def SZ0 (t_ABOVE t_LEAVES : Nat) (s : State) : Prop := va_Z RX4 "ABOVE" "[I" (.ref t_ABOVE) (fun q : Nat => s.heap.size ≤ q) s s.heap ∧ va_Z RX4 "LEAVES" "[I" (.ref t_LEAVES) (fun q : Nat => s.heap.size ≤ q) s s.heap ∧ va_T .int t_ABOVE 6 (fun j => .int (f_ABOVE j)) (fun q : Nat => s.heap.size ≤ q) s s.heap ∧ va_T .int t_LEAVES 6 (fun j => .int (f_LEAVES j)) (fun q : Nat => s.heap.size ≤ q) s s.heap
theorem law_SZ0 {args : Array Value} {s : State} (hts : ∀ w ∈ lw_tbl, w.before args s = true) (hg : (Jvm.Cond.and given_1 narrow_1).before args s = true) : ∃ t_ABOVE t_LEAVES : Nat, SZ0 t_ABOVE t_LEAVES s := by
  have hq := flat_of_before _ hg
  have hA : ∀ a : Nat, a < s.heap.size → ¬ (fun q : Nat => s.heap.size ≤ q) a := fun a h => Nat.not_le.mpr h
  obtain ⟨tA, eA, hTA⟩ := va_Tof (args := args) (s := s) (tm := .static RX4 "ABOVE" "[I") (ty := .int) (N := 6) (f := fun j => .int (f_ABOVE j)) (A := fun q : Nat => s.heap.size ≤ q) (by decide) (hq _ (by decide +kernel)) (va_eqt (hq _ (by decide +kernel))) (fun j hj => by
    rcases (show j = 0 ∨ j = 1 ∨ j = 2 ∨ j = 3 ∨ j = 4 ∨ j = 5 by omega) with rfl | rfl | rfl | rfl | rfl | rfl <;> exact va_eqt (hq _ (by decide +kernel))) hA
  obtain ⟨tL, eL, hTL⟩ := va_Tof (args := args) (s := s) (tm := .static RX4 "LEAVES" "[I") (ty := .int) (N := 6) (f := fun j => .int (f_LEAVES j)) (A := fun q : Nat => s.heap.size ≤ q) (by decide) (hq _ (by decide +kernel)) (va_eqt (hq _ (by decide +kernel))) (fun j hj => by
    rcases (show j = 0 ∨ j = 1 ∨ j = 2 ∨ j = 3 ∨ j = 4 ∨ j = 5 by omega) with rfl | rfl | rfl | rfl | rfl | rfl <;> exact va_eqt (hq _ (by decide +kernel))) hA
  exact ⟨tA, tL, va_Zref (hts (.laysStatic RX4 "ABOVE" "[I") (by decide +kernel)) (hts (.initialized RX4) (by decide +kernel)) eA hA, va_Zref (hts (.laysStatic RX4 "LEAVES" "[I") (by decide +kernel)) (hts (.initialized RX4) (by decide +kernel)) eL hA, hTA, hTL⟩
theorem law_SZ {tA tL : Nat} {ad : Nat → Nat} {s U : State} {H : Heap} {locs : List Loc} (h : SZ0 tA tL s) (hS : va_S (fun q : Nat => s.heap.size ≤ q) s.heap H locs) (hC : ∀ q, cwA ad q → s.heap.size ≤ q) (hU : U.heap = H) (hW : s.vm.Alike U.vm) : SZ ad tA tL U := by
  obtain ⟨h1, h2, h3, h4⟩ := h
  unfold SZ
  rw [hU]
  exact ⟨va_Z.moved hW ((h1.kept (fun a z1 z2 => hS.2.1 a z1 z2)).narrow hC), va_Z.moved hW ((h2.kept (fun a z1 z2 => hS.2.1 a z1 z2)).narrow hC), va_T.moved hW ((h3.kept (fun a z1 z2 => hS.2.1 a z1 z2)).narrow hC), va_T.moved hW ((h4.kept (fun a z1 z2 => hS.2.1 a z1 z2)).narrow hC)⟩
/-- a call that writes in its own cells; another world stands beside -/
theorem wr_calli2 {p : Program} {l : Launch} {e : Env} {R : Room} {s : State} {m : MethodId} {args : Array Value} {below : List Frame} {meth : Method} {c : Code} {H : Heap} {locs : List Loc} {Q : State → Prop} {pc : Nat} {ls : Array Slot} {rest st0 : List Value} {a : Array Value} {cells slots : Nat} {S : Type} {D : va_G} {Wd : S → va_W} {A A0 : Nat → Prop} {r : Int32} {u : S} {H0 : Heap} {w2 : va_W} (hr : va_Run p l e R s m args below meth c H locs cells slots 0 0 (F0 m pc ls st0) rest (QI D Wd A r u a) A) (hS : va_S A0 H0 H locs) (hA : ∀ q, A q → A0 q) (h2 : va_P D vwCl w2 H) (hd : ∀ (k : Nat) (q : Nat × va_E), w2[k]? = some q → ¬ A q.1)
    (kk : ∀ (H1 : Heap) (locs1 : List Loc), va_P D vwCl (Wd u) H1 → va_P D vwCl w2 H1 → va_S A0 H0 H1 locs1 → W p l e R s m args below meth c H1 locs1 cells slots Q (F0 m (pc + 3) ls (.int r :: rest))) : W p l e R s m args below meth c H locs cells slots Q (F0 m pc ls st0) := by
  refine va_calli hr hS (fun q _ h => hA q h) hA (fun r' u' t H1 locs1 ht hvm hw hB hz hk hS1 => ?_)
  obtain ⟨rfl, rfl⟩ := hw
  rw [ht] at hB
  exact kk H1 locs1 hB (h2.kept (fun k q hq => hk q.1 (h2 k q hq).lt (hd k q hq))) hS1
def apartCM (ad am : Nat → Nat) : Prop := ∀ i j : Nat, i < 48 → j < 22 → ad i ≠ am j
theorem mw_off {ad am : Nat → Nat} (h : apartCM ad am) {cI cB cZ : ClassId} {τ : Int64} {σ : Sg} : ∀ (k : Nat) (q : Nat × va_E), (MW cI cB cZ am τ σ)[k]? = some q → ¬ cwA ad q.1 := by
  rintro k q hq ⟨i, hi, e⟩
  obtain ⟨h1, h2⟩ := mw_k k q hq
  exact h i k hi h1 (by rw [← e, h2])
theorem cw_off {ad am : Nat → Nat} (h : apartCM ad am) {cI : ClassId} {τ : Int64} {σ : Sg} : ∀ (k : Nat) (q : Nat × va_E), (CW cI ad τ σ)[k]? = some q → ¬ mwA am q.1 := by
  rintro k q hq ⟨i, hi, e⟩
  obtain ⟨h1, h2⟩ := cw_k k q hq
  exact h k i h1 hi (by rw [← e, h2])
theorem cmp_self (x : Int64) : lg_cmp x x = 0 := by
  unfold lg_cmp
  rw [if_neg (show ¬ x > x from Int64.lt_irrefl), if_pos rfl]
theorem law_more {i L : Nat} (hL : L ≤ 2560) (hi : i ≤ L + 4) (h : ¬ nI L - 5 < nI i) : i + 5 ≤ L := by
  rw [show (5 : Int32) = nI 5 from rfl, Int32.lt_iff_toInt_lt, Int32.toInt_sub, nI_toInt (by omega), nI_toInt (by omega), nI_toInt (by omega), Int.bmod_eq_of_le (by omega) (by omega)] at h
  omega
set_option maxHeartbeats 40000000 in
set_option maxRecDepth 100000 in
theorem law_loop {p : Program} {l : Launch} {e : Env} {s : State} {m : MethodId} {below : List Frame} {meth : Method} {c : Code} {D : va_G} {cI cB cZ : ClassId} {ad am : Nat → Nat} {tA tL b L : Nat} {xs : Nat → Int32} (hL : L ≤ 2560) (C0 : lw_At p s m meth c b L xs) (E : EQall) (hK : va_K D vwCl (tysA cI cB cZ) s) (hapc : cwX ad) (hapm : mwX am) (hdis : apartCM ad am) (hCA : ∀ q, cwA ad q → s.heap.size ≤ q) (hMA : ∀ q, mwA am q → s.heap.size ≤ q) (hZ : SZ0 tA tL s) :
    ∀ (n i : Nat), i ≤ L + 4 → L + 5 ≤ i + n → ∀ (v : Vw) (σ μ : Sg) (τ : Int64), Inv v → Rc σ v → Rm μ v → ∀ (H : Heap) (locs : List Loc), va_P D vwCl (CW cI ad τ σ) H → va_P D vwCl (MW cI cB cZ am τ μ) H → va_S (fun q : Nat => s.heap.size ≤ q) s.heap H locs → ∀ (ls : Array Slot), lv_has ls 4 [(0, .ref b), (1, .ref (ad 0)), (2, .ref (am 0)), (3, .int (nI i))] → W p l e room_1 s m #[Value.ref b] below meth c H locs 70 13239 (lw_Z below #[Value.ref b] s) (F0 m 18 ls []) := by
  obtain ⟨hx, hb, hr, hml, hown, hts, hX, hbl, hlocks, hgv⟩ := id C0
  have hN := law_NW hts
  have htsL : ∀ w ∈ wsL_law, w.before #[Value.ref b] s = true := fun w h => hts w (wsL_law_in w h)
  have hownL : s.vm.findClass RL = some m.cls := hown
  have hbL : c.code = cL_law := hb
  have S0 : CallFix p m c cL_law 4 s #[Value.ref b] wsL_law RL := ⟨hx, hbL, hml, hownL, htsL⟩
  have hbA : ¬ (fun q : Nat => s.heap.size ≤ q) b := Nat.not_le.mpr hbl
  obtain ⟨E_type, E_clear, E_town, E_cell, E_raft, E_anchor, E_storms, E_pays, E_dies, E_wills, E_year, E_hauls, E_undo, E_now, E_needs, E_after, E_wreck, E_place, E_vital, E_odds, E_hears, E_forget, E_fits, E_ask, E_mark, E_keep, E_back, E_count⟩ := E
  intro n
  induction n with
  | zero => intro i h1 h2; omega
  | succ n ih =>
    intro i hi hin v σ μ τ hI hRc hRm H locs hPc hPm hS ls hl
    refine lv_iload_n hx hbL dL_law_18 rfl (lv_at hl 3 rfl) ?_
    refine lv_aload_n hx hbL dL_law_19 rfl (lv_at hl 0 rfl) ?_
    refine va_slen hx hbL hX hbl hbA hS dL_law_20 ?_
    refine lv_iconst (v := 5) hx hbL dL_law_21 (by decide) ?_
    refine lv_isub hx hbL dL_law_22 ?_
    refine lv_icmp_gt (tgt := 958) hx hbL dL_law_23 (by decide) (fun c23 => ?_) (fun c23 => ?_)
    · refine lv_iconst (v := 1) hx hbL dL_law_958 (by decide) ?_
      refine va_forget (fun q hq => hS.2.2 q hq) ?_
      refine W.widen (k := 600000) (n := 7302249) (Nat.le_of_ble_eq_true rfl) (Nat.le_of_ble_eq_true rfl) ?_
      exact lw_ret hx hb hr hlocks dL_law_959
    have hlt : i + 5 ≤ L := law_more hL hi c23
    have h_0 : vp_in (nI i) L := vp_in_nI (by omega) (by omega)
    have h_1 : vp_in (nI i + 1) L := by rw [show nI i + 1 = nI (i + 1) from nI_add i 1]; exact vp_in_nI (by omega) (by omega)
    have h_2 : vp_in (nI i + 2) L := by rw [show nI i + 2 = nI (i + 2) from nI_add i 2]; exact vp_in_nI (by omega) (by omega)
    have h_3 : vp_in (nI i + 3) L := by rw [show nI i + 3 = nI (i + 3) from nI_add i 3]; exact vp_in_nI (by omega) (by omega)
    have h_4 : vp_in (nI i + 4) L := by rw [show nI i + 4 = nI (i + 4) from nI_add i 4]; exact vp_in_nI (by omega) (by omega)
    refine lv_aload_n hx hbL dL_law_26 rfl (lv_at hl 0 rfl) ?_
    refine lv_iload_n hx hbL dL_law_27 rfl (lv_at hl 3 rfl) ?_
    refine va_sld hx hbL hX hbl hbA hS h_0 dL_law_28 ?_
    obtain ⟨a0, ha0⟩ : ∃ y, xs (nI i).toNatClampNeg = y := ⟨_, rfl⟩
    obtain ⟨a1, ha1⟩ : ∃ y, xs (nI i + 1).toNatClampNeg = y := ⟨_, rfl⟩
    obtain ⟨a2, ha2⟩ : ∃ y, xs (nI i + 2).toNatClampNeg = y := ⟨_, rfl⟩
    obtain ⟨a3, ha3⟩ : ∃ y, xs (nI i + 3).toNatClampNeg = y := ⟨_, rfl⟩
    obtain ⟨a4, ha4⟩ : ∃ y, xs (nI i + 4).toNatClampNeg = y := ⟨_, rfl⟩
    refine lv_nmi ha0 ?_
    refine lv_bipush (v := 31) hx hbL dL_law_29 (by decide) ?_
    refine lv_iand hx hbL dL_law_31 ?_
    obtain ⟨w, hw⟩ : ∃ y, (a0 &&& 31) = y := ⟨_, rfl⟩
    refine lv_nmi hw ?_
    have go : ∀ (v : Vw) (σ μ : Sg) (τ : Int64), Inv v → Rc σ v → Rm μ v → ∀ (H : Heap) (locs : List Loc), va_P D vwCl (CW cI ad τ σ) H → va_P D vwCl (MW cI cB cZ am τ μ) H → va_S (fun q : Nat => s.heap.size ≤ q) s.heap H locs → W p l e room_1 s m #[Value.ref b] below meth c H locs 70 13239 (lw_Z below #[Value.ref b] s) (F0 m 952 ls []) := by
      intro v σ μ τ hI hRc hRm H locs hPc hPm hS
      refine lv_iinc (v := nI (i + 5)) (lv' := [(3, .int (nI (i + 5))), (0, .ref b), (1, .ref (ad 0)), (2, .ref (am 0))]) hx hbL dL_law_952 hl (k := 3) rfl (nI_add i 5) (by decide) rfl (fun ls hl => ?_)
      refine lv_goto (tgt := 18) hx hbL dL_law_955 (by decide) ?_
      exact ih (i + 5) (by omega) (by omega) v σ μ τ hI hRc hRm H locs hPc hPm hS ls (lv_sub hl [1, 2, 3, 0] rfl)
    by_cases c32_0 : w = 0
    · refine lv_tableIn (tgt := 164) hx hbL dL_law_32 (by rw [c32_0] <;> decide) (by rw [c32_0] <;> decide) (by rw [c32_0] <;> rfl) (by decide) ?_
      obtain ⟨o, o2, v2, h1, h2, h3, hI2, hRc2, hRm2⟩ := E_type v σ μ a1 hI hRc hRm
      refine lv_aload_n hx hbL dL_law_164 rfl (lv_at hl 1 rfl) ?_
      refine lv_aload_n hx hbL dL_law_165 rfl (lv_at hl 0 rfl) ?_
      refine lv_iload_n hx hbL dL_law_166 rfl (lv_at hl 3 rfl) ?_
      refine lv_iconst (v := 1) hx hbL dL_law_167 (by decide) ?_
      refine lv_iadd hx hbL dL_law_168 ?_
      refine va_sld hx hbL hX hbl hbA hS h_1 dL_law_169 ?_
      refine lv_nmi ha1 ?_
      refine wr_calli2 (va_runV (As := [.int a1]) (rest := []) S0 (kX10_type l (D := D) (cI := cI) (cB := cB) (cZ := cZ) (τ := τ) hapc σ a1 _ h1) (cwV 1 htsL gL_law_X10_type rfl rfl rfl (by decide +kernel) ⟨Nat.le_of_ble_eq_true rfl, Nat.le_of_ble_eq_true rfl⟩) ⟨PW.blind, cw_r0 hK hPc, PW.mk hPc hK hN⟩ rfl rfl hl.1 rfl (lv_room (Nat.le_of_ble_eq_true rfl)) dL_law_170 ⟨Nat.le_of_ble_eq_true rfl, Nat.le_of_ble_eq_true rfl⟩) hS hCA hPm (mw_off hdis) (fun H locs hPc hPm hS => ?_)
      have hPc : va_P D vwCl (CW cI ad τ o.2) H := hPc
      refine lv_aload_n hx hbL dL_law_173 rfl (lv_at hl 2 rfl) ?_
      refine lv_aload_n hx hbL dL_law_174 rfl (lv_at hl 0 rfl) ?_
      refine lv_iload_n hx hbL dL_law_175 rfl (lv_at hl 3 rfl) ?_
      refine lv_iconst (v := 1) hx hbL dL_law_176 (by decide) ?_
      refine lv_iadd hx hbL dL_law_177 ?_
      refine va_sld hx hbL hX hbl hbA hS h_1 dL_law_178 ?_
      refine lv_nmi ha1 ?_
      refine wr_calli2 (va_runV (As := [.int a1]) (rest := [.int o.1]) S0 (kX11_type l (D := D) (cI := cI) (cB := cB) (cZ := cZ) (τ := τ) hapm μ a1 _ h2) (cwV 1 htsL gL_law_X11_type rfl rfl rfl (by decide +kernel) ⟨Nat.le_of_ble_eq_true rfl, Nat.le_of_ble_eq_true rfl⟩) ⟨PW.blind, mw_r0 hK hPm, PW.mk hPm hK hN⟩ rfl rfl hl.1 rfl (lv_room (Nat.le_of_ble_eq_true rfl)) dL_law_179 ⟨Nat.le_of_ble_eq_true rfl, Nat.le_of_ble_eq_true rfl⟩) hS hMA hPc (cw_off hdis) (fun H locs hPm hPc hS => ?_)
      have hPm : va_P D vwCl (MW cI cB cZ am τ o2.2) H := hPm
      refine lv_icmp_eq (tgt := 952) hx hbL dL_law_182 (by decide) (fun _ => ?_) (fun c9 => absurd h3 c9)
      exact go v2 o.2 o2.2 τ hI2 hRc2 hRm2 H locs hPc hPm hS
    by_cases c32_1 : w = 1
    · refine lv_tableIn (tgt := 187) hx hbL dL_law_32 (by rw [c32_1] <;> decide) (by rw [c32_1] <;> decide) (by rw [c32_1] <;> rfl) (by decide) ?_
      obtain ⟨o, o2, v2, h1, h2, h3, hI2, hRc2, hRm2⟩ := E_clear v σ μ  hI hRc hRm
      refine lv_aload_n hx hbL dL_law_187 rfl (lv_at hl 1 rfl) ?_
      refine wr_calli2 (va_runV (As := []) (rest := []) S0 (kX10_clear l (D := D) (cI := cI) (cB := cB) (cZ := cZ) (τ := τ) hapc σ  _ h1) (cwV 0 htsL gL_law_X10_clear rfl rfl rfl (by decide +kernel) ⟨Nat.le_of_ble_eq_true rfl, Nat.le_of_ble_eq_true rfl⟩) ⟨PW.blind, cw_r0 hK hPc, PW.mk hPc hK hN⟩ rfl rfl hl.1 rfl (lv_room (Nat.le_of_ble_eq_true rfl)) dL_law_188 ⟨Nat.le_of_ble_eq_true rfl, Nat.le_of_ble_eq_true rfl⟩) hS hCA hPm (mw_off hdis) (fun H locs hPc hPm hS => ?_)
      have hPc : va_P D vwCl (CW cI ad τ o.2) H := hPc
      refine lv_aload_n hx hbL dL_law_191 rfl (lv_at hl 2 rfl) ?_
      refine wr_calli2 (va_runV (As := []) (rest := [.int o.1]) S0 (kX11_clear l (D := D) (cI := cI) (cB := cB) (cZ := cZ) (τ := τ) hapm μ  _ h2) (cwV 0 htsL gL_law_X11_clear rfl rfl rfl (by decide +kernel) ⟨Nat.le_of_ble_eq_true rfl, Nat.le_of_ble_eq_true rfl⟩) ⟨PW.blind, mw_r0 hK hPm, PW.mk hPm hK hN⟩ rfl rfl hl.1 rfl (lv_room (Nat.le_of_ble_eq_true rfl)) dL_law_192 ⟨Nat.le_of_ble_eq_true rfl, Nat.le_of_ble_eq_true rfl⟩) hS hMA hPc (cw_off hdis) (fun H locs hPm hPc hS => ?_)
      have hPm : va_P D vwCl (MW cI cB cZ am τ o2.2) H := hPm
      refine lv_icmp_eq (tgt := 952) hx hbL dL_law_195 (by decide) (fun _ => ?_) (fun c9 => absurd h3 c9)
      exact go v2 o.2 o2.2 τ hI2 hRc2 hRm2 H locs hPc hPm hS
    by_cases c32_2 : w = 2
    · refine lv_tableIn (tgt := 200) hx hbL dL_law_32 (by rw [c32_2] <;> decide) (by rw [c32_2] <;> decide) (by rw [c32_2] <;> rfl) (by decide) ?_
      obtain ⟨o, o2, v2, h1, h2, h3, hI2, hRc2, hRm2⟩ := E_town v σ μ  hI hRc hRm
      refine lv_aload_n hx hbL dL_law_200 rfl (lv_at hl 1 rfl) ?_
      refine wr_calli2 (va_runV (As := []) (rest := []) S0 (kX10_town l (D := D) (cI := cI) (cB := cB) (cZ := cZ) (τ := τ) hapc σ  _ h1) (cwV 0 htsL gL_law_X10_town rfl rfl rfl (by decide +kernel) ⟨Nat.le_of_ble_eq_true rfl, Nat.le_of_ble_eq_true rfl⟩) ⟨PW.blind, cw_r0 hK hPc, PW.mk hPc hK hN⟩ rfl rfl hl.1 rfl (lv_room (Nat.le_of_ble_eq_true rfl)) dL_law_201 ⟨Nat.le_of_ble_eq_true rfl, Nat.le_of_ble_eq_true rfl⟩) hS hCA hPm (mw_off hdis) (fun H locs hPc hPm hS => ?_)
      have hPc : va_P D vwCl (CW cI ad τ o.2) H := hPc
      refine lv_aload_n hx hbL dL_law_204 rfl (lv_at hl 2 rfl) ?_
      refine wr_calli2 (va_runV (As := []) (rest := [.int o.1]) S0 (kX11_town l (D := D) (cI := cI) (cB := cB) (cZ := cZ) (τ := τ) hapm μ  _ h2) (cwV 0 htsL gL_law_X11_town rfl rfl rfl (by decide +kernel) ⟨Nat.le_of_ble_eq_true rfl, Nat.le_of_ble_eq_true rfl⟩) ⟨PW.blind, mw_r0 hK hPm, PW.mk hPm hK hN⟩ rfl rfl hl.1 rfl (lv_room (Nat.le_of_ble_eq_true rfl)) dL_law_205 ⟨Nat.le_of_ble_eq_true rfl, Nat.le_of_ble_eq_true rfl⟩) hS hMA hPc (cw_off hdis) (fun H locs hPm hPc hS => ?_)
      have hPm : va_P D vwCl (MW cI cB cZ am τ o2.2) H := hPm
      refine lv_icmp_eq (tgt := 952) hx hbL dL_law_208 (by decide) (fun _ => ?_) (fun c9 => absurd h3 c9)
      exact go v2 o.2 o2.2 τ hI2 hRc2 hRm2 H locs hPc hPm hS
    by_cases c32_3 : w = 3
    · refine lv_tableIn (tgt := 213) hx hbL dL_law_32 (by rw [c32_3] <;> decide) (by rw [c32_3] <;> decide) (by rw [c32_3] <;> rfl) (by decide) ?_
      obtain ⟨o, o2, h1, h2, h3⟩ := E_cell v σ μ a1 a2 hI hRc hRm
      refine lv_aload_n hx hbL dL_law_213 rfl (lv_at hl 1 rfl) ?_
      refine lv_aload_n hx hbL dL_law_214 rfl (lv_at hl 0 rfl) ?_
      refine lv_iload_n hx hbL dL_law_215 rfl (lv_at hl 3 rfl) ?_
      refine lv_iconst (v := 1) hx hbL dL_law_216 (by decide) ?_
      refine lv_iadd hx hbL dL_law_217 ?_
      refine va_sld hx hbL hX hbl hbA hS h_1 dL_law_218 ?_
      refine lv_nmi ha1 ?_
      refine lv_aload_n hx hbL dL_law_219 rfl (lv_at hl 0 rfl) ?_
      refine lv_iload_n hx hbL dL_law_220 rfl (lv_at hl 3 rfl) ?_
      refine lv_iconst (v := 2) hx hbL dL_law_221 (by decide) ?_
      refine lv_iadd hx hbL dL_law_222 ?_
      refine va_sld hx hbL hX hbl hbA hS h_2 dL_law_223 ?_
      refine lv_nmi ha2 ?_
      refine rd_calli (va_runV (As := [.int a1, .int a2]) (rest := []) S0 (kX10_cell l (D := D) (cI := cI) (cB := cB) (cZ := cZ) (ad := ad) (τ := τ) σ a1 a2 _ h1) (cwV 2 htsL gL_law_X10_cell rfl rfl rfl (by decide +kernel) ⟨Nat.le_of_ble_eq_true rfl, Nat.le_of_ble_eq_true rfl⟩) ⟨PW.blind, cw_r0 hK hPc, PW.mk hPc hK hN⟩ rfl rfl hl.1 rfl (lv_room (Nat.le_of_ble_eq_true rfl)) dL_law_224 ⟨Nat.le_of_ble_eq_true rfl, Nat.le_of_ble_eq_true rfl⟩) ?_
      refine lv_aload_n hx hbL dL_law_227 rfl (lv_at hl 2 rfl) ?_
      refine lv_aload_n hx hbL dL_law_228 rfl (lv_at hl 0 rfl) ?_
      refine lv_iload_n hx hbL dL_law_229 rfl (lv_at hl 3 rfl) ?_
      refine lv_iconst (v := 1) hx hbL dL_law_230 (by decide) ?_
      refine lv_iadd hx hbL dL_law_231 ?_
      refine va_sld hx hbL hX hbl hbA hS h_1 dL_law_232 ?_
      refine lv_nmi ha1 ?_
      refine lv_aload_n hx hbL dL_law_233 rfl (lv_at hl 0 rfl) ?_
      refine lv_iload_n hx hbL dL_law_234 rfl (lv_at hl 3 rfl) ?_
      refine lv_iconst (v := 2) hx hbL dL_law_235 (by decide) ?_
      refine lv_iadd hx hbL dL_law_236 ?_
      refine va_sld hx hbL hX hbl hbA hS h_2 dL_law_237 ?_
      refine lv_nmi ha2 ?_
      refine rd_calli (va_runV (As := [.int a1, .int a2]) (rest := [.int o]) S0 (kX11_cell l (D := D) (cI := cI) (cB := cB) (cZ := cZ) (am := am) (τ := τ) μ a1 a2 _ h2) (cwV 2 htsL gL_law_X11_cell rfl rfl rfl (by decide +kernel) ⟨Nat.le_of_ble_eq_true rfl, Nat.le_of_ble_eq_true rfl⟩) ⟨PW.blind, mw_r0 hK hPm, PW.mk hPm hK hN⟩ rfl rfl hl.1 rfl (lv_room (Nat.le_of_ble_eq_true rfl)) dL_law_238 ⟨Nat.le_of_ble_eq_true rfl, Nat.le_of_ble_eq_true rfl⟩) ?_
      refine lv_icmp_eq (tgt := 952) hx hbL dL_law_241 (by decide) (fun _ => ?_) (fun c9 => absurd h3 c9)
      exact go v σ μ τ hI hRc hRm H locs hPc hPm hS
    by_cases c32_4 : w = 4
    · refine lv_tableIn (tgt := 246) hx hbL dL_law_32 (by rw [c32_4] <;> decide) (by rw [c32_4] <;> decide) (by rw [c32_4] <;> rfl) (by decide) ?_
      obtain ⟨o, o2, h1, h2, h3⟩ := E_raft v σ μ a1 a2 hI hRc hRm
      refine lv_aload_n hx hbL dL_law_246 rfl (lv_at hl 1 rfl) ?_
      refine lv_aload_n hx hbL dL_law_247 rfl (lv_at hl 0 rfl) ?_
      refine lv_iload_n hx hbL dL_law_248 rfl (lv_at hl 3 rfl) ?_
      refine lv_iconst (v := 1) hx hbL dL_law_249 (by decide) ?_
      refine lv_iadd hx hbL dL_law_250 ?_
      refine va_sld hx hbL hX hbl hbA hS h_1 dL_law_251 ?_
      refine lv_nmi ha1 ?_
      refine lv_aload_n hx hbL dL_law_252 rfl (lv_at hl 0 rfl) ?_
      refine lv_iload_n hx hbL dL_law_253 rfl (lv_at hl 3 rfl) ?_
      refine lv_iconst (v := 2) hx hbL dL_law_254 (by decide) ?_
      refine lv_iadd hx hbL dL_law_255 ?_
      refine va_sld hx hbL hX hbl hbA hS h_2 dL_law_256 ?_
      refine lv_nmi ha2 ?_
      refine rd_calli (va_runV (As := [.int a1, .int a2]) (rest := []) S0 (kX10_raft l (D := D) (cI := cI) (cB := cB) (cZ := cZ) (ad := ad) (τ := τ) σ a1 a2 _ h1) (cwV 2 htsL gL_law_X10_raft rfl rfl rfl (by decide +kernel) ⟨Nat.le_of_ble_eq_true rfl, Nat.le_of_ble_eq_true rfl⟩) ⟨PW.blind, cw_r0 hK hPc, PW.mk hPc hK hN⟩ rfl rfl hl.1 rfl (lv_room (Nat.le_of_ble_eq_true rfl)) dL_law_257 ⟨Nat.le_of_ble_eq_true rfl, Nat.le_of_ble_eq_true rfl⟩) ?_
      refine lv_aload_n hx hbL dL_law_260 rfl (lv_at hl 2 rfl) ?_
      refine lv_aload_n hx hbL dL_law_261 rfl (lv_at hl 0 rfl) ?_
      refine lv_iload_n hx hbL dL_law_262 rfl (lv_at hl 3 rfl) ?_
      refine lv_iconst (v := 1) hx hbL dL_law_263 (by decide) ?_
      refine lv_iadd hx hbL dL_law_264 ?_
      refine va_sld hx hbL hX hbl hbA hS h_1 dL_law_265 ?_
      refine lv_nmi ha1 ?_
      refine lv_aload_n hx hbL dL_law_266 rfl (lv_at hl 0 rfl) ?_
      refine lv_iload_n hx hbL dL_law_267 rfl (lv_at hl 3 rfl) ?_
      refine lv_iconst (v := 2) hx hbL dL_law_268 (by decide) ?_
      refine lv_iadd hx hbL dL_law_269 ?_
      refine va_sld hx hbL hX hbl hbA hS h_2 dL_law_270 ?_
      refine lv_nmi ha2 ?_
      refine rd_calli (va_runV (As := [.int a1, .int a2]) (rest := [.int o]) S0 (kX11_raft l (D := D) (cI := cI) (cB := cB) (cZ := cZ) (am := am) (τ := τ) μ a1 a2 _ h2) (cwV 2 htsL gL_law_X11_raft rfl rfl rfl (by decide +kernel) ⟨Nat.le_of_ble_eq_true rfl, Nat.le_of_ble_eq_true rfl⟩) ⟨PW.blind, mw_r0 hK hPm, PW.mk hPm hK hN⟩ rfl rfl hl.1 rfl (lv_room (Nat.le_of_ble_eq_true rfl)) dL_law_271 ⟨Nat.le_of_ble_eq_true rfl, Nat.le_of_ble_eq_true rfl⟩) ?_
      refine lv_icmp_eq (tgt := 952) hx hbL dL_law_274 (by decide) (fun _ => ?_) (fun c9 => absurd h3 c9)
      exact go v σ μ τ hI hRc hRm H locs hPc hPm hS
    by_cases c32_5 : w = 5
    · refine lv_tableIn (tgt := 279) hx hbL dL_law_32 (by rw [c32_5] <;> decide) (by rw [c32_5] <;> decide) (by rw [c32_5] <;> rfl) (by decide) ?_
      obtain ⟨o, o2, v2, h1, h2, h3, hI2, hRc2, hRm2⟩ := E_anchor v σ μ a1 a2 hI hRc hRm
      refine lv_aload_n hx hbL dL_law_279 rfl (lv_at hl 1 rfl) ?_
      refine lv_aload_n hx hbL dL_law_280 rfl (lv_at hl 0 rfl) ?_
      refine lv_iload_n hx hbL dL_law_281 rfl (lv_at hl 3 rfl) ?_
      refine lv_iconst (v := 1) hx hbL dL_law_282 (by decide) ?_
      refine lv_iadd hx hbL dL_law_283 ?_
      refine va_sld hx hbL hX hbl hbA hS h_1 dL_law_284 ?_
      refine lv_nmi ha1 ?_
      refine lv_aload_n hx hbL dL_law_285 rfl (lv_at hl 0 rfl) ?_
      refine lv_iload_n hx hbL dL_law_286 rfl (lv_at hl 3 rfl) ?_
      refine lv_iconst (v := 2) hx hbL dL_law_287 (by decide) ?_
      refine lv_iadd hx hbL dL_law_288 ?_
      refine va_sld hx hbL hX hbl hbA hS h_2 dL_law_289 ?_
      refine lv_nmi ha2 ?_
      refine wr_calli2 (va_runV (As := [.int a1, .int a2]) (rest := []) S0 (kX10_anchor l (D := D) (cI := cI) (cB := cB) (cZ := cZ) (τ := τ) hapc σ a1 a2 _ h1) (cwV 2 htsL gL_law_X10_anchor rfl rfl rfl (by decide +kernel) ⟨Nat.le_of_ble_eq_true rfl, Nat.le_of_ble_eq_true rfl⟩) ⟨PW.blind, cw_r0 hK hPc, PW.mk hPc hK hN⟩ rfl rfl hl.1 rfl (lv_room (Nat.le_of_ble_eq_true rfl)) dL_law_290 ⟨Nat.le_of_ble_eq_true rfl, Nat.le_of_ble_eq_true rfl⟩) hS hCA hPm (mw_off hdis) (fun H locs hPc hPm hS => ?_)
      have hPc : va_P D vwCl (CW cI ad τ o.2) H := hPc
      refine lv_aload_n hx hbL dL_law_293 rfl (lv_at hl 2 rfl) ?_
      refine lv_aload_n hx hbL dL_law_294 rfl (lv_at hl 0 rfl) ?_
      refine lv_iload_n hx hbL dL_law_295 rfl (lv_at hl 3 rfl) ?_
      refine lv_iconst (v := 1) hx hbL dL_law_296 (by decide) ?_
      refine lv_iadd hx hbL dL_law_297 ?_
      refine va_sld hx hbL hX hbl hbA hS h_1 dL_law_298 ?_
      refine lv_nmi ha1 ?_
      refine lv_aload_n hx hbL dL_law_299 rfl (lv_at hl 0 rfl) ?_
      refine lv_iload_n hx hbL dL_law_300 rfl (lv_at hl 3 rfl) ?_
      refine lv_iconst (v := 2) hx hbL dL_law_301 (by decide) ?_
      refine lv_iadd hx hbL dL_law_302 ?_
      refine va_sld hx hbL hX hbl hbA hS h_2 dL_law_303 ?_
      refine lv_nmi ha2 ?_
      refine rd_calli (va_runV (As := [.int a1, .int a2]) (rest := [.int o.1]) S0 (kX11_anchor l (D := D) (cI := cI) (cB := cB) (cZ := cZ) (am := am) (τ := τ) μ a1 a2 _ h2) (cwV 2 htsL gL_law_X11_anchor rfl rfl rfl (by decide +kernel) ⟨Nat.le_of_ble_eq_true rfl, Nat.le_of_ble_eq_true rfl⟩) ⟨PW.blind, mw_r0 hK hPm, PW.mk hPm hK hN⟩ rfl rfl hl.1 rfl (lv_room (Nat.le_of_ble_eq_true rfl)) dL_law_304 ⟨Nat.le_of_ble_eq_true rfl, Nat.le_of_ble_eq_true rfl⟩) ?_
      refine lv_icmp_eq (tgt := 952) hx hbL dL_law_307 (by decide) (fun _ => ?_) (fun c9 => absurd h3 c9)
      exact go v2 o.2 μ τ hI2 hRc2 hRm2 H locs hPc hPm hS
    by_cases c32_6 : w = 6
    · refine lv_tableIn (tgt := 312) hx hbL dL_law_32 (by rw [c32_6] <;> decide) (by rw [c32_6] <;> decide) (by rw [c32_6] <;> rfl) (by decide) ?_
      obtain ⟨o, o2, v2, h1, h2, h3, hI2, hRc2, hRm2⟩ := E_storms v σ μ a1 a2 hI hRc hRm
      refine lv_aload_n hx hbL dL_law_312 rfl (lv_at hl 1 rfl) ?_
      refine lv_aload_n hx hbL dL_law_313 rfl (lv_at hl 0 rfl) ?_
      refine lv_iload_n hx hbL dL_law_314 rfl (lv_at hl 3 rfl) ?_
      refine lv_iconst (v := 1) hx hbL dL_law_315 (by decide) ?_
      refine lv_iadd hx hbL dL_law_316 ?_
      refine va_sld hx hbL hX hbl hbA hS h_1 dL_law_317 ?_
      refine lv_nmi ha1 ?_
      refine lv_aload_n hx hbL dL_law_318 rfl (lv_at hl 0 rfl) ?_
      refine lv_iload_n hx hbL dL_law_319 rfl (lv_at hl 3 rfl) ?_
      refine lv_iconst (v := 2) hx hbL dL_law_320 (by decide) ?_
      refine lv_iadd hx hbL dL_law_321 ?_
      refine va_sld hx hbL hX hbl hbA hS h_2 dL_law_322 ?_
      refine lv_nmi ha2 ?_
      refine wr_calli2 (va_runV (As := [.int a1, .int a2]) (rest := []) S0 (kX10_storms l (D := D) (cI := cI) (cB := cB) (cZ := cZ) (τ := τ) hapc σ a1 a2 _ h1) (cwV 2 htsL gL_law_X10_storms rfl rfl rfl (by decide +kernel) ⟨Nat.le_of_ble_eq_true rfl, Nat.le_of_ble_eq_true rfl⟩) ⟨PW.blind, cw_r0 hK hPc, PW.mk hPc hK hN⟩ rfl rfl hl.1 rfl (lv_room (Nat.le_of_ble_eq_true rfl)) dL_law_323 ⟨Nat.le_of_ble_eq_true rfl, Nat.le_of_ble_eq_true rfl⟩) hS hCA hPm (mw_off hdis) (fun H locs hPc hPm hS => ?_)
      have hPc : va_P D vwCl (CW cI ad τ o.2) H := hPc
      refine lv_aload_n hx hbL dL_law_326 rfl (lv_at hl 2 rfl) ?_
      refine lv_aload_n hx hbL dL_law_327 rfl (lv_at hl 0 rfl) ?_
      refine lv_iload_n hx hbL dL_law_328 rfl (lv_at hl 3 rfl) ?_
      refine lv_iconst (v := 1) hx hbL dL_law_329 (by decide) ?_
      refine lv_iadd hx hbL dL_law_330 ?_
      refine va_sld hx hbL hX hbl hbA hS h_1 dL_law_331 ?_
      refine lv_nmi ha1 ?_
      refine lv_aload_n hx hbL dL_law_332 rfl (lv_at hl 0 rfl) ?_
      refine lv_iload_n hx hbL dL_law_333 rfl (lv_at hl 3 rfl) ?_
      refine lv_iconst (v := 2) hx hbL dL_law_334 (by decide) ?_
      refine lv_iadd hx hbL dL_law_335 ?_
      refine va_sld hx hbL hX hbl hbA hS h_2 dL_law_336 ?_
      refine lv_nmi ha2 ?_
      refine wr_calli2 (va_runV (As := [.int a1, .int a2]) (rest := [.int o.1]) S0 (kX11_storms l (D := D) (cI := cI) (cB := cB) (cZ := cZ) (τ := τ) hapm μ a1 a2 _ h2) (cwV 2 htsL gL_law_X11_storms rfl rfl rfl (by decide +kernel) ⟨Nat.le_of_ble_eq_true rfl, Nat.le_of_ble_eq_true rfl⟩) ⟨PW.blind, mw_r0 hK hPm, PW.mk hPm hK hN⟩ rfl rfl hl.1 rfl (lv_room (Nat.le_of_ble_eq_true rfl)) dL_law_337 ⟨Nat.le_of_ble_eq_true rfl, Nat.le_of_ble_eq_true rfl⟩) hS hMA hPc (cw_off hdis) (fun H locs hPm hPc hS => ?_)
      have hPm : va_P D vwCl (MW cI cB cZ am τ o2.2) H := hPm
      refine lv_icmp_eq (tgt := 952) hx hbL dL_law_340 (by decide) (fun _ => ?_) (fun c9 => absurd h3 c9)
      exact go v2 o.2 o2.2 τ hI2 hRc2 hRm2 H locs hPc hPm hS
    by_cases c32_7 : w = 7
    · refine lv_tableIn (tgt := 345) hx hbL dL_law_32 (by rw [c32_7] <;> decide) (by rw [c32_7] <;> decide) (by rw [c32_7] <;> rfl) (by decide) ?_
      obtain ⟨o, o2, v2, h1, h2, h3, hI2, hRc2, hRm2⟩ := E_pays v σ μ a1 a2 hI hRc hRm
      refine lv_aload_n hx hbL dL_law_345 rfl (lv_at hl 1 rfl) ?_
      refine lv_aload_n hx hbL dL_law_346 rfl (lv_at hl 0 rfl) ?_
      refine lv_iload_n hx hbL dL_law_347 rfl (lv_at hl 3 rfl) ?_
      refine lv_iconst (v := 1) hx hbL dL_law_348 (by decide) ?_
      refine lv_iadd hx hbL dL_law_349 ?_
      refine va_sld hx hbL hX hbl hbA hS h_1 dL_law_350 ?_
      refine lv_nmi ha1 ?_
      refine lv_aload_n hx hbL dL_law_351 rfl (lv_at hl 0 rfl) ?_
      refine lv_iload_n hx hbL dL_law_352 rfl (lv_at hl 3 rfl) ?_
      refine lv_iconst (v := 2) hx hbL dL_law_353 (by decide) ?_
      refine lv_iadd hx hbL dL_law_354 ?_
      refine va_sld hx hbL hX hbl hbA hS h_2 dL_law_355 ?_
      refine lv_nmi ha2 ?_
      refine wr_calli2 (va_runV (As := [.int a1, .int a2]) (rest := []) S0 (kX10_pays l (D := D) (cI := cI) (cB := cB) (cZ := cZ) (τ := τ) hapc σ a1 a2 _ h1) (cwV 2 htsL gL_law_X10_pays rfl rfl rfl (by decide +kernel) ⟨Nat.le_of_ble_eq_true rfl, Nat.le_of_ble_eq_true rfl⟩) ⟨PW.blind, cw_r0 hK hPc, PW.mk hPc hK hN⟩ rfl rfl hl.1 rfl (lv_room (Nat.le_of_ble_eq_true rfl)) dL_law_356 ⟨Nat.le_of_ble_eq_true rfl, Nat.le_of_ble_eq_true rfl⟩) hS hCA hPm (mw_off hdis) (fun H locs hPc hPm hS => ?_)
      have hPc : va_P D vwCl (CW cI ad τ o.2) H := hPc
      refine lv_aload_n hx hbL dL_law_359 rfl (lv_at hl 2 rfl) ?_
      refine lv_aload_n hx hbL dL_law_360 rfl (lv_at hl 0 rfl) ?_
      refine lv_iload_n hx hbL dL_law_361 rfl (lv_at hl 3 rfl) ?_
      refine lv_iconst (v := 1) hx hbL dL_law_362 (by decide) ?_
      refine lv_iadd hx hbL dL_law_363 ?_
      refine va_sld hx hbL hX hbl hbA hS h_1 dL_law_364 ?_
      refine lv_nmi ha1 ?_
      refine lv_aload_n hx hbL dL_law_365 rfl (lv_at hl 0 rfl) ?_
      refine lv_iload_n hx hbL dL_law_366 rfl (lv_at hl 3 rfl) ?_
      refine lv_iconst (v := 2) hx hbL dL_law_367 (by decide) ?_
      refine lv_iadd hx hbL dL_law_368 ?_
      refine va_sld hx hbL hX hbl hbA hS h_2 dL_law_369 ?_
      refine lv_nmi ha2 ?_
      refine wr_calli2 (va_runV (As := [.int a1, .int a2]) (rest := [.int o.1]) S0 (kX11_pays l (D := D) (cI := cI) (cB := cB) (cZ := cZ) (τ := τ) hapm μ a1 a2 _ h2) (cwV 2 htsL gL_law_X11_pays rfl rfl rfl (by decide +kernel) ⟨Nat.le_of_ble_eq_true rfl, Nat.le_of_ble_eq_true rfl⟩) ⟨PW.blind, mw_r0 hK hPm, PW.mk hPm hK hN⟩ rfl rfl hl.1 rfl (lv_room (Nat.le_of_ble_eq_true rfl)) dL_law_370 ⟨Nat.le_of_ble_eq_true rfl, Nat.le_of_ble_eq_true rfl⟩) hS hMA hPc (cw_off hdis) (fun H locs hPm hPc hS => ?_)
      have hPm : va_P D vwCl (MW cI cB cZ am τ o2.2) H := hPm
      refine lv_icmp_eq (tgt := 952) hx hbL dL_law_373 (by decide) (fun _ => ?_) (fun c9 => absurd h3 c9)
      exact go v2 o.2 o2.2 τ hI2 hRc2 hRm2 H locs hPc hPm hS
    by_cases c32_8 : w = 8
    · refine lv_tableIn (tgt := 378) hx hbL dL_law_32 (by rw [c32_8] <;> decide) (by rw [c32_8] <;> decide) (by rw [c32_8] <;> rfl) (by decide) ?_
      obtain ⟨o, o2, v2, h1, h2, h3, hI2, hRc2, hRm2⟩ := E_dies v σ μ a1 hI hRc hRm
      refine lv_aload_n hx hbL dL_law_378 rfl (lv_at hl 1 rfl) ?_
      refine lv_aload_n hx hbL dL_law_379 rfl (lv_at hl 0 rfl) ?_
      refine lv_iload_n hx hbL dL_law_380 rfl (lv_at hl 3 rfl) ?_
      refine lv_iconst (v := 1) hx hbL dL_law_381 (by decide) ?_
      refine lv_iadd hx hbL dL_law_382 ?_
      refine va_sld hx hbL hX hbl hbA hS h_1 dL_law_383 ?_
      refine lv_nmi ha1 ?_
      refine wr_calli2 (va_runV (As := [.int a1]) (rest := []) S0 (kX10_dies l (D := D) (cI := cI) (cB := cB) (cZ := cZ) (τ := τ) hapc σ a1 _ h1) (cwV 1 htsL gL_law_X10_dies rfl rfl rfl (by decide +kernel) ⟨Nat.le_of_ble_eq_true rfl, Nat.le_of_ble_eq_true rfl⟩) ⟨PW.blind, cw_r0 hK hPc, PW.mk hPc hK hN⟩ rfl rfl hl.1 rfl (lv_room (Nat.le_of_ble_eq_true rfl)) dL_law_384 ⟨Nat.le_of_ble_eq_true rfl, Nat.le_of_ble_eq_true rfl⟩) hS hCA hPm (mw_off hdis) (fun H locs hPc hPm hS => ?_)
      have hPc : va_P D vwCl (CW cI ad τ o.2) H := hPc
      refine lv_aload_n hx hbL dL_law_387 rfl (lv_at hl 2 rfl) ?_
      refine lv_aload_n hx hbL dL_law_388 rfl (lv_at hl 0 rfl) ?_
      refine lv_iload_n hx hbL dL_law_389 rfl (lv_at hl 3 rfl) ?_
      refine lv_iconst (v := 1) hx hbL dL_law_390 (by decide) ?_
      refine lv_iadd hx hbL dL_law_391 ?_
      refine va_sld hx hbL hX hbl hbA hS h_1 dL_law_392 ?_
      refine lv_nmi ha1 ?_
      refine wr_calli2 (va_runV (As := [.int a1]) (rest := [.int o.1]) S0 (kX11_dies l (D := D) (cI := cI) (cB := cB) (cZ := cZ) (τ := τ) hapm μ a1 _ h2) (cwV 1 htsL gL_law_X11_dies rfl rfl rfl (by decide +kernel) ⟨Nat.le_of_ble_eq_true rfl, Nat.le_of_ble_eq_true rfl⟩) ⟨PW.blind, mw_r0 hK hPm, PW.mk hPm hK hN⟩ rfl rfl hl.1 rfl (lv_room (Nat.le_of_ble_eq_true rfl)) dL_law_393 ⟨Nat.le_of_ble_eq_true rfl, Nat.le_of_ble_eq_true rfl⟩) hS hMA hPc (cw_off hdis) (fun H locs hPm hPc hS => ?_)
      have hPm : va_P D vwCl (MW cI cB cZ am τ o2.2) H := hPm
      refine lv_icmp_eq (tgt := 952) hx hbL dL_law_396 (by decide) (fun _ => ?_) (fun c9 => absurd h3 c9)
      exact go v2 o.2 o2.2 τ hI2 hRc2 hRm2 H locs hPc hPm hS
    by_cases c32_9 : w = 9
    · refine lv_tableIn (tgt := 401) hx hbL dL_law_32 (by rw [c32_9] <;> decide) (by rw [c32_9] <;> decide) (by rw [c32_9] <;> rfl) (by decide) ?_
      obtain ⟨o, o2, v2, h1, h2, h3, hI2, hRc2, hRm2⟩ := E_wills v σ μ a1 a2 hI hRc hRm
      refine lv_aload_n hx hbL dL_law_401 rfl (lv_at hl 1 rfl) ?_
      refine lv_aload_n hx hbL dL_law_402 rfl (lv_at hl 0 rfl) ?_
      refine lv_iload_n hx hbL dL_law_403 rfl (lv_at hl 3 rfl) ?_
      refine lv_iconst (v := 1) hx hbL dL_law_404 (by decide) ?_
      refine lv_iadd hx hbL dL_law_405 ?_
      refine va_sld hx hbL hX hbl hbA hS h_1 dL_law_406 ?_
      refine lv_nmi ha1 ?_
      refine lv_aload_n hx hbL dL_law_407 rfl (lv_at hl 0 rfl) ?_
      refine lv_iload_n hx hbL dL_law_408 rfl (lv_at hl 3 rfl) ?_
      refine lv_iconst (v := 2) hx hbL dL_law_409 (by decide) ?_
      refine lv_iadd hx hbL dL_law_410 ?_
      refine va_sld hx hbL hX hbl hbA hS h_2 dL_law_411 ?_
      refine lv_nmi ha2 ?_
      refine wr_calli2 (va_runV (As := [.int a1, .int a2]) (rest := []) S0 (kX10_wills l (D := D) (cI := cI) (cB := cB) (cZ := cZ) (τ := τ) hapc σ a1 a2 _ h1) (cwV 2 htsL gL_law_X10_wills rfl rfl rfl (by decide +kernel) ⟨Nat.le_of_ble_eq_true rfl, Nat.le_of_ble_eq_true rfl⟩) ⟨PW.blind, cw_r0 hK hPc, PW.mk hPc hK hN⟩ rfl rfl hl.1 rfl (lv_room (Nat.le_of_ble_eq_true rfl)) dL_law_412 ⟨Nat.le_of_ble_eq_true rfl, Nat.le_of_ble_eq_true rfl⟩) hS hCA hPm (mw_off hdis) (fun H locs hPc hPm hS => ?_)
      have hPc : va_P D vwCl (CW cI ad τ o.2) H := hPc
      refine lv_aload_n hx hbL dL_law_415 rfl (lv_at hl 2 rfl) ?_
      refine lv_aload_n hx hbL dL_law_416 rfl (lv_at hl 0 rfl) ?_
      refine lv_iload_n hx hbL dL_law_417 rfl (lv_at hl 3 rfl) ?_
      refine lv_iconst (v := 1) hx hbL dL_law_418 (by decide) ?_
      refine lv_iadd hx hbL dL_law_419 ?_
      refine va_sld hx hbL hX hbl hbA hS h_1 dL_law_420 ?_
      refine lv_nmi ha1 ?_
      refine lv_aload_n hx hbL dL_law_421 rfl (lv_at hl 0 rfl) ?_
      refine lv_iload_n hx hbL dL_law_422 rfl (lv_at hl 3 rfl) ?_
      refine lv_iconst (v := 2) hx hbL dL_law_423 (by decide) ?_
      refine lv_iadd hx hbL dL_law_424 ?_
      refine va_sld hx hbL hX hbl hbA hS h_2 dL_law_425 ?_
      refine lv_nmi ha2 ?_
      refine wr_calli2 (va_runV (As := [.int a1, .int a2]) (rest := [.int o.1]) S0 (kX11_wills l (D := D) (cI := cI) (cB := cB) (cZ := cZ) (τ := τ) hapm μ a1 a2 _ h2) (cwV 2 htsL gL_law_X11_wills rfl rfl rfl (by decide +kernel) ⟨Nat.le_of_ble_eq_true rfl, Nat.le_of_ble_eq_true rfl⟩) ⟨PW.blind, mw_r0 hK hPm, PW.mk hPm hK hN⟩ rfl rfl hl.1 rfl (lv_room (Nat.le_of_ble_eq_true rfl)) dL_law_426 ⟨Nat.le_of_ble_eq_true rfl, Nat.le_of_ble_eq_true rfl⟩) hS hMA hPc (cw_off hdis) (fun H locs hPm hPc hS => ?_)
      have hPm : va_P D vwCl (MW cI cB cZ am τ o2.2) H := hPm
      refine lv_icmp_eq (tgt := 952) hx hbL dL_law_429 (by decide) (fun _ => ?_) (fun c9 => absurd h3 c9)
      exact go v2 o.2 o2.2 τ hI2 hRc2 hRm2 H locs hPc hPm hS
    by_cases c32_10 : w = 10
    · refine lv_tableIn (tgt := 434) hx hbL dL_law_32 (by rw [c32_10] <;> decide) (by rw [c32_10] <;> decide) (by rw [c32_10] <;> rfl) (by decide) ?_
      obtain ⟨o, o2, v2, h1, h2, h3, hI2, hRc2, hRm2⟩ := E_year v σ μ  hI hRc hRm
      refine lv_aload_n hx hbL dL_law_434 rfl (lv_at hl 1 rfl) ?_
      refine wr_calli2 (va_runV (As := []) (rest := []) S0 (kX10_year l (D := D) (cI := cI) (cB := cB) (cZ := cZ) (τ := τ) hapc σ  _ h1) (cwV 0 htsL gL_law_X10_year rfl rfl rfl (by decide +kernel) ⟨Nat.le_of_ble_eq_true rfl, Nat.le_of_ble_eq_true rfl⟩) ⟨PW.blind, cw_r0 hK hPc, PW.mk hPc hK hN⟩ rfl rfl hl.1 rfl (lv_room (Nat.le_of_ble_eq_true rfl)) dL_law_435 ⟨Nat.le_of_ble_eq_true rfl, Nat.le_of_ble_eq_true rfl⟩) hS hCA hPm (mw_off hdis) (fun H locs hPc hPm hS => ?_)
      have hPc : va_P D vwCl (CW cI ad τ o.2) H := hPc
      refine lv_aload_n hx hbL dL_law_438 rfl (lv_at hl 2 rfl) ?_
      refine wr_calli2 (va_runV (As := []) (rest := [.int o.1]) S0 (kX11_year l (D := D) (cI := cI) (cB := cB) (cZ := cZ) (τ := τ) hapm μ  _ h2) (cwV 0 htsL gL_law_X11_year rfl rfl rfl (by decide +kernel) ⟨Nat.le_of_ble_eq_true rfl, Nat.le_of_ble_eq_true rfl⟩) ⟨PW.blind, mw_r0 hK hPm, PW.mk hPm hK hN⟩ rfl rfl hl.1 rfl (lv_room (Nat.le_of_ble_eq_true rfl)) dL_law_439 ⟨Nat.le_of_ble_eq_true rfl, Nat.le_of_ble_eq_true rfl⟩) hS hMA hPc (cw_off hdis) (fun H locs hPm hPc hS => ?_)
      have hPm : va_P D vwCl (MW cI cB cZ am τ o2.2) H := hPm
      refine lv_icmp_eq (tgt := 952) hx hbL dL_law_442 (by decide) (fun _ => ?_) (fun c9 => absurd h3 c9)
      exact go v2 o.2 o2.2 τ hI2 hRc2 hRm2 H locs hPc hPm hS
    by_cases c32_11 : w = 11
    · refine lv_tableIn (tgt := 447) hx hbL dL_law_32 (by rw [c32_11] <;> decide) (by rw [c32_11] <;> decide) (by rw [c32_11] <;> rfl) (by decide) ?_
      obtain ⟨o, o2, v2, h1, h2, h3, hI2, hRc2, hRm2⟩ := E_hauls v σ μ a1 a2 hI hRc hRm
      refine lv_aload_n hx hbL dL_law_447 rfl (lv_at hl 1 rfl) ?_
      refine lv_aload_n hx hbL dL_law_448 rfl (lv_at hl 0 rfl) ?_
      refine lv_iload_n hx hbL dL_law_449 rfl (lv_at hl 3 rfl) ?_
      refine lv_iconst (v := 1) hx hbL dL_law_450 (by decide) ?_
      refine lv_iadd hx hbL dL_law_451 ?_
      refine va_sld hx hbL hX hbl hbA hS h_1 dL_law_452 ?_
      refine lv_nmi ha1 ?_
      refine lv_aload_n hx hbL dL_law_453 rfl (lv_at hl 0 rfl) ?_
      refine lv_iload_n hx hbL dL_law_454 rfl (lv_at hl 3 rfl) ?_
      refine lv_iconst (v := 2) hx hbL dL_law_455 (by decide) ?_
      refine lv_iadd hx hbL dL_law_456 ?_
      refine va_sld hx hbL hX hbl hbA hS h_2 dL_law_457 ?_
      refine lv_nmi ha2 ?_
      refine wr_calli2 (va_runV (As := [.int a1, .int a2]) (rest := []) S0 (kX10_hauls l (D := D) (cI := cI) (cB := cB) (cZ := cZ) (τ := τ) hapc σ a1 a2 _ h1) (cwV 2 htsL gL_law_X10_hauls rfl rfl rfl (by decide +kernel) ⟨Nat.le_of_ble_eq_true rfl, Nat.le_of_ble_eq_true rfl⟩) ⟨PW.blind, cw_r0 hK hPc, PW.mk hPc hK hN⟩ rfl rfl hl.1 rfl (lv_room (Nat.le_of_ble_eq_true rfl)) dL_law_458 ⟨Nat.le_of_ble_eq_true rfl, Nat.le_of_ble_eq_true rfl⟩) hS hCA hPm (mw_off hdis) (fun H locs hPc hPm hS => ?_)
      have hPc : va_P D vwCl (CW cI ad τ o.2) H := hPc
      refine lv_aload_n hx hbL dL_law_461 rfl (lv_at hl 2 rfl) ?_
      refine lv_aload_n hx hbL dL_law_462 rfl (lv_at hl 0 rfl) ?_
      refine lv_iload_n hx hbL dL_law_463 rfl (lv_at hl 3 rfl) ?_
      refine lv_iconst (v := 1) hx hbL dL_law_464 (by decide) ?_
      refine lv_iadd hx hbL dL_law_465 ?_
      refine va_sld hx hbL hX hbl hbA hS h_1 dL_law_466 ?_
      refine lv_nmi ha1 ?_
      refine lv_aload_n hx hbL dL_law_467 rfl (lv_at hl 0 rfl) ?_
      refine lv_iload_n hx hbL dL_law_468 rfl (lv_at hl 3 rfl) ?_
      refine lv_iconst (v := 2) hx hbL dL_law_469 (by decide) ?_
      refine lv_iadd hx hbL dL_law_470 ?_
      refine va_sld hx hbL hX hbl hbA hS h_2 dL_law_471 ?_
      refine lv_nmi ha2 ?_
      refine wr_calli2 (va_runV (As := [.int a1, .int a2]) (rest := [.int o.1]) S0 (kX11_hauls l (D := D) (cI := cI) (cB := cB) (cZ := cZ) (τ := τ) hapm μ a1 a2 _ h2) (cwV 2 htsL gL_law_X11_hauls rfl rfl rfl (by decide +kernel) ⟨Nat.le_of_ble_eq_true rfl, Nat.le_of_ble_eq_true rfl⟩) ⟨PW.blind, mw_r0 hK hPm, PW.mk hPm hK hN⟩ rfl rfl hl.1 rfl (lv_room (Nat.le_of_ble_eq_true rfl)) dL_law_472 ⟨Nat.le_of_ble_eq_true rfl, Nat.le_of_ble_eq_true rfl⟩) hS hMA hPc (cw_off hdis) (fun H locs hPm hPc hS => ?_)
      have hPm : va_P D vwCl (MW cI cB cZ am τ o2.2) H := hPm
      refine lv_icmp_eq (tgt := 952) hx hbL dL_law_475 (by decide) (fun _ => ?_) (fun c9 => absurd h3 c9)
      exact go v2 o.2 o2.2 τ hI2 hRc2 hRm2 H locs hPc hPm hS
    by_cases c32_12 : w = 12
    · refine lv_tableIn (tgt := 480) hx hbL dL_law_32 (by rw [c32_12] <;> decide) (by rw [c32_12] <;> decide) (by rw [c32_12] <;> rfl) (by decide) ?_
      obtain ⟨o, o2, v2, h1, h2, h3, hI2, hRc2, hRm2⟩ := E_undo v σ μ  hI hRc hRm
      refine lv_aload_n hx hbL dL_law_480 rfl (lv_at hl 1 rfl) ?_
      refine wr_calli2 (va_runV (As := []) (rest := []) S0 (kX10_undo l (D := D) (cI := cI) (cB := cB) (cZ := cZ) (τ := τ) hapc σ  _ h1) (cwV 0 htsL gL_law_X10_undo rfl rfl rfl (by decide +kernel) ⟨Nat.le_of_ble_eq_true rfl, Nat.le_of_ble_eq_true rfl⟩) ⟨PW.blind, cw_r0 hK hPc, PW.mk hPc hK hN⟩ rfl rfl hl.1 rfl (lv_room (Nat.le_of_ble_eq_true rfl)) dL_law_481 ⟨Nat.le_of_ble_eq_true rfl, Nat.le_of_ble_eq_true rfl⟩) hS hCA hPm (mw_off hdis) (fun H locs hPc hPm hS => ?_)
      have hPc : va_P D vwCl (CW cI ad τ o.2) H := hPc
      refine lv_aload_n hx hbL dL_law_484 rfl (lv_at hl 2 rfl) ?_
      refine wr_calli2 (va_runV (As := []) (rest := [.int o.1]) S0 (kX11_undo l (D := D) (cI := cI) (cB := cB) (cZ := cZ) (τ := τ) hapm μ  _ h2) (cwV 0 htsL gL_law_X11_undo rfl rfl rfl (by decide +kernel) ⟨Nat.le_of_ble_eq_true rfl, Nat.le_of_ble_eq_true rfl⟩) ⟨PW.blind, mw_r0 hK hPm, PW.mk hPm hK hN⟩ rfl rfl hl.1 rfl (lv_room (Nat.le_of_ble_eq_true rfl)) dL_law_485 ⟨Nat.le_of_ble_eq_true rfl, Nat.le_of_ble_eq_true rfl⟩) hS hMA hPc (cw_off hdis) (fun H locs hPm hPc hS => ?_)
      have hPm : va_P D vwCl (MW cI cB cZ am τ o2.2) H := hPm
      refine lv_icmp_eq (tgt := 952) hx hbL dL_law_488 (by decide) (fun _ => ?_) (fun c9 => absurd h3 c9)
      exact go v2 o.2 o2.2 τ hI2 hRc2 hRm2 H locs hPc hPm hS
    by_cases c32_13 : w = 13
    · refine lv_tableIn (tgt := 493) hx hbL dL_law_32 (by rw [c32_13] <;> decide) (by rw [c32_13] <;> decide) (by rw [c32_13] <;> rfl) (by decide) ?_
      obtain ⟨o, o2, h1, h2, h3⟩ := E_now v σ μ a1 hI hRc hRm
      refine lv_aload_n hx hbL dL_law_493 rfl (lv_at hl 1 rfl) ?_
      refine lv_aload_n hx hbL dL_law_494 rfl (lv_at hl 0 rfl) ?_
      refine lv_iload_n hx hbL dL_law_495 rfl (lv_at hl 3 rfl) ?_
      refine lv_iconst (v := 1) hx hbL dL_law_496 (by decide) ?_
      refine lv_iadd hx hbL dL_law_497 ?_
      refine va_sld hx hbL hX hbl hbA hS h_1 dL_law_498 ?_
      refine lv_nmi ha1 ?_
      refine rd_calli (va_runV (As := [.int a1]) (rest := []) S0 (kX10_now l (D := D) (cI := cI) (cB := cB) (cZ := cZ) (ad := ad) (τ := τ) σ a1 _ h1) (cwV 1 htsL gL_law_X10_now rfl rfl rfl (by decide +kernel) ⟨Nat.le_of_ble_eq_true rfl, Nat.le_of_ble_eq_true rfl⟩) ⟨PW.blind, cw_r0 hK hPc, PW.mk hPc hK hN⟩ rfl rfl hl.1 rfl (lv_room (Nat.le_of_ble_eq_true rfl)) dL_law_499 ⟨Nat.le_of_ble_eq_true rfl, Nat.le_of_ble_eq_true rfl⟩) ?_
      refine lv_aload_n hx hbL dL_law_502 rfl (lv_at hl 2 rfl) ?_
      refine lv_aload_n hx hbL dL_law_503 rfl (lv_at hl 0 rfl) ?_
      refine lv_iload_n hx hbL dL_law_504 rfl (lv_at hl 3 rfl) ?_
      refine lv_iconst (v := 1) hx hbL dL_law_505 (by decide) ?_
      refine lv_iadd hx hbL dL_law_506 ?_
      refine va_sld hx hbL hX hbl hbA hS h_1 dL_law_507 ?_
      refine lv_nmi ha1 ?_
      refine rd_calli (va_runV (As := [.int a1]) (rest := [.int o]) S0 (kX11_now l (D := D) (cI := cI) (cB := cB) (cZ := cZ) (am := am) (τ := τ) μ a1 _ h2) (cwV 1 htsL gL_law_X11_now rfl rfl rfl (by decide +kernel) ⟨Nat.le_of_ble_eq_true rfl, Nat.le_of_ble_eq_true rfl⟩) ⟨PW.blind, mw_r0 hK hPm, PW.mk hPm hK hN⟩ rfl rfl hl.1 rfl (lv_room (Nat.le_of_ble_eq_true rfl)) dL_law_508 ⟨Nat.le_of_ble_eq_true rfl, Nat.le_of_ble_eq_true rfl⟩) ?_
      refine lv_icmp_eq (tgt := 952) hx hbL dL_law_511 (by decide) (fun _ => ?_) (fun c9 => absurd h3 c9)
      exact go v σ μ τ hI hRc hRm H locs hPc hPm hS
    by_cases c32_14 : w = 14
    · refine lv_tableIn (tgt := 516) hx hbL dL_law_32 (by rw [c32_14] <;> decide) (by rw [c32_14] <;> decide) (by rw [c32_14] <;> rfl) (by decide) ?_
      obtain ⟨o, o2, h1, h2, h3⟩ := E_needs v σ μ a1 a2 hI hRc hRm
      refine lv_aload_n hx hbL dL_law_516 rfl (lv_at hl 1 rfl) ?_
      refine lv_aload_n hx hbL dL_law_517 rfl (lv_at hl 0 rfl) ?_
      refine lv_iload_n hx hbL dL_law_518 rfl (lv_at hl 3 rfl) ?_
      refine lv_iconst (v := 1) hx hbL dL_law_519 (by decide) ?_
      refine lv_iadd hx hbL dL_law_520 ?_
      refine va_sld hx hbL hX hbl hbA hS h_1 dL_law_521 ?_
      refine lv_nmi ha1 ?_
      refine lv_aload_n hx hbL dL_law_522 rfl (lv_at hl 0 rfl) ?_
      refine lv_iload_n hx hbL dL_law_523 rfl (lv_at hl 3 rfl) ?_
      refine lv_iconst (v := 2) hx hbL dL_law_524 (by decide) ?_
      refine lv_iadd hx hbL dL_law_525 ?_
      refine va_sld hx hbL hX hbl hbA hS h_2 dL_law_526 ?_
      refine lv_nmi ha2 ?_
      refine rd_calli (va_runV (As := [.int a1, .int a2]) (rest := []) S0 (kX10_needs l (D := D) (cI := cI) (cB := cB) (cZ := cZ) (ad := ad) (τ := τ) σ a1 a2 _ h1) (cwV 2 htsL gL_law_X10_needs rfl rfl rfl (by decide +kernel) ⟨Nat.le_of_ble_eq_true rfl, Nat.le_of_ble_eq_true rfl⟩) ⟨PW.blind, cw_r0 hK hPc, PW.mk hPc hK hN⟩ rfl rfl hl.1 rfl (lv_room (Nat.le_of_ble_eq_true rfl)) dL_law_527 ⟨Nat.le_of_ble_eq_true rfl, Nat.le_of_ble_eq_true rfl⟩) ?_
      refine lv_aload_n hx hbL dL_law_530 rfl (lv_at hl 2 rfl) ?_
      refine lv_aload_n hx hbL dL_law_531 rfl (lv_at hl 0 rfl) ?_
      refine lv_iload_n hx hbL dL_law_532 rfl (lv_at hl 3 rfl) ?_
      refine lv_iconst (v := 1) hx hbL dL_law_533 (by decide) ?_
      refine lv_iadd hx hbL dL_law_534 ?_
      refine va_sld hx hbL hX hbl hbA hS h_1 dL_law_535 ?_
      refine lv_nmi ha1 ?_
      refine lv_aload_n hx hbL dL_law_536 rfl (lv_at hl 0 rfl) ?_
      refine lv_iload_n hx hbL dL_law_537 rfl (lv_at hl 3 rfl) ?_
      refine lv_iconst (v := 2) hx hbL dL_law_538 (by decide) ?_
      refine lv_iadd hx hbL dL_law_539 ?_
      refine va_sld hx hbL hX hbl hbA hS h_2 dL_law_540 ?_
      refine lv_nmi ha2 ?_
      refine rd_calli (va_runV (As := [.int a1, .int a2]) (rest := [.int o]) S0 (kX11_needs l (D := D) (cI := cI) (cB := cB) (cZ := cZ) (am := am) (τ := τ) μ a1 a2 _ h2) (cwV 2 htsL gL_law_X11_needs rfl rfl rfl (by decide +kernel) ⟨Nat.le_of_ble_eq_true rfl, Nat.le_of_ble_eq_true rfl⟩) ⟨PW.blind, mw_r0 hK hPm, PW.mk hPm hK hN⟩ rfl rfl hl.1 rfl (lv_room (Nat.le_of_ble_eq_true rfl)) dL_law_541 ⟨Nat.le_of_ble_eq_true rfl, Nat.le_of_ble_eq_true rfl⟩) ?_
      refine lv_icmp_eq (tgt := 952) hx hbL dL_law_544 (by decide) (fun _ => ?_) (fun c9 => absurd h3 c9)
      exact go v σ μ τ hI hRc hRm H locs hPc hPm hS
    by_cases c32_15 : w = 15
    · refine lv_tableIn (tgt := 549) hx hbL dL_law_32 (by rw [c32_15] <;> decide) (by rw [c32_15] <;> decide) (by rw [c32_15] <;> rfl) (by decide) ?_
      obtain ⟨o, o2, v2, h1, h2, h3, hI2, hRc2, hRm2⟩ := E_after v σ μ a1 a2 a3 hI hRc hRm
      refine lv_aload_n hx hbL dL_law_549 rfl (lv_at hl 1 rfl) ?_
      refine lv_aload_n hx hbL dL_law_550 rfl (lv_at hl 0 rfl) ?_
      refine lv_iload_n hx hbL dL_law_551 rfl (lv_at hl 3 rfl) ?_
      refine lv_iconst (v := 1) hx hbL dL_law_552 (by decide) ?_
      refine lv_iadd hx hbL dL_law_553 ?_
      refine va_sld hx hbL hX hbl hbA hS h_1 dL_law_554 ?_
      refine lv_nmi ha1 ?_
      refine lv_aload_n hx hbL dL_law_555 rfl (lv_at hl 0 rfl) ?_
      refine lv_iload_n hx hbL dL_law_556 rfl (lv_at hl 3 rfl) ?_
      refine lv_iconst (v := 2) hx hbL dL_law_557 (by decide) ?_
      refine lv_iadd hx hbL dL_law_558 ?_
      refine va_sld hx hbL hX hbl hbA hS h_2 dL_law_559 ?_
      refine lv_nmi ha2 ?_
      refine lv_aload_n hx hbL dL_law_560 rfl (lv_at hl 0 rfl) ?_
      refine lv_iload_n hx hbL dL_law_561 rfl (lv_at hl 3 rfl) ?_
      refine lv_iconst (v := 3) hx hbL dL_law_562 (by decide) ?_
      refine lv_iadd hx hbL dL_law_563 ?_
      refine va_sld hx hbL hX hbl hbA hS h_3 dL_law_564 ?_
      refine lv_nmi ha3 ?_
      refine wr_calli2 (va_runV (As := [.int a1, .int a2, .int a3]) (rest := []) S0 (kX10_after l (D := D) (cI := cI) (cB := cB) (cZ := cZ) (τ := τ) hapc σ a1 a2 a3 _ h1) (cwV 3 htsL gL_law_X10_after rfl rfl rfl (by decide +kernel) ⟨Nat.le_of_ble_eq_true rfl, Nat.le_of_ble_eq_true rfl⟩) ⟨PW.blind, cw_r0 hK hPc, PW.mk hPc hK hN⟩ rfl rfl hl.1 rfl (lv_room (Nat.le_of_ble_eq_true rfl)) dL_law_565 ⟨Nat.le_of_ble_eq_true rfl, Nat.le_of_ble_eq_true rfl⟩) hS hCA hPm (mw_off hdis) (fun H locs hPc hPm hS => ?_)
      have hPc : va_P D vwCl (CW cI ad τ o.2) H := hPc
      refine lv_aload_n hx hbL dL_law_568 rfl (lv_at hl 2 rfl) ?_
      refine lv_aload_n hx hbL dL_law_569 rfl (lv_at hl 0 rfl) ?_
      refine lv_iload_n hx hbL dL_law_570 rfl (lv_at hl 3 rfl) ?_
      refine lv_iconst (v := 1) hx hbL dL_law_571 (by decide) ?_
      refine lv_iadd hx hbL dL_law_572 ?_
      refine va_sld hx hbL hX hbl hbA hS h_1 dL_law_573 ?_
      refine lv_nmi ha1 ?_
      refine lv_aload_n hx hbL dL_law_574 rfl (lv_at hl 0 rfl) ?_
      refine lv_iload_n hx hbL dL_law_575 rfl (lv_at hl 3 rfl) ?_
      refine lv_iconst (v := 2) hx hbL dL_law_576 (by decide) ?_
      refine lv_iadd hx hbL dL_law_577 ?_
      refine va_sld hx hbL hX hbl hbA hS h_2 dL_law_578 ?_
      refine lv_nmi ha2 ?_
      refine lv_aload_n hx hbL dL_law_579 rfl (lv_at hl 0 rfl) ?_
      refine lv_iload_n hx hbL dL_law_580 rfl (lv_at hl 3 rfl) ?_
      refine lv_iconst (v := 3) hx hbL dL_law_581 (by decide) ?_
      refine lv_iadd hx hbL dL_law_582 ?_
      refine va_sld hx hbL hX hbl hbA hS h_3 dL_law_583 ?_
      refine lv_nmi ha3 ?_
      refine rd_calli (va_runV (As := [.int a1, .int a2, .int a3]) (rest := [.int o.1]) S0 (kX11_after l (D := D) (cI := cI) (cB := cB) (cZ := cZ) (am := am) (τ := τ) μ a1 a2 a3 _ h2) (cwV 3 htsL gL_law_X11_after rfl rfl rfl (by decide +kernel) ⟨Nat.le_of_ble_eq_true rfl, Nat.le_of_ble_eq_true rfl⟩) ⟨PW.blind, mw_r0 hK hPm, PW.mk hPm hK hN⟩ rfl rfl hl.1 rfl (lv_room (Nat.le_of_ble_eq_true rfl)) dL_law_584 ⟨Nat.le_of_ble_eq_true rfl, Nat.le_of_ble_eq_true rfl⟩) ?_
      refine lv_icmp_eq (tgt := 952) hx hbL dL_law_587 (by decide) (fun _ => ?_) (fun c9 => absurd h3 c9)
      exact go v2 o.2 μ τ hI2 hRc2 hRm2 H locs hPc hPm hS
    by_cases c32_16 : w = 16
    · refine lv_tableIn (tgt := 592) hx hbL dL_law_32 (by rw [c32_16] <;> decide) (by rw [c32_16] <;> decide) (by rw [c32_16] <;> rfl) (by decide) ?_
      obtain ⟨o, o2, v2, h1, h2, h3, hI2, hRc2, hRm2⟩ := E_wreck v σ μ a1 a2 a3 hI hRc hRm
      refine lv_aload_n hx hbL dL_law_592 rfl (lv_at hl 1 rfl) ?_
      refine lv_aload_n hx hbL dL_law_593 rfl (lv_at hl 0 rfl) ?_
      refine lv_iload_n hx hbL dL_law_594 rfl (lv_at hl 3 rfl) ?_
      refine lv_iconst (v := 1) hx hbL dL_law_595 (by decide) ?_
      refine lv_iadd hx hbL dL_law_596 ?_
      refine va_sld hx hbL hX hbl hbA hS h_1 dL_law_597 ?_
      refine lv_nmi ha1 ?_
      refine lv_aload_n hx hbL dL_law_598 rfl (lv_at hl 0 rfl) ?_
      refine lv_iload_n hx hbL dL_law_599 rfl (lv_at hl 3 rfl) ?_
      refine lv_iconst (v := 2) hx hbL dL_law_600 (by decide) ?_
      refine lv_iadd hx hbL dL_law_601 ?_
      refine va_sld hx hbL hX hbl hbA hS h_2 dL_law_602 ?_
      refine lv_nmi ha2 ?_
      refine lv_aload_n hx hbL dL_law_603 rfl (lv_at hl 0 rfl) ?_
      refine lv_iload_n hx hbL dL_law_604 rfl (lv_at hl 3 rfl) ?_
      refine lv_iconst (v := 3) hx hbL dL_law_605 (by decide) ?_
      refine lv_iadd hx hbL dL_law_606 ?_
      refine va_sld hx hbL hX hbl hbA hS h_3 dL_law_607 ?_
      refine lv_nmi ha3 ?_
      refine wr_calli2 (va_runV (As := [.int a1, .int a2, .int a3]) (rest := []) S0 (kX10_wreck l (D := D) (cI := cI) (cB := cB) (cZ := cZ) (τ := τ) hapc σ a1 a2 a3 _ h1) (cwV 3 htsL gL_law_X10_wreck rfl rfl rfl (by decide +kernel) ⟨Nat.le_of_ble_eq_true rfl, Nat.le_of_ble_eq_true rfl⟩) ⟨PW.blind, cw_r0 hK hPc, PW.mk hPc hK hN⟩ rfl rfl hl.1 rfl (lv_room (Nat.le_of_ble_eq_true rfl)) dL_law_608 ⟨Nat.le_of_ble_eq_true rfl, Nat.le_of_ble_eq_true rfl⟩) hS hCA hPm (mw_off hdis) (fun H locs hPc hPm hS => ?_)
      have hPc : va_P D vwCl (CW cI ad τ o.2) H := hPc
      refine lv_aload_n hx hbL dL_law_611 rfl (lv_at hl 2 rfl) ?_
      refine lv_aload_n hx hbL dL_law_612 rfl (lv_at hl 0 rfl) ?_
      refine lv_iload_n hx hbL dL_law_613 rfl (lv_at hl 3 rfl) ?_
      refine lv_iconst (v := 1) hx hbL dL_law_614 (by decide) ?_
      refine lv_iadd hx hbL dL_law_615 ?_
      refine va_sld hx hbL hX hbl hbA hS h_1 dL_law_616 ?_
      refine lv_nmi ha1 ?_
      refine lv_aload_n hx hbL dL_law_617 rfl (lv_at hl 0 rfl) ?_
      refine lv_iload_n hx hbL dL_law_618 rfl (lv_at hl 3 rfl) ?_
      refine lv_iconst (v := 2) hx hbL dL_law_619 (by decide) ?_
      refine lv_iadd hx hbL dL_law_620 ?_
      refine va_sld hx hbL hX hbl hbA hS h_2 dL_law_621 ?_
      refine lv_nmi ha2 ?_
      refine lv_aload_n hx hbL dL_law_622 rfl (lv_at hl 0 rfl) ?_
      refine lv_iload_n hx hbL dL_law_623 rfl (lv_at hl 3 rfl) ?_
      refine lv_iconst (v := 3) hx hbL dL_law_624 (by decide) ?_
      refine lv_iadd hx hbL dL_law_625 ?_
      refine va_sld hx hbL hX hbl hbA hS h_3 dL_law_626 ?_
      refine lv_nmi ha3 ?_
      refine wr_calli2 (va_runV (As := [.int a1, .int a2, .int a3]) (rest := [.int o.1]) S0 (kX11_wreck l (D := D) (cI := cI) (cB := cB) (cZ := cZ) (τ := τ) hapm μ a1 a2 a3 _ h2) (cwV 3 htsL gL_law_X11_wreck rfl rfl rfl (by decide +kernel) ⟨Nat.le_of_ble_eq_true rfl, Nat.le_of_ble_eq_true rfl⟩) ⟨PW.blind, mw_r0 hK hPm, PW.mk hPm hK hN⟩ rfl rfl hl.1 rfl (lv_room (Nat.le_of_ble_eq_true rfl)) dL_law_627 ⟨Nat.le_of_ble_eq_true rfl, Nat.le_of_ble_eq_true rfl⟩) hS hMA hPc (cw_off hdis) (fun H locs hPm hPc hS => ?_)
      have hPm : va_P D vwCl (MW cI cB cZ am τ o2.2) H := hPm
      refine lv_icmp_eq (tgt := 952) hx hbL dL_law_630 (by decide) (fun _ => ?_) (fun c9 => absurd h3 c9)
      exact go v2 o.2 o2.2 τ hI2 hRc2 hRm2 H locs hPc hPm hS
    by_cases c32_17 : w = 17
    · refine lv_tableIn (tgt := 635) hx hbL dL_law_32 (by rw [c32_17] <;> decide) (by rw [c32_17] <;> decide) (by rw [c32_17] <;> rfl) (by decide) ?_
      obtain ⟨o, o2, v2, h1, h2, h3, hI2, hRc2, hRm2⟩ := E_place v σ μ a1 a2 a3 hI hRc hRm
      refine lv_aload_n hx hbL dL_law_635 rfl (lv_at hl 1 rfl) ?_
      refine lv_aload_n hx hbL dL_law_636 rfl (lv_at hl 0 rfl) ?_
      refine lv_iload_n hx hbL dL_law_637 rfl (lv_at hl 3 rfl) ?_
      refine lv_iconst (v := 1) hx hbL dL_law_638 (by decide) ?_
      refine lv_iadd hx hbL dL_law_639 ?_
      refine va_sld hx hbL hX hbl hbA hS h_1 dL_law_640 ?_
      refine lv_nmi ha1 ?_
      refine lv_aload_n hx hbL dL_law_641 rfl (lv_at hl 0 rfl) ?_
      refine lv_iload_n hx hbL dL_law_642 rfl (lv_at hl 3 rfl) ?_
      refine lv_iconst (v := 2) hx hbL dL_law_643 (by decide) ?_
      refine lv_iadd hx hbL dL_law_644 ?_
      refine va_sld hx hbL hX hbl hbA hS h_2 dL_law_645 ?_
      refine lv_nmi ha2 ?_
      refine lv_aload_n hx hbL dL_law_646 rfl (lv_at hl 0 rfl) ?_
      refine lv_iload_n hx hbL dL_law_647 rfl (lv_at hl 3 rfl) ?_
      refine lv_iconst (v := 3) hx hbL dL_law_648 (by decide) ?_
      refine lv_iadd hx hbL dL_law_649 ?_
      refine va_sld hx hbL hX hbl hbA hS h_3 dL_law_650 ?_
      refine lv_nmi ha3 ?_
      refine wr_calli2 (va_runV (As := [.int a1, .int a2, .int a3]) (rest := []) S0 (kX10_place l (D := D) (cI := cI) (cB := cB) (cZ := cZ) (τ := τ) hapc σ a1 a2 a3 _ h1) (cwV 3 htsL gL_law_X10_place rfl rfl rfl (by decide +kernel) ⟨Nat.le_of_ble_eq_true rfl, Nat.le_of_ble_eq_true rfl⟩) ⟨PW.blind, cw_r0 hK hPc, PW.mk hPc hK hN⟩ rfl rfl hl.1 rfl (lv_room (Nat.le_of_ble_eq_true rfl)) dL_law_651 ⟨Nat.le_of_ble_eq_true rfl, Nat.le_of_ble_eq_true rfl⟩) hS hCA hPm (mw_off hdis) (fun H locs hPc hPm hS => ?_)
      have hPc : va_P D vwCl (CW cI ad τ o.2) H := hPc
      refine lv_aload_n hx hbL dL_law_654 rfl (lv_at hl 2 rfl) ?_
      refine lv_aload_n hx hbL dL_law_655 rfl (lv_at hl 0 rfl) ?_
      refine lv_iload_n hx hbL dL_law_656 rfl (lv_at hl 3 rfl) ?_
      refine lv_iconst (v := 1) hx hbL dL_law_657 (by decide) ?_
      refine lv_iadd hx hbL dL_law_658 ?_
      refine va_sld hx hbL hX hbl hbA hS h_1 dL_law_659 ?_
      refine lv_nmi ha1 ?_
      refine lv_aload_n hx hbL dL_law_660 rfl (lv_at hl 0 rfl) ?_
      refine lv_iload_n hx hbL dL_law_661 rfl (lv_at hl 3 rfl) ?_
      refine lv_iconst (v := 2) hx hbL dL_law_662 (by decide) ?_
      refine lv_iadd hx hbL dL_law_663 ?_
      refine va_sld hx hbL hX hbl hbA hS h_2 dL_law_664 ?_
      refine lv_nmi ha2 ?_
      refine lv_aload_n hx hbL dL_law_665 rfl (lv_at hl 0 rfl) ?_
      refine lv_iload_n hx hbL dL_law_666 rfl (lv_at hl 3 rfl) ?_
      refine lv_iconst (v := 3) hx hbL dL_law_667 (by decide) ?_
      refine lv_iadd hx hbL dL_law_668 ?_
      refine va_sld hx hbL hX hbl hbA hS h_3 dL_law_669 ?_
      refine lv_nmi ha3 ?_
      refine wr_calli2 (va_runV (As := [.int a1, .int a2, .int a3]) (rest := [.int o.1]) S0 (kX11_place l (D := D) (cI := cI) (cB := cB) (cZ := cZ) (τ := τ) hapm μ a1 a2 a3 _ h2) (cwV 3 htsL gL_law_X11_place rfl rfl rfl (by decide +kernel) ⟨Nat.le_of_ble_eq_true rfl, Nat.le_of_ble_eq_true rfl⟩) ⟨PW.blind, mw_r0 hK hPm, PW.mk hPm hK hN⟩ rfl rfl hl.1 rfl (lv_room (Nat.le_of_ble_eq_true rfl)) dL_law_670 ⟨Nat.le_of_ble_eq_true rfl, Nat.le_of_ble_eq_true rfl⟩) hS hMA hPc (cw_off hdis) (fun H locs hPm hPc hS => ?_)
      have hPm : va_P D vwCl (MW cI cB cZ am τ o2.2) H := hPm
      refine lv_icmp_eq (tgt := 952) hx hbL dL_law_673 (by decide) (fun _ => ?_) (fun c9 => absurd h3 c9)
      exact go v2 o.2 o2.2 τ hI2 hRc2 hRm2 H locs hPc hPm hS
    by_cases c32_18 : w = 18
    · refine lv_tableIn (tgt := 678) hx hbL dL_law_32 (by rw [c32_18] <;> decide) (by rw [c32_18] <;> decide) (by rw [c32_18] <;> rfl) (by decide) ?_
      obtain ⟨o, o2, h1, h2, h3⟩ := E_vital v σ μ a1 a2 hI hRc hRm
      refine lv_aload_n hx hbL dL_law_678 rfl (lv_at hl 1 rfl) ?_
      refine lv_aload_n hx hbL dL_law_679 rfl (lv_at hl 0 rfl) ?_
      refine lv_iload_n hx hbL dL_law_680 rfl (lv_at hl 3 rfl) ?_
      refine lv_iconst (v := 1) hx hbL dL_law_681 (by decide) ?_
      refine lv_iadd hx hbL dL_law_682 ?_
      refine va_sld hx hbL hX hbl hbA hS h_1 dL_law_683 ?_
      refine lv_nmi ha1 ?_
      refine lv_aload_n hx hbL dL_law_684 rfl (lv_at hl 0 rfl) ?_
      refine lv_iload_n hx hbL dL_law_685 rfl (lv_at hl 3 rfl) ?_
      refine lv_iconst (v := 2) hx hbL dL_law_686 (by decide) ?_
      refine lv_iadd hx hbL dL_law_687 ?_
      refine va_sld hx hbL hX hbl hbA hS h_2 dL_law_688 ?_
      refine lv_nmi ha2 ?_
      refine rd_calli (va_runV (As := [.int a1, .int a2]) (rest := []) S0 (kX10_vital l (D := D) (cI := cI) (cB := cB) (cZ := cZ) (ad := ad) (τ := τ) σ a1 a2 _ h1) (cwV 2 htsL gL_law_X10_vital rfl rfl rfl (by decide +kernel) ⟨Nat.le_of_ble_eq_true rfl, Nat.le_of_ble_eq_true rfl⟩) ⟨PW.blind, cw_r0 hK hPc, PW.mk hPc hK hN⟩ rfl rfl hl.1 rfl (lv_room (Nat.le_of_ble_eq_true rfl)) dL_law_689 ⟨Nat.le_of_ble_eq_true rfl, Nat.le_of_ble_eq_true rfl⟩) ?_
      refine lv_aload_n hx hbL dL_law_692 rfl (lv_at hl 2 rfl) ?_
      refine lv_aload_n hx hbL dL_law_693 rfl (lv_at hl 0 rfl) ?_
      refine lv_iload_n hx hbL dL_law_694 rfl (lv_at hl 3 rfl) ?_
      refine lv_iconst (v := 1) hx hbL dL_law_695 (by decide) ?_
      refine lv_iadd hx hbL dL_law_696 ?_
      refine va_sld hx hbL hX hbl hbA hS h_1 dL_law_697 ?_
      refine lv_nmi ha1 ?_
      refine lv_aload_n hx hbL dL_law_698 rfl (lv_at hl 0 rfl) ?_
      refine lv_iload_n hx hbL dL_law_699 rfl (lv_at hl 3 rfl) ?_
      refine lv_iconst (v := 2) hx hbL dL_law_700 (by decide) ?_
      refine lv_iadd hx hbL dL_law_701 ?_
      refine va_sld hx hbL hX hbl hbA hS h_2 dL_law_702 ?_
      refine lv_nmi ha2 ?_
      refine rd_calli (va_runV (As := [.int a1, .int a2]) (rest := [.int o]) S0 (kX11_vital l (D := D) (cI := cI) (cB := cB) (cZ := cZ) (am := am) (τ := τ) μ a1 a2 _ h2) (cwV 2 htsL gL_law_X11_vital rfl rfl rfl (by decide +kernel) ⟨Nat.le_of_ble_eq_true rfl, Nat.le_of_ble_eq_true rfl⟩) ⟨PW.blind, mw_r0 hK hPm, PW.mk hPm hK hN⟩ rfl rfl hl.1 rfl (lv_room (Nat.le_of_ble_eq_true rfl)) dL_law_703 ⟨Nat.le_of_ble_eq_true rfl, Nat.le_of_ble_eq_true rfl⟩) ?_
      refine lv_icmp_eq (tgt := 952) hx hbL dL_law_706 (by decide) (fun _ => ?_) (fun c9 => absurd h3 c9)
      exact go v σ μ τ hI hRc hRm H locs hPc hPm hS
    by_cases c32_19 : w = 19
    · refine lv_tableIn (tgt := 711) hx hbL dL_law_32 (by rw [c32_19] <;> decide) (by rw [c32_19] <;> decide) (by rw [c32_19] <;> rfl) (by decide) ?_
      obtain ⟨o, o2, v2, h1, h2, h3, hI2, hRc2, hRm2⟩ := E_odds v σ μ a1 a2 a3 a4 hI hRc hRm
      refine lv_aload_n hx hbL dL_law_711 rfl (lv_at hl 1 rfl) ?_
      refine lv_aload_n hx hbL dL_law_712 rfl (lv_at hl 0 rfl) ?_
      refine lv_iload_n hx hbL dL_law_713 rfl (lv_at hl 3 rfl) ?_
      refine lv_iconst (v := 1) hx hbL dL_law_714 (by decide) ?_
      refine lv_iadd hx hbL dL_law_715 ?_
      refine va_sld hx hbL hX hbl hbA hS h_1 dL_law_716 ?_
      refine lv_nmi ha1 ?_
      refine lv_aload_n hx hbL dL_law_717 rfl (lv_at hl 0 rfl) ?_
      refine lv_iload_n hx hbL dL_law_718 rfl (lv_at hl 3 rfl) ?_
      refine lv_iconst (v := 2) hx hbL dL_law_719 (by decide) ?_
      refine lv_iadd hx hbL dL_law_720 ?_
      refine va_sld hx hbL hX hbl hbA hS h_2 dL_law_721 ?_
      refine lv_nmi ha2 ?_
      refine lv_aload_n hx hbL dL_law_722 rfl (lv_at hl 0 rfl) ?_
      refine lv_iload_n hx hbL dL_law_723 rfl (lv_at hl 3 rfl) ?_
      refine lv_iconst (v := 3) hx hbL dL_law_724 (by decide) ?_
      refine lv_iadd hx hbL dL_law_725 ?_
      refine va_sld hx hbL hX hbl hbA hS h_3 dL_law_726 ?_
      refine lv_nmi ha3 ?_
      refine lv_aload_n hx hbL dL_law_727 rfl (lv_at hl 0 rfl) ?_
      refine lv_iload_n hx hbL dL_law_728 rfl (lv_at hl 3 rfl) ?_
      refine lv_iconst (v := 4) hx hbL dL_law_729 (by decide) ?_
      refine lv_iadd hx hbL dL_law_730 ?_
      refine va_sld hx hbL hX hbl hbA hS h_4 dL_law_731 ?_
      refine lv_nmi ha4 ?_
      refine wr_calli2 (va_runV (As := [.int a1, .int a2, .int a3, .int a4]) (rest := []) S0 (kX10_odds l (D := D) (cI := cI) (cB := cB) (cZ := cZ) (τ := τ) hapc σ a1 a2 a3 a4 _ h1) (cwV 4 htsL gL_law_X10_odds rfl rfl rfl (by decide +kernel) ⟨Nat.le_of_ble_eq_true rfl, Nat.le_of_ble_eq_true rfl⟩) ⟨PW.blind, cw_r0 hK hPc, PW.mk hPc hK hN⟩ rfl rfl hl.1 rfl (lv_room (Nat.le_of_ble_eq_true rfl)) dL_law_732 ⟨Nat.le_of_ble_eq_true rfl, Nat.le_of_ble_eq_true rfl⟩) hS hCA hPm (mw_off hdis) (fun H locs hPc hPm hS => ?_)
      have hPc : va_P D vwCl (CW cI ad τ o.2) H := hPc
      refine lv_aload_n hx hbL dL_law_735 rfl (lv_at hl 2 rfl) ?_
      refine lv_aload_n hx hbL dL_law_736 rfl (lv_at hl 0 rfl) ?_
      refine lv_iload_n hx hbL dL_law_737 rfl (lv_at hl 3 rfl) ?_
      refine lv_iconst (v := 1) hx hbL dL_law_738 (by decide) ?_
      refine lv_iadd hx hbL dL_law_739 ?_
      refine va_sld hx hbL hX hbl hbA hS h_1 dL_law_740 ?_
      refine lv_nmi ha1 ?_
      refine lv_aload_n hx hbL dL_law_741 rfl (lv_at hl 0 rfl) ?_
      refine lv_iload_n hx hbL dL_law_742 rfl (lv_at hl 3 rfl) ?_
      refine lv_iconst (v := 2) hx hbL dL_law_743 (by decide) ?_
      refine lv_iadd hx hbL dL_law_744 ?_
      refine va_sld hx hbL hX hbl hbA hS h_2 dL_law_745 ?_
      refine lv_nmi ha2 ?_
      refine lv_aload_n hx hbL dL_law_746 rfl (lv_at hl 0 rfl) ?_
      refine lv_iload_n hx hbL dL_law_747 rfl (lv_at hl 3 rfl) ?_
      refine lv_iconst (v := 3) hx hbL dL_law_748 (by decide) ?_
      refine lv_iadd hx hbL dL_law_749 ?_
      refine va_sld hx hbL hX hbl hbA hS h_3 dL_law_750 ?_
      refine lv_nmi ha3 ?_
      refine lv_aload_n hx hbL dL_law_751 rfl (lv_at hl 0 rfl) ?_
      refine lv_iload_n hx hbL dL_law_752 rfl (lv_at hl 3 rfl) ?_
      refine lv_iconst (v := 4) hx hbL dL_law_753 (by decide) ?_
      refine lv_iadd hx hbL dL_law_754 ?_
      refine va_sld hx hbL hX hbl hbA hS h_4 dL_law_755 ?_
      refine lv_nmi ha4 ?_
      refine rd_calli (va_runV (As := [.int a1, .int a2, .int a3, .int a4]) (rest := [.int o.1]) S0 (kX11_odds l (D := D) (cI := cI) (cB := cB) (cZ := cZ) (am := am) (τ := τ) μ a1 a2 a3 a4 _ h2) (cwV 4 htsL gL_law_X11_odds rfl rfl rfl (by decide +kernel) ⟨Nat.le_of_ble_eq_true rfl, Nat.le_of_ble_eq_true rfl⟩) ⟨PW.blind, mw_r0 hK hPm, PW.mk hPm hK hN⟩ rfl rfl hl.1 rfl (lv_room (Nat.le_of_ble_eq_true rfl)) dL_law_756 ⟨Nat.le_of_ble_eq_true rfl, Nat.le_of_ble_eq_true rfl⟩) ?_
      refine lv_icmp_eq (tgt := 952) hx hbL dL_law_759 (by decide) (fun _ => ?_) (fun c9 => absurd h3 c9)
      exact go v2 o.2 μ τ hI2 hRc2 hRm2 H locs hPc hPm hS
    by_cases c32_20 : w = 20
    · refine lv_tableIn (tgt := 764) hx hbL dL_law_32 (by rw [c32_20] <;> decide) (by rw [c32_20] <;> decide) (by rw [c32_20] <;> rfl) (by decide) ?_
      obtain ⟨o, o2, v2, h1, h2, h3, hI2, hRc2, hRm2⟩ := E_hears v σ μ a1 a2 hI hRc hRm
      refine lv_aload_n hx hbL dL_law_764 rfl (lv_at hl 1 rfl) ?_
      refine lv_aload_n hx hbL dL_law_765 rfl (lv_at hl 0 rfl) ?_
      refine lv_iload_n hx hbL dL_law_766 rfl (lv_at hl 3 rfl) ?_
      refine lv_iconst (v := 1) hx hbL dL_law_767 (by decide) ?_
      refine lv_iadd hx hbL dL_law_768 ?_
      refine va_sld hx hbL hX hbl hbA hS h_1 dL_law_769 ?_
      refine lv_nmi ha1 ?_
      refine lv_aload_n hx hbL dL_law_770 rfl (lv_at hl 0 rfl) ?_
      refine lv_iload_n hx hbL dL_law_771 rfl (lv_at hl 3 rfl) ?_
      refine lv_iconst (v := 2) hx hbL dL_law_772 (by decide) ?_
      refine lv_iadd hx hbL dL_law_773 ?_
      refine va_sld hx hbL hX hbl hbA hS h_2 dL_law_774 ?_
      refine lv_nmi ha2 ?_
      refine wr_calli2 (va_runV (As := [.int a1, .int a2]) (rest := []) S0 (kX10_hears l (D := D) (cI := cI) (cB := cB) (cZ := cZ) (τ := τ) hapc σ a1 a2 _ h1) (cwV 2 htsL gL_law_X10_hears rfl rfl rfl (by decide +kernel) ⟨Nat.le_of_ble_eq_true rfl, Nat.le_of_ble_eq_true rfl⟩) ⟨PW.blind, cw_r0 hK hPc, PW.mk hPc hK hN⟩ rfl rfl hl.1 rfl (lv_room (Nat.le_of_ble_eq_true rfl)) dL_law_775 ⟨Nat.le_of_ble_eq_true rfl, Nat.le_of_ble_eq_true rfl⟩) hS hCA hPm (mw_off hdis) (fun H locs hPc hPm hS => ?_)
      have hPc : va_P D vwCl (CW cI ad τ o.2) H := hPc
      refine lv_aload_n hx hbL dL_law_778 rfl (lv_at hl 2 rfl) ?_
      refine lv_aload_n hx hbL dL_law_779 rfl (lv_at hl 0 rfl) ?_
      refine lv_iload_n hx hbL dL_law_780 rfl (lv_at hl 3 rfl) ?_
      refine lv_iconst (v := 1) hx hbL dL_law_781 (by decide) ?_
      refine lv_iadd hx hbL dL_law_782 ?_
      refine va_sld hx hbL hX hbl hbA hS h_1 dL_law_783 ?_
      refine lv_nmi ha1 ?_
      refine lv_aload_n hx hbL dL_law_784 rfl (lv_at hl 0 rfl) ?_
      refine lv_iload_n hx hbL dL_law_785 rfl (lv_at hl 3 rfl) ?_
      refine lv_iconst (v := 2) hx hbL dL_law_786 (by decide) ?_
      refine lv_iadd hx hbL dL_law_787 ?_
      refine va_sld hx hbL hX hbl hbA hS h_2 dL_law_788 ?_
      refine lv_nmi ha2 ?_
      refine wr_calli2 (va_runV (As := [.int a1, .int a2]) (rest := [.int o.1]) S0 (kX11_hears l (D := D) (cI := cI) (cB := cB) (cZ := cZ) (τ := τ) hapm μ a1 a2 _ h2) (cwV 2 htsL gL_law_X11_hears rfl rfl rfl (by decide +kernel) ⟨Nat.le_of_ble_eq_true rfl, Nat.le_of_ble_eq_true rfl⟩) ⟨PW.blind, mw_r0 hK hPm, PW.mk hPm hK hN⟩ rfl rfl hl.1 rfl (lv_room (Nat.le_of_ble_eq_true rfl)) dL_law_789 ⟨Nat.le_of_ble_eq_true rfl, Nat.le_of_ble_eq_true rfl⟩) hS hMA hPc (cw_off hdis) (fun H locs hPm hPc hS => ?_)
      have hPm : va_P D vwCl (MW cI cB cZ am τ o2.2) H := hPm
      refine lv_icmp_eq (tgt := 952) hx hbL dL_law_792 (by decide) (fun _ => ?_) (fun c9 => absurd h3 c9)
      exact go v2 o.2 o2.2 τ hI2 hRc2 hRm2 H locs hPc hPm hS
    by_cases c32_21 : w = 21
    · refine lv_tableIn (tgt := 797) hx hbL dL_law_32 (by rw [c32_21] <;> decide) (by rw [c32_21] <;> decide) (by rw [c32_21] <;> rfl) (by decide) ?_
      obtain ⟨o, o2, v2, h1, h2, h3, hI2, hRc2, hRm2⟩ := E_forget v σ μ  hI hRc hRm
      refine lv_aload_n hx hbL dL_law_797 rfl (lv_at hl 1 rfl) ?_
      refine wr_calli2 (va_runV (As := []) (rest := []) S0 (kX10_forget l (D := D) (cI := cI) (cB := cB) (cZ := cZ) (τ := τ) hapc σ  _ h1) (cwV 0 htsL gL_law_X10_forget rfl rfl rfl (by decide +kernel) ⟨Nat.le_of_ble_eq_true rfl, Nat.le_of_ble_eq_true rfl⟩) ⟨PW.blind, cw_r0 hK hPc, PW.mk hPc hK hN⟩ rfl rfl hl.1 rfl (lv_room (Nat.le_of_ble_eq_true rfl)) dL_law_798 ⟨Nat.le_of_ble_eq_true rfl, Nat.le_of_ble_eq_true rfl⟩) hS hCA hPm (mw_off hdis) (fun H locs hPc hPm hS => ?_)
      have hPc : va_P D vwCl (CW cI ad τ o.2) H := hPc
      refine lv_aload_n hx hbL dL_law_801 rfl (lv_at hl 2 rfl) ?_
      refine wr_calli2 (va_runV (As := []) (rest := [.int o.1]) S0 (kX11_forget l (D := D) (cI := cI) (cB := cB) (cZ := cZ) (τ := τ) hapm μ  _ h2) (cwV 0 htsL gL_law_X11_forget rfl rfl rfl (by decide +kernel) ⟨Nat.le_of_ble_eq_true rfl, Nat.le_of_ble_eq_true rfl⟩) ⟨PW.blind, mw_r0 hK hPm, PW.mk hPm hK hN⟩ rfl rfl hl.1 rfl (lv_room (Nat.le_of_ble_eq_true rfl)) dL_law_802 ⟨Nat.le_of_ble_eq_true rfl, Nat.le_of_ble_eq_true rfl⟩) hS hMA hPc (cw_off hdis) (fun H locs hPm hPc hS => ?_)
      have hPm : va_P D vwCl (MW cI cB cZ am τ o2.2) H := hPm
      refine lv_icmp_eq (tgt := 952) hx hbL dL_law_805 (by decide) (fun _ => ?_) (fun c9 => absurd h3 c9)
      exact go v2 o.2 o2.2 τ hI2 hRc2 hRm2 H locs hPc hPm hS
    by_cases c32_22 : w = 22
    · refine lv_tableIn (tgt := 810) hx hbL dL_law_32 (by rw [c32_22] <;> decide) (by rw [c32_22] <;> decide) (by rw [c32_22] <;> rfl) (by decide) ?_
      obtain ⟨o, o2, v2, h1, h2, h3, hI2, hRc2, hRm2⟩ := E_fits v σ μ  hI hRc hRm
      refine lv_aload_n hx hbL dL_law_810 rfl (lv_at hl 1 rfl) ?_
      refine wr_calli2 (va_runV (As := []) (rest := []) S0 (kX10_fits l (D := D) (cI := cI) (cB := cB) (cZ := cZ) (τ := τ) hapc σ  _ h1) (cwV 0 htsL gL_law_X10_fits rfl rfl rfl (by decide +kernel) ⟨Nat.le_of_ble_eq_true rfl, Nat.le_of_ble_eq_true rfl⟩) ⟨PW.blind, cw_r0 hK hPc, PW.mk hPc hK hN⟩ rfl rfl hl.1 rfl (lv_room (Nat.le_of_ble_eq_true rfl)) dL_law_811 ⟨Nat.le_of_ble_eq_true rfl, Nat.le_of_ble_eq_true rfl⟩) hS hCA hPm (mw_off hdis) (fun H locs hPc hPm hS => ?_)
      have hPc : va_P D vwCl (CW cI ad τ o.2) H := hPc
      refine lv_aload_n hx hbL dL_law_814 rfl (lv_at hl 2 rfl) ?_
      refine rd_calli (va_runV (As := []) (rest := [.int o.1]) S0 (kX11_fits l (D := D) (cI := cI) (cB := cB) (cZ := cZ) (am := am) (τ := τ) μ  _ h2) (cwV 0 htsL gL_law_X11_fits rfl rfl rfl (by decide +kernel) ⟨Nat.le_of_ble_eq_true rfl, Nat.le_of_ble_eq_true rfl⟩) ⟨PW.blind, mw_r0 hK hPm, PW.mk hPm hK hN⟩ rfl rfl hl.1 rfl (lv_room (Nat.le_of_ble_eq_true rfl)) dL_law_815 ⟨Nat.le_of_ble_eq_true rfl, Nat.le_of_ble_eq_true rfl⟩) ?_
      refine lv_icmp_eq (tgt := 952) hx hbL dL_law_818 (by decide) (fun _ => ?_) (fun c9 => absurd h3 c9)
      exact go v2 o.2 μ τ hI2 hRc2 hRm2 H locs hPc hPm hS
    by_cases c32_23 : w = 23
    · refine lv_tableIn (tgt := 823) hx hbL dL_law_32 (by rw [c32_23] <;> decide) (by rw [c32_23] <;> decide) (by rw [c32_23] <;> rfl) (by decide) ?_
      obtain ⟨o, o2, v2, h1, h2, h3, hI2, hRc2, hRm2⟩ := E_ask v σ μ  hI hRc hRm
      refine lv_aload_n hx hbL dL_law_823 rfl (lv_at hl 1 rfl) ?_
      refine wr_calli2 (va_runV (As := []) (rest := []) S0 (kX10_ask l (D := D) (cI := cI) (cB := cB) (cZ := cZ) (τ := τ) hapc σ  _ h1) (cwV 0 htsL gL_law_X10_ask rfl rfl rfl (by decide +kernel) ⟨Nat.le_of_ble_eq_true rfl, Nat.le_of_ble_eq_true rfl⟩) ⟨PW.blind, cw_r0 hK hPc, PW.mk hPc hK hN⟩ rfl rfl hl.1 rfl (lv_room (Nat.le_of_ble_eq_true rfl)) dL_law_824 ⟨Nat.le_of_ble_eq_true rfl, Nat.le_of_ble_eq_true rfl⟩) hS hCA hPm (mw_off hdis) (fun H locs hPc hPm hS => ?_)
      have hPc : va_P D vwCl (CW cI ad τ o.2) H := hPc
      refine lv_aload_n hx hbL dL_law_827 rfl (lv_at hl 2 rfl) ?_
      refine rd_calli (va_runV (As := []) (rest := [.int o.1]) S0 (kX11_ask l (D := D) (cI := cI) (cB := cB) (cZ := cZ) (am := am) (τ := τ) μ  _ h2) (cwV 0 htsL gL_law_X11_ask rfl rfl rfl (by decide +kernel) ⟨Nat.le_of_ble_eq_true rfl, Nat.le_of_ble_eq_true rfl⟩) ⟨PW.blind, mw_r0 hK hPm, PW.mk hPm hK hN⟩ rfl rfl hl.1 rfl (lv_room (Nat.le_of_ble_eq_true rfl)) dL_law_828 ⟨Nat.le_of_ble_eq_true rfl, Nat.le_of_ble_eq_true rfl⟩) ?_
      refine lv_icmp_eq (tgt := 952) hx hbL dL_law_831 (by decide) (fun _ => ?_) (fun c9 => absurd h3 c9)
      exact go v2 o.2 μ τ hI2 hRc2 hRm2 H locs hPc hPm hS
    by_cases c32_24 : w = 24
    · refine lv_tableIn (tgt := 836) hx hbL dL_law_32 (by rw [c32_24] <;> decide) (by rw [c32_24] <;> decide) (by rw [c32_24] <;> rfl) (by decide) ?_
      obtain ⟨o, o2, h1, h2, h3⟩ := E_mark τ v σ μ a1 a2 hI hRc hRm
      refine lv_aload_n hx hbL dL_law_836 rfl (lv_at hl 1 rfl) ?_
      refine lv_aload_n hx hbL dL_law_837 rfl (lv_at hl 0 rfl) ?_
      refine lv_iload_n hx hbL dL_law_838 rfl (lv_at hl 3 rfl) ?_
      refine lv_iconst (v := 1) hx hbL dL_law_839 (by decide) ?_
      refine lv_iadd hx hbL dL_law_840 ?_
      refine va_sld hx hbL hX hbl hbA hS h_1 dL_law_841 ?_
      refine lv_nmi ha1 ?_
      refine lv_aload_n hx hbL dL_law_842 rfl (lv_at hl 0 rfl) ?_
      refine lv_iload_n hx hbL dL_law_843 rfl (lv_at hl 3 rfl) ?_
      refine lv_iconst (v := 2) hx hbL dL_law_844 (by decide) ?_
      refine lv_iadd hx hbL dL_law_845 ?_
      refine va_sld hx hbL hX hbl hbA hS h_2 dL_law_846 ?_
      refine lv_nmi ha2 ?_
      refine wr_calli2 (va_runV (As := [.int a1, .int a2]) (rest := []) S0 (kX10_mark l (D := D) (cI := cI) (cB := cB) (cZ := cZ) hapc σ τ a1 a2 _ h1) (cwV 2 htsL gL_law_X10_mark rfl rfl rfl (by decide +kernel) ⟨Nat.le_of_ble_eq_true rfl, Nat.le_of_ble_eq_true rfl⟩) ⟨PWS.blind, cw_r0 hK hPc, fun U hU hW => ⟨rfl, (PW.mk (av := [Value.ref (ad 0), .int a1, .int a2]) hPc hK hN U hU hW).2, law_SZ hZ hS hCA hU hW.alike⟩⟩ rfl rfl hl.1 rfl (lv_room (Nat.le_of_ble_eq_true rfl)) dL_law_847 ⟨Nat.le_of_ble_eq_true rfl, Nat.le_of_ble_eq_true rfl⟩) hS hCA hPm (mw_off hdis) (fun H locs hPc hPm hS => ?_)
      have hPc : va_P D vwCl (CW cI ad o.2 σ) H := hPc
      refine lv_aload_n hx hbL dL_law_850 rfl (lv_at hl 2 rfl) ?_
      refine lv_aload_n hx hbL dL_law_851 rfl (lv_at hl 0 rfl) ?_
      refine lv_iload_n hx hbL dL_law_852 rfl (lv_at hl 3 rfl) ?_
      refine lv_iconst (v := 1) hx hbL dL_law_853 (by decide) ?_
      refine lv_iadd hx hbL dL_law_854 ?_
      refine va_sld hx hbL hX hbl hbA hS h_1 dL_law_855 ?_
      refine lv_nmi ha1 ?_
      refine lv_aload_n hx hbL dL_law_856 rfl (lv_at hl 0 rfl) ?_
      refine lv_iload_n hx hbL dL_law_857 rfl (lv_at hl 3 rfl) ?_
      refine lv_iconst (v := 2) hx hbL dL_law_858 (by decide) ?_
      refine lv_iadd hx hbL dL_law_859 ?_
      refine va_sld hx hbL hX hbl hbA hS h_2 dL_law_860 ?_
      refine lv_nmi ha2 ?_
      refine wr_calli2 (va_runV (As := [.int a1, .int a2]) (rest := [.int o.1]) S0 (kX11_mark l (D := D) (cI := cI) (cB := cB) (cZ := cZ) hapm μ τ a1 a2 _ h2) (cwV 2 htsL gL_law_X11_mark rfl rfl rfl (by decide +kernel) ⟨Nat.le_of_ble_eq_true rfl, Nat.le_of_ble_eq_true rfl⟩) ⟨PW.blind, mw_r0 hK hPm, PW.mk hPm hK hN⟩ rfl rfl hl.1 rfl (lv_room (Nat.le_of_ble_eq_true rfl)) dL_law_861 ⟨Nat.le_of_ble_eq_true rfl, Nat.le_of_ble_eq_true rfl⟩) hS hMA hPc (cw_off hdis) (fun H locs hPm hPc hS => ?_)
      have hPm : va_P D vwCl (MW cI cB cZ am o2.2 μ) H := hPm
      refine lv_icmp_eq (tgt := 952) hx hbL dL_law_864 (by decide) (fun _ => ?_) (fun c9 => absurd (by rw [h3]) c9)
      rw [← h3] at hPm
      exact go v σ μ o.2 hI hRc hRm H locs hPc hPm hS
    by_cases c32_25 : w = 25
    · refine lv_tableIn (tgt := 869) hx hbL dL_law_32 (by rw [c32_25] <;> decide) (by rw [c32_25] <;> decide) (by rw [c32_25] <;> rfl) (by decide) ?_
      obtain ⟨o, o2, v2, h1, h2, h3, hI2, hRc2, hRm2⟩ := E_keep v σ μ a1 hI hRc hRm
      refine lv_aload_n hx hbL dL_law_869 rfl (lv_at hl 1 rfl) ?_
      refine lv_aload_n hx hbL dL_law_870 rfl (lv_at hl 0 rfl) ?_
      refine lv_iload_n hx hbL dL_law_871 rfl (lv_at hl 3 rfl) ?_
      refine lv_iconst (v := 1) hx hbL dL_law_872 (by decide) ?_
      refine lv_iadd hx hbL dL_law_873 ?_
      refine va_sld hx hbL hX hbl hbA hS h_1 dL_law_874 ?_
      refine lv_nmi ha1 ?_
      refine wr_calli2 (va_runV (As := [.int a1]) (rest := []) S0 (kX10_keep l (D := D) (cI := cI) (cB := cB) (cZ := cZ) (τ := τ) hapc σ a1 _ h1) (cwV 1 htsL gL_law_X10_keep rfl rfl rfl (by decide +kernel) ⟨Nat.le_of_ble_eq_true rfl, Nat.le_of_ble_eq_true rfl⟩) ⟨PW.blind, cw_r0 hK hPc, PW.mk hPc hK hN⟩ rfl rfl hl.1 rfl (lv_room (Nat.le_of_ble_eq_true rfl)) dL_law_875 ⟨Nat.le_of_ble_eq_true rfl, Nat.le_of_ble_eq_true rfl⟩) hS hCA hPm (mw_off hdis) (fun H locs hPc hPm hS => ?_)
      have hPc : va_P D vwCl (CW cI ad τ o.2) H := hPc
      refine lv_aload_n hx hbL dL_law_878 rfl (lv_at hl 2 rfl) ?_
      refine lv_aload_n hx hbL dL_law_879 rfl (lv_at hl 0 rfl) ?_
      refine lv_iload_n hx hbL dL_law_880 rfl (lv_at hl 3 rfl) ?_
      refine lv_iconst (v := 1) hx hbL dL_law_881 (by decide) ?_
      refine lv_iadd hx hbL dL_law_882 ?_
      refine va_sld hx hbL hX hbl hbA hS h_1 dL_law_883 ?_
      refine lv_nmi ha1 ?_
      refine wr_calli2 (va_runV (As := [.int a1]) (rest := [.int o.1]) S0 (kX11_keep l (D := D) (cI := cI) (cB := cB) (cZ := cZ) (τ := τ) hapm μ a1 _ h2) (cwV 1 htsL gL_law_X11_keep rfl rfl rfl (by decide +kernel) ⟨Nat.le_of_ble_eq_true rfl, Nat.le_of_ble_eq_true rfl⟩) ⟨PW.blind, mw_r0 hK hPm, PW.mk hPm hK hN⟩ rfl rfl hl.1 rfl (lv_room (Nat.le_of_ble_eq_true rfl)) dL_law_884 ⟨Nat.le_of_ble_eq_true rfl, Nat.le_of_ble_eq_true rfl⟩) hS hMA hPc (cw_off hdis) (fun H locs hPm hPc hS => ?_)
      have hPm : va_P D vwCl (MW cI cB cZ am τ o2.2) H := hPm
      refine lv_icmp_eq (tgt := 952) hx hbL dL_law_887 (by decide) (fun _ => ?_) (fun c9 => absurd h3 c9)
      exact go v2 o.2 o2.2 τ hI2 hRc2 hRm2 H locs hPc hPm hS
    by_cases c32_26 : w = 26
    · refine lv_tableIn (tgt := 892) hx hbL dL_law_32 (by rw [c32_26] <;> decide) (by rw [c32_26] <;> decide) (by rw [c32_26] <;> rfl) (by decide) ?_
      obtain ⟨o, o2, v2, h1, h2, h3, hI2, hRc2, hRm2⟩ := E_back v σ μ a1 hI hRc hRm
      refine lv_aload_n hx hbL dL_law_892 rfl (lv_at hl 1 rfl) ?_
      refine lv_aload_n hx hbL dL_law_893 rfl (lv_at hl 0 rfl) ?_
      refine lv_iload_n hx hbL dL_law_894 rfl (lv_at hl 3 rfl) ?_
      refine lv_iconst (v := 1) hx hbL dL_law_895 (by decide) ?_
      refine lv_iadd hx hbL dL_law_896 ?_
      refine va_sld hx hbL hX hbl hbA hS h_1 dL_law_897 ?_
      refine lv_nmi ha1 ?_
      refine wr_calli2 (va_runV (As := [.int a1]) (rest := []) S0 (kX10_back l (D := D) (cI := cI) (cB := cB) (cZ := cZ) (τ := τ) hapc σ a1 _ h1) (cwV 1 htsL gL_law_X10_back rfl rfl rfl (by decide +kernel) ⟨Nat.le_of_ble_eq_true rfl, Nat.le_of_ble_eq_true rfl⟩) ⟨PW.blind, cw_r0 hK hPc, PW.mk hPc hK hN⟩ rfl rfl hl.1 rfl (lv_room (Nat.le_of_ble_eq_true rfl)) dL_law_898 ⟨Nat.le_of_ble_eq_true rfl, Nat.le_of_ble_eq_true rfl⟩) hS hCA hPm (mw_off hdis) (fun H locs hPc hPm hS => ?_)
      have hPc : va_P D vwCl (CW cI ad τ o.2) H := hPc
      refine lv_aload_n hx hbL dL_law_901 rfl (lv_at hl 2 rfl) ?_
      refine lv_aload_n hx hbL dL_law_902 rfl (lv_at hl 0 rfl) ?_
      refine lv_iload_n hx hbL dL_law_903 rfl (lv_at hl 3 rfl) ?_
      refine lv_iconst (v := 1) hx hbL dL_law_904 (by decide) ?_
      refine lv_iadd hx hbL dL_law_905 ?_
      refine va_sld hx hbL hX hbl hbA hS h_1 dL_law_906 ?_
      refine lv_nmi ha1 ?_
      refine wr_calli2 (va_runV (As := [.int a1]) (rest := [.int o.1]) S0 (kX11_back l (D := D) (cI := cI) (cB := cB) (cZ := cZ) (τ := τ) hapm μ a1 _ h2) (cwV 1 htsL gL_law_X11_back rfl rfl rfl (by decide +kernel) ⟨Nat.le_of_ble_eq_true rfl, Nat.le_of_ble_eq_true rfl⟩) ⟨PW.blind, mw_r0 hK hPm, PW.mk hPm hK hN⟩ rfl rfl hl.1 rfl (lv_room (Nat.le_of_ble_eq_true rfl)) dL_law_907 ⟨Nat.le_of_ble_eq_true rfl, Nat.le_of_ble_eq_true rfl⟩) hS hMA hPc (cw_off hdis) (fun H locs hPm hPc hS => ?_)
      have hPm : va_P D vwCl (MW cI cB cZ am τ o2.2) H := hPm
      refine lv_icmp_eq (tgt := 952) hx hbL dL_law_910 (by decide) (fun _ => ?_) (fun c9 => absurd h3 c9)
      exact go v2 o.2 o2.2 τ hI2 hRc2 hRm2 H locs hPc hPm hS
    by_cases c32_27 : w = 27
    · refine lv_tableIn (tgt := 915) hx hbL dL_law_32 (by rw [c32_27] <;> decide) (by rw [c32_27] <;> decide) (by rw [c32_27] <;> rfl) (by decide) ?_
      obtain ⟨o2, h2, h3⟩ := E_count v σ μ a1 hI hRc hRm
      refine lv_aload_n hx hbL dL_law_915 rfl (lv_at hl 1 rfl) ?_
      refine lv_aload_n hx hbL dL_law_916 rfl (lv_at hl 0 rfl) ?_
      refine lv_iload_n hx hbL dL_law_917 rfl (lv_at hl 3 rfl) ?_
      refine lv_iconst (v := 1) hx hbL dL_law_918 (by decide) ?_
      refine lv_iadd hx hbL dL_law_919 ?_
      refine va_sld hx hbL hX hbl hbA hS h_1 dL_law_920 ?_
      refine lv_nmi ha1 ?_
      refine rd_calli (va_runV (As := [.int a1]) (rest := []) S0 (kX10_count l (D := D) (cI := cI) (cB := cB) (cZ := cZ) (ad := ad) (τ := τ) σ a1) (cwV 1 htsL gL_law_X10_count rfl rfl rfl (by decide +kernel) ⟨Nat.le_of_ble_eq_true rfl, Nat.le_of_ble_eq_true rfl⟩) ⟨PW.blind, cw_r0 hK hPc, PW.mk hPc hK hN⟩ rfl rfl hl.1 rfl (lv_room (Nat.le_of_ble_eq_true rfl)) dL_law_921 ⟨Nat.le_of_ble_eq_true rfl, Nat.le_of_ble_eq_true rfl⟩) ?_
      refine lv_aload_n hx hbL dL_law_924 rfl (lv_at hl 2 rfl) ?_
      refine lv_aload_n hx hbL dL_law_925 rfl (lv_at hl 0 rfl) ?_
      refine lv_iload_n hx hbL dL_law_926 rfl (lv_at hl 3 rfl) ?_
      refine lv_iconst (v := 1) hx hbL dL_law_927 (by decide) ?_
      refine lv_iadd hx hbL dL_law_928 ?_
      refine va_sld hx hbL hX hbl hbA hS h_1 dL_law_929 ?_
      refine lv_nmi ha1 ?_
      refine rd_calli (va_runV (As := [.int a1]) (rest := [.int (pX10_count σ a1)]) S0 (kX11_count l (D := D) (cI := cI) (cB := cB) (cZ := cZ) (am := am) (τ := τ) μ a1 _ h2) (cwV 1 htsL gL_law_X11_count rfl rfl rfl (by decide +kernel) ⟨Nat.le_of_ble_eq_true rfl, Nat.le_of_ble_eq_true rfl⟩) ⟨PW.blind, mw_r0 hK hPm, PW.mk hPm hK hN⟩ rfl rfl hl.1 rfl (lv_room (Nat.le_of_ble_eq_true rfl)) dL_law_930 ⟨Nat.le_of_ble_eq_true rfl, Nat.le_of_ble_eq_true rfl⟩) ?_
      refine lv_icmp_eq (tgt := 952) hx hbL dL_law_933 (by decide) (fun _ => ?_) (fun c9 => absurd h3 c9)
      exact go v σ μ τ hI hRc hRm H locs hPc hPm hS
    by_cases c32_28 : w = 28
    · refine lv_tableIn (tgt := 938) hx hbL dL_law_32 (by rw [c32_28] <;> decide) (by rw [c32_28] <;> decide) (by rw [c32_28] <;> rfl) (by decide) ?_
      refine lv_aload_n hx hbL dL_law_938 rfl (lv_at hl 1 rfl) ?_
      refine rd_calll (va_runV (As := []) (rest := []) S0 (kX10_trace l (D := D) (cI := cI) (cB := cB) (cZ := cZ) (ad := ad) (τ := τ) σ) (cwV 0 htsL gL_law_X10_trace rfl rfl rfl (by decide +kernel) ⟨Nat.le_of_ble_eq_true rfl, Nat.le_of_ble_eq_true rfl⟩) ⟨PW.blind, cw_r0 hK hPc, PW.mk hPc hK hN⟩ rfl rfl hl.1 rfl (lv_room (Nat.le_of_ble_eq_true rfl)) dL_law_939 ⟨Nat.le_of_ble_eq_true rfl, Nat.le_of_ble_eq_true rfl⟩) ?_
      refine lv_aload_n hx hbL dL_law_942 rfl (lv_at hl 2 rfl) ?_
      refine rd_calll (va_runV (As := []) (rest := [.long (pX10_trace σ τ)]) S0 (kX11_trace l (D := D) (cI := cI) (cB := cB) (cZ := cZ) (am := am) (τ := τ) μ) (cwV 0 htsL gL_law_X11_trace rfl rfl rfl (by decide +kernel) ⟨Nat.le_of_ble_eq_true rfl, Nat.le_of_ble_eq_true rfl⟩) ⟨PW.blind, mw_r0 hK hPm, PW.mk hPm hK hN⟩ rfl rfl hl.1 rfl (lv_room (Nat.le_of_ble_eq_true rfl)) dL_law_943 ⟨Nat.le_of_ble_eq_true rfl, Nat.le_of_ble_eq_true rfl⟩) ?_
      refine W.lcmp hx hbL dL_law_946 ?_
      refine lv_if_eq (tgt := 952) hx hbL dL_law_947 (by decide) (fun _ => ?_) (fun c9 => absurd (cmp_self τ) c9)
      exact go v σ μ τ hI hRc hRm H locs hPc hPm hS
    refine lv_tableOut (tgt := 952) hx hbL dL_law_32 (by have z0 := lv_neT (a := 0) c32_0 (by decide); have z1 := lv_neT (a := 1) c32_1 (by decide); have z2 := lv_neT (a := 2) c32_2 (by decide); have z3 := lv_neT (a := 3) c32_3 (by decide); have z4 := lv_neT (a := 4) c32_4 (by decide); have z5 := lv_neT (a := 5) c32_5 (by decide); have z6 := lv_neT (a := 6) c32_6 (by decide); have z7 := lv_neT (a := 7) c32_7 (by decide); have z8 := lv_neT (a := 8) c32_8 (by decide); have z9 := lv_neT (a := 9) c32_9 (by decide); have z10 := lv_neT (a := 10) c32_10 (by decide); have z11 := lv_neT (a := 11) c32_11 (by decide); have z12 := lv_neT (a := 12) c32_12 (by decide); have z13 := lv_neT (a := 13) c32_13 (by decide); have z14 := lv_neT (a := 14) c32_14 (by decide); have z15 := lv_neT (a := 15) c32_15 (by decide); have z16 := lv_neT (a := 16) c32_16 (by decide); have z17 := lv_neT (a := 17) c32_17 (by decide); have z18 := lv_neT (a := 18) c32_18 (by decide); have z19 := lv_neT (a := 19) c32_19 (by decide); have z20 := lv_neT (a := 20) c32_20 (by decide); have z21 := lv_neT (a := 21) c32_21 (by decide); have z22 := lv_neT (a := 22) c32_22 (by decide); have z23 := lv_neT (a := 23) c32_23 (by decide); have z24 := lv_neT (a := 24) c32_24 (by decide); have z25 := lv_neT (a := 25) c32_25 (by decide); have z26 := lv_neT (a := 26) c32_26 (by decide); have z27 := lv_neT (a := 27) c32_27 (by decide); have z28 := lv_neT (a := 28) c32_28 (by decide); omega) (by decide) ?_
    exact go v σ μ τ hI hRc hRm H locs hPc hPm hS
