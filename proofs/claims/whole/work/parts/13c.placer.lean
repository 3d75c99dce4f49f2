set_option maxHeartbeats 4000000 in
set_option maxRecDepth 100000 in
theorem c_X2_shiftOf (l : Launch) (D : va_G) (cy : Nat → ClassId) (x0 : Int32) (post : Int32 → Prop) (h : sm_X2_shiftOf x0 post) : xw_Ri l yX2_shiftOf wsX2_shiftOf ({ frames := 0, cells := 0, slots := 0, locals := 0 }) D cy [.int x0] ([]) post := by
  intro A
  refine Met.ofW (cc := cX2_shiftOf) (maxL := 1) (ret := (some .int)) (by decide) rfl ?_
  intro p e s m args below meth c s₁ B hml hv
  obtain ⟨rfl, hP, hB, hD⟩ := hv
  have hP : va_P D vwCl ([]) s.heap := hP
  have hx := B.exec
  have hb := B.bytes
  have hr := B.returns
  have hts := atoms_spec (ws := wsX2_shiftOf) B.pre
  have hown : s.vm.findClass RX2 = some m.cls := findClass_of_methodNamed B.named
  have hlocks := B.notSynchronized
  refine xw_go (fun WW hWW => ?_)
  have hl := lv_entry ([.int x0]) (n := 1) (Nat.le_of_ble_eq_true rfl)
  rw [lg_entry_eq]
  generalize (lg_sl ([.int x0]) ++ List.replicate (1 - (lg_sl ([.int x0])).length) Slot.unset).toArray = ls at hl ⊢
  have hl : lv_has ls 1 [(0, .int x0)] := hl
  unfold sm_X2_shiftOf at h
  refine lv_bipush (v := 8) hx hb dX2_shiftOf_0 (by decide) ?_
  refine lv_iconst (v := 4) hx hb dX2_shiftOf_2 (by decide) ?_
  refine lv_iload_n hx hb dX2_shiftOf_3 rfl (lv_at hl 0 rfl) ?_
  refine lv_isub hx hb dX2_shiftOf_4 ?_
  refine lv_imul hx hb dX2_shiftOf_5 ?_
  exact xw_ireti hx hb hr hlocks h dX2_shiftOf_6

theorem mX2_costOf_1 : Cond.methodLink RX2 69 Lib.Math.abs.name ∈ wsX2_costOf := List.mem_of_getElem? (i := 1) rfl
theorem mX2_costOf_2 : Cond.static Lib.Math.abs.name ∈ wsX2_costOf := List.mem_of_getElem? (i := 2) rfl
theorem mX2_costOf_3 : Cond.initialized "java/lang/Math" ∈ wsX2_costOf := List.mem_of_getElem? (i := 3) rfl
theorem mX2_costOf_4 : Cond.code Lib.Math.abs.name Lib.Math.abs.code 1 (some .int) ∈ wsX2_costOf := List.mem_of_getElem? (i := 4) rfl
theorem mX2_costOf_8 : Cond.methodLink RX2 78 Lib.Math.min.name ∈ wsX2_costOf := List.mem_of_getElem? (i := 8) rfl
theorem mX2_costOf_9 : Cond.static Lib.Math.min.name ∈ wsX2_costOf := List.mem_of_getElem? (i := 9) rfl
theorem mX2_costOf_10 : Cond.code Lib.Math.min.name Lib.Math.min.code 2 (some .int) ∈ wsX2_costOf := List.mem_of_getElem? (i := 10) rfl
theorem mX2_costOf_5 : Cond.methodLink RX2 74 Lib.Math.max.name ∈ wsX2_costOf := List.mem_of_getElem? (i := 5) rfl
theorem mX2_costOf_6 : Cond.static Lib.Math.max.name ∈ wsX2_costOf := List.mem_of_getElem? (i := 6) rfl
theorem mX2_costOf_7 : Cond.code Lib.Math.max.name Lib.Math.max.code 2 (some .int) ∈ wsX2_costOf := List.mem_of_getElem? (i := 7) rfl
set_option maxHeartbeats 4000000 in
set_option maxRecDepth 100000 in
theorem c_X2_costOf (l : Launch) (D : va_G) (cy : Nat → ClassId) (x0 : Int32) (x1 : Int32) (x2 : Int32) (x3 : Int32) (x4 : Int32) (post : Int32 → Prop) (h : sm_X2_costOf x0 x1 x2 x3 x4 post) : xw_Ri l yX2_costOf wsX2_costOf ({ frames := 1, cells := 0, slots := 0, locals := 23 }) D cy [.int x0, .int x1, .int x2, .int x3, .int x4] ([]) post := by
  intro A
  refine Met.ofW (cc := cX2_costOf) (maxL := 8) (ret := (some .int)) (by decide) rfl ?_
  intro p e s m args below meth c s₁ B hml hv
  obtain ⟨rfl, hP, hB, hD⟩ := hv
  have hP : va_P D vwCl ([]) s.heap := hP
  have hx := B.exec
  have hb := B.bytes
  have hr := B.returns
  have hts := atoms_spec (ws := wsX2_costOf) B.pre
  have hown : s.vm.findClass RX2 = some m.cls := findClass_of_methodNamed B.named
  have hlocks := B.notSynchronized
  refine xw_go (fun WW hWW => ?_)
  have hl := lv_entry ([.int x0, .int x1, .int x2, .int x3, .int x4]) (n := 8) (Nat.le_of_ble_eq_true rfl)
  rw [lg_entry_eq]
  generalize (lg_sl ([.int x0, .int x1, .int x2, .int x3, .int x4]) ++ List.replicate (8 - (lg_sl ([.int x0, .int x1, .int x2, .int x3, .int x4])).length) Slot.unset).toArray = ls at hl ⊢
  have hl : lv_has ls 8 [(0, .int x0), (1, .int x1), (2, .int x2), (3, .int x3), (4, .int x4)] := hl
  unfold sm_X2_costOf at h
  refine lv_iload_n hx hb dX2_costOf_0 rfl (lv_at hl 3 rfl) ?_
  refine lv_iload_n hx hb dX2_costOf_1 rfl (lv_at hl 1 rfl) ?_
  refine lv_isub hx hb dX2_costOf_2 ?_
  refine va_mabs hx hb (hml.trans hl.1.symm) hown (hts _ mX2_costOf_1) (hts _ mX2_costOf_2) (hts _ mX2_costOf_3) (hts _ mX2_costOf_4) (Nat.le_of_ble_eq_true rfl) (Nat.le_of_ble_eq_true rfl) (Nat.le_of_ble_eq_true rfl) (Nat.le_of_ble_eq_true rfl) dX2_costOf_3 ?_
  refine lv_topi (fun v9 ev9 => ?_)
  have h := h v9 ev9
  refine lv_istore (lv' := [(5, .int v9), (0, .int x0), (1, .int x1), (2, .int x2), (3, .int x3), (4, .int x4)]) hx hb dX2_costOf_6 hl (by decide) rfl (fun ls hl => ?_)
  refine lv_iload hx hb dX2_costOf_8 (lv_at hl 5 rfl) ?_
  refine lv_iload_n hx hb dX2_costOf_10 rfl (lv_at hl 3 rfl) ?_
  refine lv_isub hx hb dX2_costOf_11 ?_
  refine va_mabs hx hb (hml.trans hl.1.symm) hown (hts _ mX2_costOf_1) (hts _ mX2_costOf_2) (hts _ mX2_costOf_3) (hts _ mX2_costOf_4) (Nat.le_of_ble_eq_true rfl) (Nat.le_of_ble_eq_true rfl) (Nat.le_of_ble_eq_true rfl) (Nat.le_of_ble_eq_true rfl) dX2_costOf_12 ?_
  refine lv_topi (fun v10 ev10 => ?_)
  have h := h v10 ev10
  refine lv_istore (lv' := [(6, .int v10), (5, .int v9), (0, .int x0), (1, .int x1), (2, .int x2), (3, .int x3), (4, .int x4)]) hx hb dX2_costOf_15 hl (by decide) rfl (fun ls hl => ?_)
  refine lv_iload_n hx hb dX2_costOf_17 rfl (lv_at hl 2 rfl) ?_
  refine lv_iconst (v := 4) hx hb dX2_costOf_18 (by decide) ?_
  refine lv_icmp_ne (tgt := 32) hx hb dX2_costOf_19 (by decide) (fun c11 => ?_) (fun c11 => ?_)
  · have h := h.1 c11
    refine lv_iload_n hx hb dX2_costOf_32 rfl (lv_at hl 2 rfl) ?_
    refine lv_iconst (v := 2) hx hb dX2_costOf_33 (by decide) ?_
    refine lv_icmp_ge (tgt := 43) hx hb dX2_costOf_34 (by decide) (fun c12 => ?_) (fun c12 => ?_)
    · have h := h.1 c12
      refine lv_iconst (v := 0) hx hb dX2_costOf_43 (by decide) ?_
      refine lv_iload hx hb dX2_costOf_44 (lv_at hl 6 rfl) ?_
      refine lv_iload_n hx hb dX2_costOf_46 rfl (lv_at hl 4 rfl) ?_
      refine va_mmin hx hb (hml.trans hl.1.symm) hown (hts _ mX2_costOf_8) (hts _ mX2_costOf_9) (hts _ mX2_costOf_3) (hts _ mX2_costOf_10) (Nat.le_of_ble_eq_true rfl) (Nat.le_of_ble_eq_true rfl) (Nat.le_of_ble_eq_true rfl) (Nat.le_of_ble_eq_true rfl) dX2_costOf_47 ?_
      refine lv_topi (fun v13 ev13 => ?_)
      have h := h v13 ev13
      refine lv_iload_n hx hb dX2_costOf_50 rfl (lv_at hl 5 rfl) ?_
      refine lv_iload_n hx hb dX2_costOf_51 rfl (lv_at hl 3 rfl) ?_
      refine va_mmax hx hb (hml.trans hl.1.symm) hown (hts _ mX2_costOf_5) (hts _ mX2_costOf_6) (hts _ mX2_costOf_3) (hts _ mX2_costOf_7) (Nat.le_of_ble_eq_true rfl) (Nat.le_of_ble_eq_true rfl) (Nat.le_of_ble_eq_true rfl) (Nat.le_of_ble_eq_true rfl) dX2_costOf_52 ?_
      refine lv_topi (fun v14 ev14 => ?_)
      have h := h v14 ev14
      refine lv_isub hx hb dX2_costOf_55 ?_
      refine va_mmax hx hb (hml.trans hl.1.symm) hown (hts _ mX2_costOf_5) (hts _ mX2_costOf_6) (hts _ mX2_costOf_3) (hts _ mX2_costOf_7) (Nat.le_of_ble_eq_true rfl) (Nat.le_of_ble_eq_true rfl) (Nat.le_of_ble_eq_true rfl) (Nat.le_of_ble_eq_true rfl) dX2_costOf_56 ?_
      refine lv_topi (fun v15 ev15 => ?_)
      have h := h v15 ev15
      refine lv_istore (lv' := [(7, .int v15), (6, .int v10), (5, .int v9), (0, .int x0), (1, .int x1), (2, .int x2), (3, .int x3), (4, .int x4)]) hx hb dX2_costOf_59 hl (by decide) rfl (fun ls hl => ?_)
      refine lv_iload hx hb dX2_costOf_61 (lv_at hl 2 rfl) ?_
      refine lv_iload hx hb dX2_costOf_63 (lv_at hl 1 rfl) ?_
      refine lv_iadd hx hb dX2_costOf_65 ?_
      refine lv_iconst (v := 2) hx hb dX2_costOf_66 (by decide) ?_
      refine lv_iload_n hx hb dX2_costOf_67 rfl (lv_at hl 5 rfl) ?_
      refine lv_iload_n hx hb dX2_costOf_68 rfl (lv_at hl 4 rfl) ?_
      refine lv_isub hx hb dX2_costOf_69 ?_
      refine lv_iload hx hb dX2_costOf_70 (lv_at hl 0 rfl) ?_
      refine lv_isub hx hb dX2_costOf_72 ?_
      refine lv_imul hx hb dX2_costOf_73 ?_
      refine lv_iadd hx hb dX2_costOf_74 ?_
      exact xw_ireti hx hb hr hlocks h dX2_costOf_75
    · have h := h.2 c12
      refine lv_iload hx hb dX2_costOf_37 (lv_at hl 1 rfl) ?_
      refine lv_iload hx hb dX2_costOf_39 (lv_at hl 0 rfl) ?_
      refine lv_iadd hx hb dX2_costOf_41 ?_
      exact xw_ireti hx hb hr hlocks h dX2_costOf_42
  · have h := h.2 c11
    refine lv_iconst (v := 2) hx hb dX2_costOf_22 (by decide) ?_
    refine lv_iload hx hb dX2_costOf_23 (lv_at hl 1 rfl) ?_
    refine lv_iload hx hb dX2_costOf_25 (lv_at hl 0 rfl) ?_
    refine va_mmax hx hb (hml.trans hl.1.symm) hown (hts _ mX2_costOf_5) (hts _ mX2_costOf_6) (hts _ mX2_costOf_3) (hts _ mX2_costOf_7) (Nat.le_of_ble_eq_true rfl) (Nat.le_of_ble_eq_true rfl) (Nat.le_of_ble_eq_true rfl) (Nat.le_of_ble_eq_true rfl) dX2_costOf_27 ?_
    refine lv_topi (fun v16 ev16 => ?_)
    have h := h v16 ev16
    refine lv_imul hx hb dX2_costOf_30 ?_
    exact xw_ireti hx hb hr hlocks h dX2_costOf_31

theorem mX2_findPrices_1 : Cond.fieldLink RX2 21 "TagCarrier$PairPlacer" "prices" "[J" ∈ wsX2_findPrices := List.mem_of_getElem? (i := 1) rfl
theorem mX2_findPrices_inX2 : ∀ w ∈ u_ws RX2 TX2 8, w ∈ wsX2_findPrices := by decide +kernel
set_option maxHeartbeats 4000000 in
set_option maxRecDepth 100000 in
theorem c_X2_findPrices (l : Launch) (D : va_G) (cy : Nat → ClassId) (a : Nat → Nat) (x1 : Int32) (x2 : Int32) (x3 : Int32) (x4 : Int32) (I : xw_I) (F : xw_F) (G : xw_G) (post : xw_I → xw_F → xw_G → Prop) (h : sm_X2_findPrices x1 x2 x3 x4 I F G post) : xw_Wv l yX2_findPrices wsX2_findPrices ({ frames := 2, cells := 0, slots := 0, locals := 50 }) D cy [.ref (a 25), .int x1, .int x2, .int x3, .int x4] (xC_w cy a I F G) (xC_w cy a) post := by
  intro A
  refine Met.ofW (cc := cX2_findPrices) (maxL := 12) (ret := none) (by decide) rfl ?_
  intro p e s m args below meth c s₁ B hml hv
  obtain ⟨rfl, hP, hB, hD⟩ := hv
  have hP : va_P D vwCl (xC_w cy a I F G) s.heap := hP
  have hx := B.exec
  have hb := B.bytes
  have hr := B.returns
  have hts := atoms_spec (ws := wsX2_findPrices) B.pre
  have hown : s.vm.findClass RX2 = some m.cls := findClass_of_methodNamed B.named
  have hlocks := B.notSynchronized
  have hS : va_S A s.heap s.heap [] := va_S.rf
  refine xw_go (fun WW hWW => ?_)
  have hl := lv_entry ([.ref (a 25), .int x1, .int x2, .int x3, .int x4]) (n := 12) (Nat.le_of_ble_eq_true rfl)
  rw [lg_entry_eq]
  generalize (lg_sl ([.ref (a 25), .int x1, .int x2, .int x3, .int x4]) ++ List.replicate (12 - (lg_sl ([.ref (a 25), .int x1, .int x2, .int x3, .int x4])).length) Slot.unset).toArray = ls at hl ⊢
  have hl : lv_has ls 12 [(0, .ref (a 25)), (1, .int x1), (2, .int x2), (3, .int x3), (4, .int x4)] := hl
  obtain ⟨k9, mk9, el9⟩ : ∃ K : Int32 → Int32 → xw_I → xw_F → xw_G → Prop, (∀ (y5 : Int32) (y6 : Int32) (I : xw_I) (F : xw_F) (G : xw_G), (∀ (H : Heap) (locs : List Loc) (ls : Array Slot), va_P D vwCl (xC_w cy a I F G) H → va_D A (xC_w cy a I F G) → va_S A s.heap H locs → lv_has ls 12 [(0, .ref (a 25)), (1, .int x1), (2, .int x2), (3, .int x3), (4, .int x4), (5, .int y5), (6, .int y6)] → WW H locs (F0 m 9 ls [])) → K y5 y6 I F G) ∧ (∀ (y5 : Int32) (y6 : Int32) (I : xw_I) (F : xw_F) (G : xw_G), K y5 y6 I F G → (∀ (H : Heap) (locs : List Loc) (ls : Array Slot), va_P D vwCl (xC_w cy a I F G) H → va_D A (xC_w cy a I F G) → va_S A s.heap H locs → lv_has ls 12 [(0, .ref (a 25)), (1, .int x1), (2, .int x2), (3, .int x3), (4, .int x4), (5, .int y5), (6, .int y6)] → WW H locs (F0 m 9 ls []))) := ⟨fun (y5 : Int32) (y6 : Int32) (I : xw_I) (F : xw_F) (G : xw_G) => (∀ (H : Heap) (locs : List Loc) (ls : Array Slot), va_P D vwCl (xC_w cy a I F G) H → va_D A (xC_w cy a I F G) → va_S A s.heap H locs → lv_has ls 12 [(0, .ref (a 25)), (1, .int x1), (2, .int x2), (3, .int x3), (4, .int x4), (5, .int y5), (6, .int y6)] → WW H locs (F0 m 9 ls [])), fun _ _ _ _ _ h => h, fun _ _ _ _ _ h => h⟩
  obtain ⟨k20, mk20, el20⟩ : ∃ K : Int32 → Int32 → Int32 → xw_I → xw_F → xw_G → Prop, (∀ (y5 : Int32) (y6 : Int32) (y7 : Int32) (I : xw_I) (F : xw_F) (G : xw_G), (∀ (H : Heap) (locs : List Loc) (ls : Array Slot), va_P D vwCl (xC_w cy a I F G) H → va_D A (xC_w cy a I F G) → va_S A s.heap H locs → lv_has ls 12 [(0, .ref (a 25)), (1, .int x1), (2, .int x2), (3, .int x3), (4, .int x4), (5, .int y5), (6, .int y6), (7, .int y7)] → WW H locs (F0 m 20 ls [])) → K y5 y6 y7 I F G) ∧ (∀ (y5 : Int32) (y6 : Int32) (y7 : Int32) (I : xw_I) (F : xw_F) (G : xw_G), K y5 y6 y7 I F G → (∀ (H : Heap) (locs : List Loc) (ls : Array Slot), va_P D vwCl (xC_w cy a I F G) H → va_D A (xC_w cy a I F G) → va_S A s.heap H locs → lv_has ls 12 [(0, .ref (a 25)), (1, .int x1), (2, .int x2), (3, .int x3), (4, .int x4), (5, .int y5), (6, .int y6), (7, .int y7)] → WW H locs (F0 m 20 ls []))) := ⟨fun (y5 : Int32) (y6 : Int32) (y7 : Int32) (I : xw_I) (F : xw_F) (G : xw_G) => (∀ (H : Heap) (locs : List Loc) (ls : Array Slot), va_P D vwCl (xC_w cy a I F G) H → va_D A (xC_w cy a I F G) → va_S A s.heap H locs → lv_has ls 12 [(0, .ref (a 25)), (1, .int x1), (2, .int x2), (3, .int x3), (4, .int x4), (5, .int y5), (6, .int y6), (7, .int y7)] → WW H locs (F0 m 20 ls [])), fun _ _ _ _ _ _ h => h, fun _ _ _ _ _ _ h => h⟩
  have rl9 : ∀ (y5 : Int32) (y6 : Int32) (I : xw_I) (F : xw_F) (G : xw_G), (bd_X2_findPrices_9 x1 x2 x3 x4 post k9 k20 y5 y6 I F G) → k9 y5 y6 I F G := by
    intro y5 y6 I F G h
    refine mk9 _ _ _ _ _ ?_
    intro H locs ls hP hD hS hl
    refine (hWW _ _ _).mpr ?_
    unfold bd_X2_findPrices_9 at h
    refine lv_iload hx hb dX2_findPrices_9 (lv_at hl 6 rfl) ?_
    refine lv_iload hx hb dX2_findPrices_11 (lv_at hl 4 rfl) ?_
    refine lv_icmp_gt (tgt := 91) hx hb dX2_findPrices_13 (by decide) (fun c9 => ?_) (fun c9 => ?_)
    · have h := h.1 c9
      exact xw_wretv hx hb hr hlocks hP hD hS h dX2_findPrices_91
    · have h := h.2 c9
      refine lv_iload hx hb dX2_findPrices_16 (lv_at hl 6 rfl) ?_
      refine lv_istore (lv' := [(7, .int y6), (0, .ref (a 25)), (1, .int x1), (2, .int x2), (3, .int x3), (4, .int x4), (5, .int y5), (6, .int y6)]) hx hb dX2_findPrices_18 hl (by decide) rfl (fun ls hl => ?_)
      exact (hWW _ _ _).mp (el20 _ _ _ _ _ _ h _ _ ls hP hD hS (lv_sub hl [1, 2, 3, 4, 5, 6, 7, 0] rfl))
  have rl20 : ∀ (y5 : Int32) (y6 : Int32) (y7 : Int32) (I : xw_I) (F : xw_F) (G : xw_G), (bd_X2_findPrices_20 x1 x2 x3 x4 post k9 k20 y5 y6 y7 I F G) → k20 y5 y6 y7 I F G := by
    intro y5 y6 y7 I F G h
    refine mk20 _ _ _ _ _ _ ?_
    intro H locs ls hP hD hS hl
    refine (hWW _ _ _).mpr ?_
    unfold bd_X2_findPrices_20 at h
    refine lv_iload hx hb dX2_findPrices_20 (lv_at hl 7 rfl) ?_
    refine lv_iload hx hb dX2_findPrices_22 (lv_at hl 4 rfl) ?_
    refine lv_icmp_gt (tgt := 85) hx hb dX2_findPrices_24 (by decide) (fun c10 => ?_) (fun c10 => ?_)
    · have h := h.1 c10
      obtain ⟨v11, ev11⟩ : ∃ y : Int32, y = y6 + 1 := ⟨_, rfl⟩
      have h := h v11 ev11
      refine lv_iinc (v := v11) (lv' := [(6, .int v11), (0, .ref (a 25)), (1, .int x1), (2, .int x2), (3, .int x3), (4, .int x4), (5, .int y5), (7, .int y7)]) hx hb dX2_findPrices_85 hl (k := 6) rfl (by rw [ev11]; rfl) (by decide) rfl (fun ls hl => ?_)
      refine lv_goto (tgt := 9) hx hb dX2_findPrices_88 (by decide) ?_
      exact (hWW _ _ _).mp (el9 _ _ _ _ _ h _ _ ls hP hD hS (lv_sub hl [1, 2, 3, 4, 5, 6, 0] rfl))
    · have h := h.2 c10
      refine lv_iload_n hx hb dX2_findPrices_27 rfl (lv_at hl 1 rfl) ?_
      refine lv_iload_n hx hb dX2_findPrices_28 rfl (lv_at hl 2 rfl) ?_
      refine lv_iload_n hx hb dX2_findPrices_29 rfl (lv_at hl 3 rfl) ?_
      refine lv_iload hx hb dX2_findPrices_30 (lv_at hl 6 rfl) ?_
      refine lv_iload hx hb dX2_findPrices_32 (lv_at hl 7 rfl) ?_
      refine xw_ri (va_runS (rm := { frames := 1, cells := 0, slots := 0, locals := 23 }) (As := [.int x1, .int x2, .int x3, .int y6, .int y7]) (rest := []) ⟨hx, hb, hml, hown, hts⟩ (c_X2_costOf l D cy x1 x2 x3 y6 y7 _ h (fun _ => True)) (va_cwS 5 hts gX2_findPrices_X2_costOf rfl rfl rfl (by decide +kernel) ⟨Nat.le_of_ble_eq_true rfl, Nat.le_of_ble_eq_true rfl⟩) (xw_preS hB xw_P0 (xw_D0 (A := fun _ => True))) rfl rfl hl.1 rfl (lv_room (Nat.le_of_ble_eq_true rfl)) dX2_findPrices_34 ⟨Nat.le_of_ble_eq_true rfl, Nat.le_of_ble_eq_true rfl⟩) (fun r12 h => ?_)
      refine lv_i2l hx hb dX2_findPrices_37 rfl ?_
      refine lv_topl (fun v13 ev13 => ?_)
      have h := h v13 ev13
      refine lv_lstore (lv' := [(8, .long v13), (0, .ref (a 25)), (1, .int x1), (2, .int x2), (3, .int x3), (4, .int x4), (5, .int y5), (6, .int y6), (7, .int y7)]) hx hb dX2_findPrices_38 hl (by decide) rfl (fun ls hl => ?_)
      refine lv_iload hx hb dX2_findPrices_40 (lv_at hl 7 rfl) ?_
      refine lv_iconst (v := 4) hx hb dX2_findPrices_42 (by decide) ?_
      refine lv_ishl hx hb dX2_findPrices_43 ?_
      refine lv_iload hx hb dX2_findPrices_44 (lv_at hl 8 rfl) ?_
      refine lv_ior hx hb dX2_findPrices_46 ?_
      refine lv_i2l hx hb dX2_findPrices_47 rfl ?_
      refine lv_topl (fun v14 ev14 => ?_)
      have h := h v14 ev14
      refine lv_lstore (lv' := [(10, .long v14), (8, .long v13), (0, .ref (a 25)), (1, .int x1), (2, .int x2), (3, .int x3), (4, .int x4), (5, .int y5), (6, .int y6), (7, .int y7)]) hx hb dX2_findPrices_48 hl (by decide) rfl (fun ls hl => ?_)
      refine lv_aload_n hx hb dX2_findPrices_50 rfl (lv_at hl 2 rfl) ?_
      refine va_get (D := D) (ci := 2) (v := .ref (a 29)) (C := RX2) (T := TX2) (N := 8) hx hb hts mX2_findPrices_inX2 hown hB.1 hP 25 xC_c25 rfl 4 (by decide) (hts _ mX2_findPrices_1) (fun _ h9 => h9) rfl dX2_findPrices_51 ?_
      refine lv_iload_n hx hb dX2_findPrices_54 rfl (lv_at hl 3 rfl) ?_
      refine lv_bipush (v := 81) hx hb dX2_findPrices_55 (by decide) ?_
      refine lv_imul hx hb dX2_findPrices_57 ?_
      refine lv_iload hx hb dX2_findPrices_58 (lv_at hl 8 rfl) ?_
      refine lv_bipush (v := 9) hx hb dX2_findPrices_60 (by decide) ?_
      refine lv_imul hx hb dX2_findPrices_62 ?_
      refine lv_iadd hx hb dX2_findPrices_63 ?_
      refine lv_iload hx hb dX2_findPrices_64 (lv_at hl 9 rfl) ?_
      refine lv_iadd hx hb dX2_findPrices_66 ?_
      refine lv_lload hx hb dX2_findPrices_67 (lv_at hl 1 rfl) ?_
      refine lv_bipush (v := 40) hx hb dX2_findPrices_69 (by decide) ?_
      refine lv_lshl hx hb dX2_findPrices_71 rfl ?_
      refine lv_lload hx hb dX2_findPrices_72 (lv_at hl 0 rfl) ?_
      refine lv_iload hx hb dX2_findPrices_74 (lv_at hl 7 rfl) ?_
      refine lv_lshl hx hb dX2_findPrices_76 rfl ?_
      refine lv_lor hx hb dX2_findPrices_77 ?_
      refine xw_last hx hb hB hP hD hS 29 xC_c29 h.1 xC_f29 dX2_findPrices_78 (fun H locs hP hD hS => ?_)
      have h := h.2
      obtain ⟨G15, eG15⟩ : ∃ f : xw_G, f = xw_up G 29 (vp_updL (G 29) (((x1 * (81 : Int32)) + (y6 * (9 : Int32))) + y7).toNatClampNeg ((v13 <<< ((40 : Int32).toInt64 &&& 63)) ||| (v14 <<< (y5.toInt64 &&& 63)))) := ⟨_, rfl⟩
      rw [← eG15] at hP hD
      have h := h G15 eG15
      obtain ⟨v16, ev16⟩ : ∃ y : Int32, y = y7 + 1 := ⟨_, rfl⟩
      have h := h v16 ev16
      refine lv_iinc (v := v16) (lv' := [(7, .int v16), (10, .long v14), (8, .long v13), (0, .ref (a 25)), (1, .int x1), (2, .int x2), (3, .int x3), (4, .int x4), (5, .int y5), (6, .int y6)]) hx hb dX2_findPrices_79 hl (k := 9) rfl (by rw [ev16]; rfl) (by decide) rfl (fun ls hl => ?_)
      refine lv_goto (tgt := 20) hx hb dX2_findPrices_82 (by decide) ?_
      exact (hWW _ _ _).mp (el20 _ _ _ _ _ _ h _ _ ls hP hD hS (lv_sub hl [3, 4, 5, 6, 7, 8, 9, 0] rfl))
  have h := h k9 k20 rl9 rl20
  unfold bd_X2_findPrices_0 at h
  refine lv_iload_n hx hb dX2_findPrices_0 rfl (lv_at hl 1 rfl) ?_
  refine xw_ri (va_runS (rm := { frames := 0, cells := 0, slots := 0, locals := 0 }) (As := [.int x1]) (rest := []) ⟨hx, hb, hml, hown, hts⟩ (c_X2_shiftOf l D cy x1 _ h (fun _ => True)) (va_cwS 1 hts gX2_findPrices_X2_shiftOf rfl rfl rfl (by decide +kernel) ⟨Nat.le_of_ble_eq_true rfl, Nat.le_of_ble_eq_true rfl⟩) (xw_preS hB xw_P0 (xw_D0 (A := fun _ => True))) rfl rfl hl.1 rfl (lv_room (Nat.le_of_ble_eq_true rfl)) dX2_findPrices_1 ⟨Nat.le_of_ble_eq_true rfl, Nat.le_of_ble_eq_true rfl⟩) (fun r8 h => ?_)
  refine lv_istore (lv' := [(5, .int r8), (0, .ref (a 25)), (1, .int x1), (2, .int x2), (3, .int x3), (4, .int x4)]) hx hb dX2_findPrices_4 hl (by decide) rfl (fun ls hl => ?_)
  refine lv_iconst (v := 0) hx hb dX2_findPrices_6 (by decide) ?_
  refine lv_istore (lv' := [(6, .int (0 : Int32)), (5, .int r8), (0, .ref (a 25)), (1, .int x1), (2, .int x2), (3, .int x3), (4, .int x4)]) hx hb dX2_findPrices_7 hl (by decide) rfl (fun ls hl => ?_)
  exact (hWW _ _ _).mp (el9 _ _ _ _ _ h _ _ ls hP hD hS (lv_sub hl [2, 3, 4, 5, 6, 1, 0] rfl))

theorem mX2_apart_4 : Cond.initialized RX7 ∈ wsX2_apart := List.mem_of_getElem? (i := 4) rfl
theorem mX2_apart_3 : Cond.static yX7_has ∈ wsX2_apart := List.mem_of_getElem? (i := 3) rfl
theorem mX2_apart_1 : Cond.fieldLink RX2 88 "TagCarrier$Source" "holds" "[I" ∈ wsX2_apart := List.mem_of_getElem? (i := 1) rfl
theorem mX2_apart_inX4 : ∀ w ∈ u_ws RX4 TX4 12, w ∈ wsX2_apart := by decide +kernel
theorem mX2_apart_2 : Cond.fieldLink RX2 91 "TagCarrier$Source" "heldBy" "[I" ∈ wsX2_apart := List.mem_of_getElem? (i := 2) rfl
set_option maxHeartbeats 4000000 in
set_option maxRecDepth 100000 in
theorem c_X2_apart (l : Launch) (D : va_G) (cy : Nat → ClassId) (a : Nat → Nat) (x1 : Int32) (x2 : Int32) (I : xw_I) (F : xw_F) (G : xw_G) (post : Int32 → Prop) (h : sm_X2_apart x1 x2 I F G post) : xw_Ri l yX2_apart wsX2_apart ({ frames := 1, cells := 0, slots := 0, locals := 21 }) D cy [.ref (a 12), .int x1, .int x2] (xC_w cy a I F G) post := by
  intro A
  refine Met.ofW (cc := cX2_apart) (maxL := 4) (ret := (some .boolean)) (by decide) rfl ?_
  intro p e s m args below meth c s₁ B hml hv
  obtain ⟨rfl, hP, hB, hD⟩ := hv
  have hP : va_P D vwCl (xC_w cy a I F G) s.heap := hP
  have hx := B.exec
  have hb := B.bytes
  have hr := B.returns
  have hts := atoms_spec (ws := wsX2_apart) B.pre
  have hown : s.vm.findClass RX2 = some m.cls := findClass_of_methodNamed B.named
  have hlocks := B.notSynchronized
  refine xw_go (fun WW hWW => ?_)
  have hl := lv_entry ([.ref (a 12), .int x1, .int x2]) (n := 4) (Nat.le_of_ble_eq_true rfl)
  rw [lg_entry_eq]
  generalize (lg_sl ([.ref (a 12), .int x1, .int x2]) ++ List.replicate (4 - (lg_sl ([.ref (a 12), .int x1, .int x2])).length) Slot.unset).toArray = ls at hl ⊢
  have hl : lv_has ls 4 [(0, .ref (a 12)), (1, .int x1), (2, .int x2)] := hl
  obtain ⟨k2, mk2, el2⟩ : ∃ K : Int32 → Prop, (∀ (y3 : Int32), (∀ (ls : Array Slot), lv_has ls 4 [(0, .ref (a 12)), (1, .int x1), (2, .int x2), (3, .int y3)] → WW s.heap [] (F0 m 2 ls [])) → K y3) ∧ (∀ (y3 : Int32), K y3 → (∀ (ls : Array Slot), lv_has ls 4 [(0, .ref (a 12)), (1, .int x1), (2, .int x2), (3, .int y3)] → WW s.heap [] (F0 m 2 ls []))) := ⟨fun (y3 : Int32) => (∀ (ls : Array Slot), lv_has ls 4 [(0, .ref (a 12)), (1, .int x1), (2, .int x2), (3, .int y3)] → WW s.heap [] (F0 m 2 ls [])), fun _ h => h, fun _ h => h⟩
  have rl2 : ∀ (y3 : Int32), (bd_X2_apart_2 x1 x2 I F G post k2 y3) → k2 y3 := by
    intro y3 h
    refine mk2 _ ?_
    intro ls hl
    refine (hWW _ _ _).mpr ?_
    unfold bd_X2_apart_2 at h
    refine lv_iload_n hx hb dX2_apart_2 rfl (lv_at hl 3 rfl) ?_
    refine lv_iconst (v := 5) hx hb dX2_apart_3 (by decide) ?_
    refine lv_icmp_ge (tgt := 41) hx hb dX2_apart_4 (by decide) (fun c8 => ?_) (fun c8 => ?_)
    · have h := h.1 c8
      refine lv_iconst (v := 1) hx hb dX2_apart_41 (by decide) ?_
      exact xw_iretz hx hb hr hlocks rfl h dX2_apart_42
    · have h := h.2 c8
      refine lv_iload_n hx hb dX2_apart_7 rfl (lv_at hl 1 rfl) ?_
      refine lv_iload_n hx hb dX2_apart_8 rfl (lv_at hl 3 rfl) ?_
      refine xw_ri (va_runSN (rm := { frames := 0, cells := 0, slots := 0, locals := 0 }) (As := [.int x1, .int y3]) (rest := []) ⟨hx, hb, hml, hown, hts⟩ (c_X7_has l D cy x1 y3 _ h (fun _ => True)) (⟨va_cnB 2 hts gX2_apart_X7_has_n37 rfl rfl rfl (hB.2 11 _ rfl) (hts _ mX2_apart_4) (by decide +kernel) ⟨Nat.le_of_ble_eq_true rfl, Nat.le_of_ble_eq_true rfl⟩, hts _ mX2_apart_3, trivial⟩) (xw_preS hB xw_P0 (xw_D0 (A := fun _ => True))) rfl rfl hl.1 rfl (lv_room (Nat.le_of_ble_eq_true rfl)) dX2_apart_9 ⟨Nat.le_of_ble_eq_true rfl, Nat.le_of_ble_eq_true rfl⟩) (fun r9 h => ?_)
      refine lv_if_eq (tgt := 35) hx hb dX2_apart_12 (by decide) (fun c10 => ?_) (fun c10 => ?_)
      · have h := h.1 c10
        obtain ⟨v11, ev11⟩ : ∃ y : Int32, y = y3 + 1 := ⟨_, rfl⟩
        have h := h v11 ev11
        refine lv_iinc (v := v11) (lv' := [(3, .int v11), (0, .ref (a 12)), (1, .int x1), (2, .int x2)]) hx hb dX2_apart_35 hl (k := 3) rfl (by rw [ev11]; rfl) (by decide) rfl (fun ls hl => ?_)
        refine lv_goto (tgt := 2) hx hb dX2_apart_38 (by decide) ?_
        exact (hWW _ _ _).mp (el2 _ h ls (lv_sub hl [1, 2, 3, 0] rfl))
      · have h := h.2 c10
        refine lv_aload_n hx hb dX2_apart_15 rfl (lv_at hl 0 rfl) ?_
        refine va_get (D := D) (ci := 4) (v := .ref (a 15)) (C := RX4) (T := TX4) (N := 12) hx hb hts mX2_apart_inX4 hown hB.1 hP 12 xC_c12 rfl 7 (by decide) (hts _ mX2_apart_1) (fun _ h9 => h9) rfl dX2_apart_16 ?_
        refine lv_iload_n hx hb dX2_apart_19 rfl (lv_at hl 3 rfl) ?_
        refine xw_iald hx hb hB hP 15 xC_c15 h.1 dX2_apart_20 (fun v12 ev12 => ?_)
        have h := h.2 v12 ev12
        refine lv_aload_n hx hb dX2_apart_21 rfl (lv_at hl 0 rfl) ?_
        refine va_get (D := D) (ci := 4) (v := .ref (a 16)) (C := RX4) (T := TX4) (N := 12) hx hb hts mX2_apart_inX4 hown hB.1 hP 12 xC_c12 rfl 8 (by decide) (hts _ mX2_apart_2) (fun _ h9 => h9) rfl dX2_apart_22 ?_
        refine lv_iload_n hx hb dX2_apart_25 rfl (lv_at hl 3 rfl) ?_
        refine xw_iald hx hb hB hP 16 xC_c16 h.1 dX2_apart_26 (fun v13 ev13 => ?_)
        have h := h.2 v13 ev13
        refine lv_ior hx hb dX2_apart_27 ?_
        refine lv_iload_n hx hb dX2_apart_28 rfl (lv_at hl 2 rfl) ?_
        refine lv_iand hx hb dX2_apart_29 ?_
        refine lv_if_eq (tgt := 35) hx hb dX2_apart_30 (by decide) (fun c14 => ?_) (fun c14 => ?_)
        · have h := h.1 c14
          obtain ⟨v15, ev15⟩ : ∃ y : Int32, y = y3 + 1 := ⟨_, rfl⟩
          have h := h v15 ev15
          refine lv_iinc (v := v15) (lv' := [(3, .int v15), (0, .ref (a 12)), (1, .int x1), (2, .int x2)]) hx hb dX2_apart_35 hl (k := 3) rfl (by rw [ev15]; rfl) (by decide) rfl (fun ls hl => ?_)
          refine lv_goto (tgt := 2) hx hb dX2_apart_38 (by decide) ?_
          exact (hWW _ _ _).mp (el2 _ h ls (lv_sub hl [1, 2, 3, 0] rfl))
        · have h := h.2 c14
          refine lv_iconst (v := 0) hx hb dX2_apart_33 (by decide) ?_
          exact xw_iretz hx hb hr hlocks rfl h dX2_apart_34
  have h := h k2 rl2
  unfold bd_X2_apart_0 at h
  refine lv_iconst (v := 0) hx hb dX2_apart_0 (by decide) ?_
  refine lv_istore_n (lv' := [(3, .int (0 : Int32)), (0, .ref (a 12)), (1, .int x1), (2, .int x2)]) hx hb dX2_apart_1 rfl hl (by decide) rfl (fun ls hl => ?_)
  exact (hWW _ _ _).mp (el2 _ h ls (lv_sub hl [1, 2, 3, 0] rfl))

theorem mX2_findParts_1 : Cond.fieldLink RX2 81 "TagCarrier$PairPlacer" "partCount" "I" ∈ wsX2_findParts := List.mem_of_getElem? (i := 1) rfl
theorem mX2_findParts_inX2 : ∀ w ∈ u_ws RX2 TX2 8, w ∈ wsX2_findParts := by decide +kernel
theorem mX2_findParts_2 : Cond.fieldLink RX2 28 "TagCarrier$PairPlacer" "parts" "[I" ∈ wsX2_findParts := List.mem_of_getElem? (i := 2) rfl
set_option maxHeartbeats 4000000 in
set_option maxRecDepth 100000 in
theorem c_X2_findParts (l : Launch) (D : va_G) (cy : Nat → ClassId) (a : Nat → Nat) (x2 : Int32) (I : xw_I) (F : xw_F) (G : xw_G) (post : xw_I → xw_F → xw_G → Prop) (h : sm_X2_findParts x2 I F G post) : xw_Wv l yX2_findParts wsX2_findParts ({ frames := 2, cells := 0, slots := 0, locals := 44 }) D cy [.ref (a 25), .ref (a 12), .int x2] (xC_w cy a I F G) (xC_w cy a) post := by
  intro A
  refine Met.ofW (cc := cX2_findParts) (maxL := 4) (ret := none) (by decide) rfl ?_
  intro p e s m args below meth c s₁ B hml hv
  obtain ⟨rfl, hP, hB, hD⟩ := hv
  have hP : va_P D vwCl (xC_w cy a I F G) s.heap := hP
  have hx := B.exec
  have hb := B.bytes
  have hr := B.returns
  have hts := atoms_spec (ws := wsX2_findParts) B.pre
  have hown : s.vm.findClass RX2 = some m.cls := findClass_of_methodNamed B.named
  have hlocks := B.notSynchronized
  have hS : va_S A s.heap s.heap [] := va_S.rf
  refine xw_go (fun WW hWW => ?_)
  have hl := lv_entry ([.ref (a 25), .ref (a 12), .int x2]) (n := 4) (Nat.le_of_ble_eq_true rfl)
  rw [lg_entry_eq]
  generalize (lg_sl ([.ref (a 25), .ref (a 12), .int x2]) ++ List.replicate (4 - (lg_sl ([.ref (a 25), .ref (a 12), .int x2])).length) Slot.unset).toArray = ls at hl ⊢
  have hl : lv_has ls 4 [(0, .ref (a 25)), (1, .ref (a 12)), (2, .int x2)] := hl
  obtain ⟨k7, mk7, el7⟩ : ∃ K : Int32 → xw_I → xw_F → xw_G → Prop, (∀ (y3 : Int32) (I : xw_I) (F : xw_F) (G : xw_G), (∀ (H : Heap) (locs : List Loc) (ls : Array Slot), va_P D vwCl (xC_w cy a I F G) H → va_D A (xC_w cy a I F G) → va_S A s.heap H locs → lv_has ls 4 [(0, .ref (a 25)), (1, .ref (a 12)), (2, .int x2), (3, .int y3)] → WW H locs (F0 m 7 ls [])) → K y3 I F G) ∧ (∀ (y3 : Int32) (I : xw_I) (F : xw_F) (G : xw_G), K y3 I F G → (∀ (H : Heap) (locs : List Loc) (ls : Array Slot), va_P D vwCl (xC_w cy a I F G) H → va_D A (xC_w cy a I F G) → va_S A s.heap H locs → lv_has ls 4 [(0, .ref (a 25)), (1, .ref (a 12)), (2, .int x2), (3, .int y3)] → WW H locs (F0 m 7 ls []))) := ⟨fun (y3 : Int32) (I : xw_I) (F : xw_F) (G : xw_G) => (∀ (H : Heap) (locs : List Loc) (ls : Array Slot), va_P D vwCl (xC_w cy a I F G) H → va_D A (xC_w cy a I F G) → va_S A s.heap H locs → lv_has ls 4 [(0, .ref (a 25)), (1, .ref (a 12)), (2, .int x2), (3, .int y3)] → WW H locs (F0 m 7 ls [])), fun _ _ _ _ h => h, fun _ _ _ _ h => h⟩
  have rl7 : ∀ (y3 : Int32) (I : xw_I) (F : xw_F) (G : xw_G), (bd_X2_findParts_7 x2 post k7 y3 I F G) → k7 y3 I F G := by
    intro y3 I F G h
    refine mk7 _ _ _ _ ?_
    intro H locs ls hP hD hS hl
    refine (hWW _ _ _).mpr ?_
    unfold bd_X2_findParts_7 at h
    refine lv_iload_n hx hb dX2_findParts_7 rfl (lv_at hl 3 rfl) ?_
    refine lv_iload_n hx hb dX2_findParts_8 rfl (lv_at hl 2 rfl) ?_
    refine lv_icmp_ge (tgt := 59) hx hb dX2_findParts_9 (by decide) (fun c9 => ?_) (fun c9 => ?_)
    · have h := h.1 c9
      exact xw_wretv hx hb hr hlocks hP hD hS h dX2_findParts_59
    · have h := h.2 c9
      refine lv_iload_n hx hb dX2_findParts_12 rfl (lv_at hl 3 rfl) ?_
      refine lv_iload_n hx hb dX2_findParts_13 rfl (lv_at hl 2 rfl) ?_
      refine lv_iconst (v := -1) hx hb dX2_findParts_14 (by decide) ?_
      refine lv_ixor hx hb dX2_findParts_15 ?_
      refine lv_iand hx hb dX2_findParts_16 ?_
      refine lv_if_ne (tgt := 53) hx hb dX2_findParts_17 (by decide) (fun c10 => ?_) (fun c10 => ?_)
      · have h := h.1 c10
        obtain ⟨v11, ev11⟩ : ∃ y : Int32, y = y3 + 1 := ⟨_, rfl⟩
        have h := h v11 ev11
        refine lv_iinc (v := v11) (lv' := [(3, .int v11), (0, .ref (a 25)), (1, .ref (a 12)), (2, .int x2)]) hx hb dX2_findParts_53 hl (k := 3) rfl (by rw [ev11]; rfl) (by decide) rfl (fun ls hl => ?_)
        refine lv_goto (tgt := 7) hx hb dX2_findParts_56 (by decide) ?_
        exact (hWW _ _ _).mp (el7 _ _ _ _ h _ _ ls hP hD hS (lv_sub hl [1, 2, 3, 0] rfl))
      · have h := h.2 c10
        refine lv_aload_n hx hb dX2_findParts_20 rfl (lv_at hl 1 rfl) ?_
        refine lv_iload_n hx hb dX2_findParts_21 rfl (lv_at hl 3 rfl) ?_
        refine lv_iload_n hx hb dX2_findParts_22 rfl (lv_at hl 2 rfl) ?_
        refine lv_iload_n hx hb dX2_findParts_23 rfl (lv_at hl 3 rfl) ?_
        refine lv_iconst (v := -1) hx hb dX2_findParts_24 (by decide) ?_
        refine lv_ixor hx hb dX2_findParts_25 ?_
        refine lv_iand hx hb dX2_findParts_26 ?_
        refine xw_ri (va_runS (rm := { frames := 1, cells := 0, slots := 0, locals := 21 }) (As := [.ref (a 12), .int y3, .int (x2 &&& (y3 ^^^ (-1 : Int32)))]) (rest := []) ⟨hx, hb, hml, hown, hts⟩ (c_X2_apart l D cy a y3 (x2 &&& (y3 ^^^ (-1 : Int32))) I F G _ h A) (va_cwS 3 hts gX2_findParts_X2_apart rfl rfl rfl (by decide +kernel) ⟨Nat.le_of_ble_eq_true rfl, Nat.le_of_ble_eq_true rfl⟩) (xw_preS hB hP hD) rfl rfl hl.1 rfl (lv_room (Nat.le_of_ble_eq_true rfl)) dX2_findParts_27 ⟨Nat.le_of_ble_eq_true rfl, Nat.le_of_ble_eq_true rfl⟩) (fun r12 h => ?_)
        refine lv_if_eq (tgt := 53) hx hb dX2_findParts_30 (by decide) (fun c13 => ?_) (fun c13 => ?_)
        · have h := h.1 c13
          obtain ⟨v14, ev14⟩ : ∃ y : Int32, y = y3 + 1 := ⟨_, rfl⟩
          have h := h v14 ev14
          refine lv_iinc (v := v14) (lv' := [(3, .int v14), (0, .ref (a 25)), (1, .ref (a 12)), (2, .int x2)]) hx hb dX2_findParts_53 hl (k := 3) rfl (by rw [ev14]; rfl) (by decide) rfl (fun ls hl => ?_)
          refine lv_goto (tgt := 7) hx hb dX2_findParts_56 (by decide) ?_
          exact (hWW _ _ _).mp (el7 _ _ _ _ h _ _ ls hP hD hS (lv_sub hl [1, 2, 3, 0] rfl))
        · have h := h.2 c13
          refine lv_aload_n hx hb dX2_findParts_33 rfl (lv_at hl 0 rfl) ?_
          refine va_get (D := D) (ci := 2) (v := .ref (a 31)) (C := RX2) (T := TX2) (N := 8) hx hb hts mX2_findParts_inX2 hown hB.1 hP 25 xC_c25 rfl 6 (by decide) (hts _ mX2_findParts_2) (fun _ h9 => h9) rfl dX2_findParts_34 ?_
          refine lv_aload_n hx hb dX2_findParts_37 rfl (lv_at hl 0 rfl) ?_
          refine va_get (D := D) (ci := 2) (v := .int (I 15)) (C := RX2) (T := TX2) (N := 8) hx hb hts mX2_findParts_inX2 hown hB.1 hP 25 xC_c25 rfl 7 (by decide) (hts _ mX2_findParts_1) (fun _ h9 => h9) rfl dX2_findParts_38 ?_
          refine lv_iload_n hx hb dX2_findParts_41 rfl (lv_at hl 3 rfl) ?_
          refine xw_iast hx hb hB hP hD hS 31 xC_c31 h.1 xC_f31 dX2_findParts_42 (fun H locs hP hD hS => ?_)
          have h := h.2
          obtain ⟨F15, eF15⟩ : ∃ f : xw_F, f = xw_up F 31 (upd (F 31) (I 15).toNatClampNeg y3) := ⟨_, rfl⟩
          rw [← eF15] at hP hD
          have h := h F15 eF15
          refine lv_aload_n hx hb dX2_findParts_43 rfl (lv_at hl 0 rfl) ?_
          refine lv_dup hx hb dX2_findParts_44 rfl ?_
          refine va_get (D := D) (ci := 2) (v := .int (I 15)) (C := RX2) (T := TX2) (N := 8) hx hb hts mX2_findParts_inX2 hown hB.1 hP 25 xC_c25 rfl 7 (by decide) (hts _ mX2_findParts_1) (fun _ h9 => h9) rfl dX2_findParts_45 ?_
          refine lv_iconst (v := 1) hx hb dX2_findParts_48 (by decide) ?_
          refine lv_iadd hx hb dX2_findParts_49 ?_
          refine xw_put (D := D) (ci := 2) (v := .int ((I 15) + (1 : Int32))) (ty := .int) (C := RX2) (T := TX2) (N := 8) hx hb hts mX2_findParts_inX2 tyX2 tyX2_ok nmX2 hown hB hP hD hS 25 xC_c25 rfl 7 (by decide) (hts _ mX2_findParts_1) (fun _ h9 => h9) rfl (by decide +kernel) rfl rfl (Nat.le_of_ble_eq_true rfl) xC_i15 dX2_findParts_50 (fun H locs hP hD hS => ?_)
          obtain ⟨I16, eI16⟩ : ∃ f : xw_I, f = xw_up I 15 ((I 15) + (1 : Int32)) := ⟨_, rfl⟩
          rw [← eI16] at hP hD
          have h := h I16 eI16
          obtain ⟨v17, ev17⟩ : ∃ y : Int32, y = y3 + 1 := ⟨_, rfl⟩
          have h := h v17 ev17
          refine lv_iinc (v := v17) (lv' := [(3, .int v17), (0, .ref (a 25)), (1, .ref (a 12)), (2, .int x2)]) hx hb dX2_findParts_53 hl (k := 3) rfl (by rw [ev17]; rfl) (by decide) rfl (fun ls hl => ?_)
          refine lv_goto (tgt := 7) hx hb dX2_findParts_56 (by decide) ?_
          exact (hWW _ _ _).mp (el7 _ _ _ _ h _ _ ls hP hD hS (lv_sub hl [1, 2, 3, 0] rfl))
  have h := h k7 rl7
  unfold bd_X2_findParts_0 at h
  refine lv_aload_n hx hb dX2_findParts_0 rfl (lv_at hl 0 rfl) ?_
  refine lv_iconst (v := 0) hx hb dX2_findParts_1 (by decide) ?_
  refine xw_put (D := D) (ci := 2) (v := .int (0 : Int32)) (ty := .int) (C := RX2) (T := TX2) (N := 8) hx hb hts mX2_findParts_inX2 tyX2 tyX2_ok nmX2 hown hB hP hD hS 25 xC_c25 rfl 7 (by decide) (hts _ mX2_findParts_1) (fun _ h9 => h9) rfl (by decide +kernel) rfl rfl (Nat.le_of_ble_eq_true rfl) xC_i15 dX2_findParts_2 (fun H locs hP hD hS => ?_)
  obtain ⟨I8, eI8⟩ : ∃ f : xw_I, f = xw_up I 15 (0 : Int32) := ⟨_, rfl⟩
  rw [← eI8] at hP hD
  have h := h I8 eI8
  refine lv_iconst (v := 1) hx hb dX2_findParts_5 (by decide) ?_
  refine lv_istore_n (lv' := [(3, .int (1 : Int32)), (0, .ref (a 25)), (1, .ref (a 12)), (2, .int x2)]) hx hb dX2_findParts_6 rfl hl (by decide) rfl (fun ls hl => ?_)
  exact (hWW _ _ _).mp (el7 _ _ _ _ h _ _ ls hP hD hS (lv_sub hl [1, 2, 3, 0] rfl))

theorem mX2_filled_1 : Cond.constantLong RX2 105 (1152921504606846976) ∈ wsX2_filled := List.mem_of_getElem? (i := 1) rfl
theorem mX2_filled_10 : Cond.initialized RX7 ∈ wsX2_filled := List.mem_of_getElem? (i := 10) rfl
theorem mX2_filled_9 : Cond.static yX7_has ∈ wsX2_filled := List.mem_of_getElem? (i := 9) rfl
theorem mX2_filled_2 : Cond.fieldLink RX2 91 "TagCarrier$Source" "heldBy" "[I" ∈ wsX2_filled := List.mem_of_getElem? (i := 2) rfl
theorem mX2_filled_inX4 : ∀ w ∈ u_ws RX4 TX4 12, w ∈ wsX2_filled := by decide +kernel
theorem mX2_filled_3 : Cond.fieldLink RX2 21 "TagCarrier$PairPlacer" "prices" "[J" ∈ wsX2_filled := List.mem_of_getElem? (i := 3) rfl
theorem mX2_filled_inX2 : ∀ w ∈ u_ws RX2 TX2 8, w ∈ wsX2_filled := by decide +kernel
theorem mX2_filled_4 : Cond.fieldLink RX2 25 "TagCarrier$PairPlacer" "sums" "[J" ∈ wsX2_filled := List.mem_of_getElem? (i := 4) rfl
theorem mX2_filled_5 : Cond.methodLink RX2 98 Lib.MathLoose.min_long.x ∈ wsX2_filled := List.mem_of_getElem? (i := 5) rfl
theorem mX2_filled_6 : Cond.static Lib.MathLoose.min_long.x ∈ wsX2_filled := List.mem_of_getElem? (i := 6) rfl
theorem mX2_filled_7 : Cond.initialized "java/lang/Math" ∈ wsX2_filled := List.mem_of_getElem? (i := 7) rfl
theorem mX2_filled_8 : Cond.code Lib.MathLoose.min_long.x Lib.MathLoose.min_long.code 4 (some .long) ∈ wsX2_filled := List.mem_of_getElem? (i := 8) rfl
set_option maxHeartbeats 4000000 in
set_option maxRecDepth 100000 in
theorem c_X2_filled (l : Launch) (D : va_G) (cy : Nat → ClassId) (a : Nat → Nat) (x2 : Int32) (x3 : Int32) (I : xw_I) (F : xw_F) (G : xw_G) (post : Int64 → Prop) (h : sm_X2_filled x2 x3 I F G post) : xw_Rl l yX2_filled wsX2_filled ({ frames := 1, cells := 0, slots := 0, locals := 23 }) D cy [.ref (a 25), .ref (a 12), .int x2, .int x3] (xC_w cy a I F G) post := by
  intro A
  refine Met.ofW (cc := cX2_filled) (maxL := 8) (ret := (some .long)) (by decide) rfl ?_
  intro p e s m args below meth c s₁ B hml hv
  obtain ⟨rfl, hP, hB, hD⟩ := hv
  have hP : va_P D vwCl (xC_w cy a I F G) s.heap := hP
  have hx := B.exec
  have hb := B.bytes
  have hr := B.returns
  have hts := atoms_spec (ws := wsX2_filled) B.pre
  have hown : s.vm.findClass RX2 = some m.cls := findClass_of_methodNamed B.named
  have hlocks := B.notSynchronized
  refine xw_go (fun WW hWW => ?_)
  have hl := lv_entry ([.ref (a 25), .ref (a 12), .int x2, .int x3]) (n := 8) (Nat.le_of_ble_eq_true rfl)
  rw [lg_entry_eq]
  generalize (lg_sl ([.ref (a 25), .ref (a 12), .int x2, .int x3]) ++ List.replicate (8 - (lg_sl ([.ref (a 25), .ref (a 12), .int x2, .int x3])).length) Slot.unset).toArray = ls at hl ⊢
  have hl : lv_has ls 8 [(0, .ref (a 25)), (1, .ref (a 12)), (2, .int x2), (3, .int x3)] := hl
  obtain ⟨k8, mk8, el8⟩ : ∃ K : Int64 → Int32 → Prop, (∀ (y4 : Int64) (y6 : Int32), (∀ (ls : Array Slot), lv_has ls 8 [(0, .ref (a 25)), (1, .ref (a 12)), (2, .int x2), (3, .int x3), (4, .long y4), (6, .int y6)] → WW s.heap [] (F0 m 8 ls [])) → K y4 y6) ∧ (∀ (y4 : Int64) (y6 : Int32), K y4 y6 → (∀ (ls : Array Slot), lv_has ls 8 [(0, .ref (a 25)), (1, .ref (a 12)), (2, .int x2), (3, .int x3), (4, .long y4), (6, .int y6)] → WW s.heap [] (F0 m 8 ls []))) := ⟨fun (y4 : Int64) (y6 : Int32) => (∀ (ls : Array Slot), lv_has ls 8 [(0, .ref (a 25)), (1, .ref (a 12)), (2, .int x2), (3, .int x3), (4, .long y4), (6, .int y6)] → WW s.heap [] (F0 m 8 ls [])), fun _ _ h => h, fun _ _ h => h⟩
  have rl8 : ∀ (y4 : Int64) (y6 : Int32), (bd_X2_filled_8 x2 x3 I F G post k8 y4 y6) → k8 y4 y6 := by
    intro y4 y6 h
    refine mk8 _ _ ?_
    intro ls hl
    refine (hWW _ _ _).mpr ?_
    unfold bd_X2_filled_8 at h
    refine lv_iload hx hb dX2_filled_8 (lv_at hl 5 rfl) ?_
    refine lv_iconst (v := 5) hx hb dX2_filled_10 (by decide) ?_
    refine lv_icmp_ge (tgt := 83) hx hb dX2_filled_11 (by decide) (fun c12 => ?_) (fun c12 => ?_)
    · have h := h.1 c12
      refine lv_lload hx hb dX2_filled_83 (lv_at hl 4 rfl) ?_
      exact xw_iretl hx hb hr hlocks h dX2_filled_85
    · have h := h.2 c12
      refine lv_iload_n hx hb dX2_filled_14 rfl (lv_at hl 2 rfl) ?_
      refine lv_iload hx hb dX2_filled_15 (lv_at hl 5 rfl) ?_
      refine xw_ri (va_runSN (rm := { frames := 0, cells := 0, slots := 0, locals := 0 }) (As := [.int x2, .int y6]) (rest := []) ⟨hx, hb, hml, hown, hts⟩ (c_X7_has l D cy x2 y6 _ h (fun _ => True)) (⟨va_cnB 2 hts gX2_filled_X7_has_n37 rfl rfl rfl (hB.2 11 _ rfl) (hts _ mX2_filled_10) (by decide +kernel) ⟨Nat.le_of_ble_eq_true rfl, Nat.le_of_ble_eq_true rfl⟩, hts _ mX2_filled_9, trivial⟩) (xw_preS hB xw_P0 (xw_D0 (A := fun _ => True))) rfl rfl hl.1 rfl (lv_room (Nat.le_of_ble_eq_true rfl)) dX2_filled_17 ⟨Nat.le_of_ble_eq_true rfl, Nat.le_of_ble_eq_true rfl⟩) (fun r13 h => ?_)
      refine lv_if_eq (tgt := 77) hx hb dX2_filled_20 (by decide) (fun c14 => ?_) (fun c14 => ?_)
      · have h := h.1 c14
        obtain ⟨v15, ev15⟩ : ∃ y : Int32, y = y6 + 1 := ⟨_, rfl⟩
        have h := h v15 ev15
        refine lv_iinc (v := v15) (lv' := [(6, .int v15), (0, .ref (a 25)), (1, .ref (a 12)), (2, .int x2), (3, .int x3), (4, .long y4)]) hx hb dX2_filled_77 hl (k := 5) rfl (by rw [ev15]; rfl) (by decide) rfl (fun ls hl => ?_)
        refine lv_goto (tgt := 8) hx hb dX2_filled_80 (by decide) ?_
        exact (hWW _ _ _).mp (el8 _ _ h ls (lv_sub hl [1, 2, 3, 4, 5, 0] rfl))
      · have h := h.2 c14
        refine lv_aload_n hx hb dX2_filled_23 rfl (lv_at hl 1 rfl) ?_
        refine va_get (D := D) (ci := 4) (v := .ref (a 16)) (C := RX4) (T := TX4) (N := 12) hx hb hts mX2_filled_inX4 hown hB.1 hP 12 xC_c12 rfl 8 (by decide) (hts _ mX2_filled_2) (fun _ h9 => h9) rfl dX2_filled_24 ?_
        refine lv_iload hx hb dX2_filled_27 (lv_at hl 5 rfl) ?_
        refine xw_iald hx hb hB hP 16 xC_c16 h.1 dX2_filled_29 (fun v16 ev16 => ?_)
        have h := h.2 v16 ev16
        refine lv_iload_n hx hb dX2_filled_30 rfl (lv_at hl 2 rfl) ?_
        refine lv_iand hx hb dX2_filled_31 ?_
        refine lv_if_ne (tgt := 77) hx hb dX2_filled_32 (by decide) (fun c17 => ?_) (fun c17 => ?_)
        · have h := h.1 c17
          obtain ⟨v18, ev18⟩ : ∃ y : Int32, y = y6 + 1 := ⟨_, rfl⟩
          have h := h v18 ev18
          refine lv_iinc (v := v18) (lv' := [(6, .int v18), (0, .ref (a 25)), (1, .ref (a 12)), (2, .int x2), (3, .int x3), (4, .long y4)]) hx hb dX2_filled_77 hl (k := 5) rfl (by rw [ev18]; rfl) (by decide) rfl (fun ls hl => ?_)
          refine lv_goto (tgt := 8) hx hb dX2_filled_80 (by decide) ?_
          exact (hWW _ _ _).mp (el8 _ _ h ls (lv_sub hl [1, 2, 3, 4, 5, 0] rfl))
        · have h := h.2 c17
          refine lv_iload_n hx hb dX2_filled_35 rfl (lv_at hl 2 rfl) ?_
          refine lv_iconst (v := 1) hx hb dX2_filled_36 (by decide) ?_
          refine lv_iload hx hb dX2_filled_37 (lv_at hl 5 rfl) ?_
          refine lv_ishl hx hb dX2_filled_39 ?_
          refine lv_iconst (v := -1) hx hb dX2_filled_40 (by decide) ?_
          refine lv_ixor hx hb dX2_filled_41 ?_
          refine lv_iand hx hb dX2_filled_42 ?_
          refine lv_topi (fun v19 ev19 => ?_)
          have h := h v19 ev19
          refine lv_istore (lv' := [(7, .int v19), (0, .ref (a 25)), (1, .ref (a 12)), (2, .int x2), (3, .int x3), (4, .long y4), (6, .int y6)]) hx hb dX2_filled_43 hl (by decide) rfl (fun ls hl => ?_)
          refine lv_lload hx hb dX2_filled_45 (lv_at hl 5 rfl) ?_
          refine lv_aload_n hx hb dX2_filled_47 rfl (lv_at hl 1 rfl) ?_
          refine va_get (D := D) (ci := 2) (v := .ref (a 29)) (C := RX2) (T := TX2) (N := 8) hx hb hts mX2_filled_inX2 hown hB.1 hP 25 xC_c25 rfl 4 (by decide) (hts _ mX2_filled_3) (fun _ h9 => h9) rfl dX2_filled_48 ?_
          refine lv_iload hx hb dX2_filled_51 (lv_at hl 6 rfl) ?_
          refine lv_bipush (v := 81) hx hb dX2_filled_53 (by decide) ?_
          refine lv_imul hx hb dX2_filled_55 ?_
          refine lv_iload_n hx hb dX2_filled_56 rfl (lv_at hl 4 rfl) ?_
          refine lv_iadd hx hb dX2_filled_57 ?_
          refine xw_lald hx hb hB hP 29 xC_c29 h.1 dX2_filled_58 (fun v20 ev20 => ?_)
          have h := h.2 v20 ev20
          refine lv_aload_n hx hb dX2_filled_59 rfl (lv_at hl 1 rfl) ?_
          refine va_get (D := D) (ci := 2) (v := .ref (a 30)) (C := RX2) (T := TX2) (N := 8) hx hb hts mX2_filled_inX2 hown hB.1 hP 25 xC_c25 rfl 5 (by decide) (hts _ mX2_filled_4) (fun _ h9 => h9) rfl dX2_filled_60 ?_
          refine lv_iload hx hb dX2_filled_63 (lv_at hl 0 rfl) ?_
          refine lv_bipush (v := 81) hx hb dX2_filled_65 (by decide) ?_
          refine lv_imul hx hb dX2_filled_67 ?_
          refine lv_iload_n hx hb dX2_filled_68 rfl (lv_at hl 4 rfl) ?_
          refine lv_iadd hx hb dX2_filled_69 ?_
          refine xw_lald hx hb hB hP 30 xC_c30 h.1 dX2_filled_70 (fun v21 ev21 => ?_)
          have h := h.2 v21 ev21
          refine lv_ladd hx hb dX2_filled_71 ?_
          refine va_mmin_long hx hb (hml.trans hl.1.symm) hown (hts _ mX2_filled_5) (hts _ mX2_filled_6) (hts _ mX2_filled_7) (hts _ mX2_filled_8) (Nat.le_of_ble_eq_true rfl) (Nat.le_of_ble_eq_true rfl) (Nat.le_of_ble_eq_true rfl) (Nat.le_of_ble_eq_true rfl) dX2_filled_72 ?_
          refine lv_topl (fun v22 ev22 => ?_)
          have h := h v22 ev22
          refine lv_lstore (lv' := [(4, .long v22), (7, .int v19), (0, .ref (a 25)), (1, .ref (a 12)), (2, .int x2), (3, .int x3), (6, .int y6)]) hx hb dX2_filled_75 hl (by decide) rfl (fun ls hl => ?_)
          obtain ⟨v23, ev23⟩ : ∃ y : Int32, y = y6 + 1 := ⟨_, rfl⟩
          have h := h v23 ev23
          refine lv_iinc (v := v23) (lv' := [(6, .int v23), (4, .long v22), (7, .int v19), (0, .ref (a 25)), (1, .ref (a 12)), (2, .int x2), (3, .int x3)]) hx hb dX2_filled_77 hl (k := 6) rfl (by rw [ev23]; rfl) (by decide) rfl (fun ls hl => ?_)
          refine lv_goto (tgt := 8) hx hb dX2_filled_80 (by decide) ?_
          exact (hWW _ _ _).mp (el8 _ _ h ls (lv_sub hl [3, 4, 5, 6, 1, 0] rfl))
  have h := h k8 rl8
  unfold bd_X2_filled_0 at h
  refine lv_ldc2 hx hb hown (hts _ mX2_filled_1) dX2_filled_0 ?_
  refine lv_lstore (lv' := [(4, .long (1152921504606846976 : Int64)), (0, .ref (a 25)), (1, .ref (a 12)), (2, .int x2), (3, .int x3)]) hx hb dX2_filled_3 hl (by decide) rfl (fun ls hl => ?_)
  refine lv_iconst (v := 0) hx hb dX2_filled_5 (by decide) ?_
  refine lv_istore (lv' := [(6, .int (0 : Int32)), (4, .long (1152921504606846976 : Int64)), (0, .ref (a 25)), (1, .ref (a 12)), (2, .int x2), (3, .int x3)]) hx hb dX2_filled_6 hl (by decide) rfl (fun ls hl => ?_)
  exact (hWW _ _ _).mp (el8 _ _ h ls (lv_sub hl [2, 3, 4, 5, 1, 0] rfl))

theorem mX2_parted_1 : Cond.constantLong RX2 105 (1152921504606846976) ∈ wsX2_parted := List.mem_of_getElem? (i := 1) rfl
theorem mX2_parted_2 : Cond.fieldLink RX2 81 "TagCarrier$PairPlacer" "partCount" "I" ∈ wsX2_parted := List.mem_of_getElem? (i := 2) rfl
theorem mX2_parted_inX2 : ∀ w ∈ u_ws RX2 TX2 8, w ∈ wsX2_parted := by decide +kernel
theorem mX2_parted_3 : Cond.fieldLink RX2 28 "TagCarrier$PairPlacer" "parts" "[I" ∈ wsX2_parted := List.mem_of_getElem? (i := 3) rfl
theorem mX2_parted_4 : Cond.fieldLink RX2 25 "TagCarrier$PairPlacer" "sums" "[J" ∈ wsX2_parted := List.mem_of_getElem? (i := 4) rfl
theorem mX2_parted_5 : Cond.methodLink RX2 98 Lib.MathLoose.min_long.x ∈ wsX2_parted := List.mem_of_getElem? (i := 5) rfl
theorem mX2_parted_6 : Cond.static Lib.MathLoose.min_long.x ∈ wsX2_parted := List.mem_of_getElem? (i := 6) rfl
theorem mX2_parted_7 : Cond.initialized "java/lang/Math" ∈ wsX2_parted := List.mem_of_getElem? (i := 7) rfl
theorem mX2_parted_8 : Cond.code Lib.MathLoose.min_long.x Lib.MathLoose.min_long.code 4 (some .long) ∈ wsX2_parted := List.mem_of_getElem? (i := 8) rfl
set_option maxHeartbeats 4000000 in
set_option maxRecDepth 100000 in
theorem c_X2_parted (l : Launch) (D : va_G) (cy : Nat → ClassId) (a : Nat → Nat) (x1 : Int32) (x2 : Int32) (x3 : Int32) (I : xw_I) (F : xw_F) (G : xw_G) (post : Int64 → Prop) (h : sm_X2_parted x1 x2 x3 I F G post) : xw_Rl l yX2_parted wsX2_parted ({ frames := 1, cells := 0, slots := 0, locals := 23 }) D cy [.ref (a 25), .int x1, .int x2, .int x3] (xC_w cy a I F G) post := by
  intro A
  refine Met.ofW (cc := cX2_parted) (maxL := 10) (ret := (some .long)) (by decide) rfl ?_
  intro p e s m args below meth c s₁ B hml hv
  obtain ⟨rfl, hP, hB, hD⟩ := hv
  have hP : va_P D vwCl (xC_w cy a I F G) s.heap := hP
  have hx := B.exec
  have hb := B.bytes
  have hr := B.returns
  have hts := atoms_spec (ws := wsX2_parted) B.pre
  have hown : s.vm.findClass RX2 = some m.cls := findClass_of_methodNamed B.named
  have hlocks := B.notSynchronized
  refine xw_go (fun WW hWW => ?_)
  have hl := lv_entry ([.ref (a 25), .int x1, .int x2, .int x3]) (n := 10) (Nat.le_of_ble_eq_true rfl)
  rw [lg_entry_eq]
  generalize (lg_sl ([.ref (a 25), .int x1, .int x2, .int x3]) ++ List.replicate (10 - (lg_sl ([.ref (a 25), .int x1, .int x2, .int x3])).length) Slot.unset).toArray = ls at hl ⊢
  have hl : lv_has ls 10 [(0, .ref (a 25)), (1, .int x1), (2, .int x2), (3, .int x3)] := hl
  obtain ⟨k8, mk8, el8⟩ : ∃ K : Int64 → Int32 → Prop, (∀ (y4 : Int64) (y6 : Int32), (∀ (ls : Array Slot), lv_has ls 10 [(0, .ref (a 25)), (1, .int x1), (2, .int x2), (3, .int x3), (4, .long y4), (6, .int y6)] → WW s.heap [] (F0 m 8 ls [])) → K y4 y6) ∧ (∀ (y4 : Int64) (y6 : Int32), K y4 y6 → (∀ (ls : Array Slot), lv_has ls 10 [(0, .ref (a 25)), (1, .int x1), (2, .int x2), (3, .int x3), (4, .long y4), (6, .int y6)] → WW s.heap [] (F0 m 8 ls []))) := ⟨fun (y4 : Int64) (y6 : Int32) => (∀ (ls : Array Slot), lv_has ls 10 [(0, .ref (a 25)), (1, .int x1), (2, .int x2), (3, .int x3), (4, .long y4), (6, .int y6)] → WW s.heap [] (F0 m 8 ls [])), fun _ _ h => h, fun _ _ h => h⟩
  obtain ⟨k55, mk55, el55⟩ : ∃ K : Int64 → Int32 → Int32 → Int32 → Int32 → Prop, (∀ (y4 : Int64) (y6 : Int32) (y7 : Int32) (y8 : Int32) (y9 : Int32), (∀ (ls : Array Slot), lv_has ls 10 [(0, .ref (a 25)), (1, .int x1), (2, .int x2), (3, .int x3), (4, .long y4), (6, .int y6), (7, .int y7), (8, .int y8), (9, .int y9)] → WW s.heap [] (F0 m 55 ls [])) → K y4 y6 y7 y8 y9) ∧ (∀ (y4 : Int64) (y6 : Int32) (y7 : Int32) (y8 : Int32) (y9 : Int32), K y4 y6 y7 y8 y9 → (∀ (ls : Array Slot), lv_has ls 10 [(0, .ref (a 25)), (1, .int x1), (2, .int x2), (3, .int x3), (4, .long y4), (6, .int y6), (7, .int y7), (8, .int y8), (9, .int y9)] → WW s.heap [] (F0 m 55 ls []))) := ⟨fun (y4 : Int64) (y6 : Int32) (y7 : Int32) (y8 : Int32) (y9 : Int32) => (∀ (ls : Array Slot), lv_has ls 10 [(0, .ref (a 25)), (1, .int x1), (2, .int x2), (3, .int x3), (4, .long y4), (6, .int y6), (7, .int y7), (8, .int y8), (9, .int y9)] → WW s.heap [] (F0 m 55 ls [])), fun _ _ _ _ _ h => h, fun _ _ _ _ _ h => h⟩
  have rl8 : ∀ (y4 : Int64) (y6 : Int32), (bd_X2_parted_8 x1 x2 x3 I F G post k8 k55 y4 y6) → k8 y4 y6 := by
    intro y4 y6 h
    refine mk8 _ _ ?_
    intro ls hl
    refine (hWW _ _ _).mpr ?_
    unfold bd_X2_parted_8 at h
    refine lv_iload hx hb dX2_parted_8 (lv_at hl 5 rfl) ?_
    refine lv_aload_n hx hb dX2_parted_10 rfl (lv_at hl 0 rfl) ?_
    refine va_get (D := D) (ci := 2) (v := .int (I 15)) (C := RX2) (T := TX2) (N := 8) hx hb hts mX2_parted_inX2 hown hB.1 hP 25 xC_c25 rfl 7 (by decide) (hts _ mX2_parted_2) (fun _ h9 => h9) rfl dX2_parted_11 ?_
    refine lv_icmp_ge (tgt := 104) hx hb dX2_parted_14 (by decide) (fun c12 => ?_) (fun c12 => ?_)
    · have h := h.1 c12
      refine lv_lload hx hb dX2_parted_104 (lv_at hl 4 rfl) ?_
      exact xw_iretl hx hb hr hlocks h dX2_parted_106
    · have h := h.2 c12
      refine lv_aload_n hx hb dX2_parted_17 rfl (lv_at hl 0 rfl) ?_
      refine va_get (D := D) (ci := 2) (v := .ref (a 31)) (C := RX2) (T := TX2) (N := 8) hx hb hts mX2_parted_inX2 hown hB.1 hP 25 xC_c25 rfl 6 (by decide) (hts _ mX2_parted_3) (fun _ h9 => h9) rfl dX2_parted_18 ?_
      refine lv_iload hx hb dX2_parted_21 (lv_at hl 5 rfl) ?_
      refine xw_iald hx hb hB hP 31 xC_c31 h.1 dX2_parted_23 (fun v13 ev13 => ?_)
      have h := h.2 v13 ev13
      refine lv_bipush (v := 81) hx hb dX2_parted_24 (by decide) ?_
      refine lv_imul hx hb dX2_parted_26 ?_
      refine lv_iload_n hx hb dX2_parted_27 rfl (lv_at hl 2 rfl) ?_
      refine lv_bipush (v := 9) hx hb dX2_parted_28 (by decide) ?_
      refine lv_imul hx hb dX2_parted_30 ?_
      refine lv_iadd hx hb dX2_parted_31 ?_
      refine lv_topi (fun v14 ev14 => ?_)
      have h := h v14 ev14
      refine lv_istore (lv' := [(7, .int v14), (0, .ref (a 25)), (1, .int x1), (2, .int x2), (3, .int x3), (4, .long y4), (6, .int y6)]) hx hb dX2_parted_32 hl (by decide) rfl (fun ls hl => ?_)
      refine lv_iload_n hx hb dX2_parted_34 rfl (lv_at hl 2 rfl) ?_
      refine lv_aload_n hx hb dX2_parted_35 rfl (lv_at hl 1 rfl) ?_
      refine va_get (D := D) (ci := 2) (v := .ref (a 31)) (C := RX2) (T := TX2) (N := 8) hx hb hts mX2_parted_inX2 hown hB.1 hP 25 xC_c25 rfl 6 (by decide) (hts _ mX2_parted_3) (fun _ h9 => h9) rfl dX2_parted_36 ?_
      refine lv_iload hx hb dX2_parted_39 (lv_at hl 6 rfl) ?_
      refine xw_iald hx hb hB hP 31 xC_c31 h.1 dX2_parted_41 (fun v15 ev15 => ?_)
      have h := h.2 v15 ev15
      refine lv_iconst (v := -1) hx hb dX2_parted_42 (by decide) ?_
      refine lv_ixor hx hb dX2_parted_43 ?_
      refine lv_iand hx hb dX2_parted_44 ?_
      refine lv_bipush (v := 81) hx hb dX2_parted_45 (by decide) ?_
      refine lv_imul hx hb dX2_parted_47 ?_
      refine lv_iload_n hx hb dX2_parted_48 rfl (lv_at hl 4 rfl) ?_
      refine lv_iadd hx hb dX2_parted_49 ?_
      refine lv_topi (fun v16 ev16 => ?_)
      have h := h v16 ev16
      refine lv_istore (lv' := [(8, .int v16), (7, .int v14), (0, .ref (a 25)), (1, .int x1), (2, .int x2), (3, .int x3), (4, .long y4), (6, .int y6)]) hx hb dX2_parted_50 hl (by decide) rfl (fun ls hl => ?_)
      refine lv_iload_n hx hb dX2_parted_52 rfl (lv_at hl 4 rfl) ?_
      refine lv_istore (lv' := [(9, .int x2), (8, .int v16), (7, .int v14), (0, .ref (a 25)), (1, .int x1), (2, .int x2), (3, .int x3), (4, .long y4), (6, .int y6)]) hx hb dX2_parted_53 hl (by decide) rfl (fun ls hl => ?_)
      exact (hWW _ _ _).mp (el55 _ _ _ _ _ h ls (lv_sub hl [3, 4, 5, 6, 7, 8, 2, 1, 0] rfl))
  have rl55 : ∀ (y4 : Int64) (y6 : Int32) (y7 : Int32) (y8 : Int32) (y9 : Int32), (bd_X2_parted_55 x1 x2 x3 I F G post k8 k55 y4 y6 y7 y8 y9) → k55 y4 y6 y7 y8 y9 := by
    intro y4 y6 y7 y8 y9 h
    refine mk55 _ _ _ _ _ ?_
    intro ls hl
    refine (hWW _ _ _).mpr ?_
    unfold bd_X2_parted_55 at h
    refine lv_iload hx hb dX2_parted_55 (lv_at hl 8 rfl) ?_
    refine lv_iload_n hx hb dX2_parted_57 rfl (lv_at hl 3 rfl) ?_
    refine lv_icmp_ge (tgt := 98) hx hb dX2_parted_58 (by decide) (fun c17 => ?_) (fun c17 => ?_)
    · have h := h.1 c17
      obtain ⟨v18, ev18⟩ : ∃ y : Int32, y = y6 + 1 := ⟨_, rfl⟩
      have h := h v18 ev18
      refine lv_iinc (v := v18) (lv' := [(6, .int v18), (0, .ref (a 25)), (1, .int x1), (2, .int x2), (3, .int x3), (4, .long y4), (7, .int y7), (8, .int y8), (9, .int y9)]) hx hb dX2_parted_98 hl (k := 5) rfl (by rw [ev18]; rfl) (by decide) rfl (fun ls hl => ?_)
      refine lv_goto (tgt := 8) hx hb dX2_parted_101 (by decide) ?_
      exact (hWW _ _ _).mp (el8 _ _ h ls (lv_sub hl [1, 2, 3, 4, 5, 0] rfl))
    · have h := h.2 c17
      refine lv_lload hx hb dX2_parted_61 (lv_at hl 4 rfl) ?_
      refine lv_aload_n hx hb dX2_parted_63 rfl (lv_at hl 0 rfl) ?_
      refine va_get (D := D) (ci := 2) (v := .ref (a 30)) (C := RX2) (T := TX2) (N := 8) hx hb hts mX2_parted_inX2 hown hB.1 hP 25 xC_c25 rfl 5 (by decide) (hts _ mX2_parted_4) (fun _ h9 => h9) rfl dX2_parted_64 ?_
      refine lv_iload hx hb dX2_parted_67 (lv_at hl 6 rfl) ?_
      refine lv_iload hx hb dX2_parted_69 (lv_at hl 8 rfl) ?_
      refine lv_iadd hx hb dX2_parted_71 ?_
      refine xw_lald hx hb hB hP 30 xC_c30 h.1 dX2_parted_72 (fun v19 ev19 => ?_)
      have h := h.2 v19 ev19
      refine lv_aload_n hx hb dX2_parted_73 rfl (lv_at hl 0 rfl) ?_
      refine va_get (D := D) (ci := 2) (v := .ref (a 30)) (C := RX2) (T := TX2) (N := 8) hx hb hts mX2_parted_inX2 hown hB.1 hP 25 xC_c25 rfl 5 (by decide) (hts _ mX2_parted_4) (fun _ h9 => h9) rfl dX2_parted_74 ?_
      refine lv_iload hx hb dX2_parted_77 (lv_at hl 7 rfl) ?_
      refine lv_iload hx hb dX2_parted_79 (lv_at hl 8 rfl) ?_
      refine lv_bipush (v := 9) hx hb dX2_parted_81 (by decide) ?_
      refine lv_imul hx hb dX2_parted_83 ?_
      refine lv_iadd hx hb dX2_parted_84 ?_
      refine xw_lald hx hb hB hP 30 xC_c30 h.1 dX2_parted_85 (fun v20 ev20 => ?_)
      have h := h.2 v20 ev20
      refine lv_ladd hx hb dX2_parted_86 ?_
      refine va_mmin_long hx hb (hml.trans hl.1.symm) hown (hts _ mX2_parted_5) (hts _ mX2_parted_6) (hts _ mX2_parted_7) (hts _ mX2_parted_8) (Nat.le_of_ble_eq_true rfl) (Nat.le_of_ble_eq_true rfl) (Nat.le_of_ble_eq_true rfl) (Nat.le_of_ble_eq_true rfl) dX2_parted_87 ?_
      refine lv_topl (fun v21 ev21 => ?_)
      have h := h v21 ev21
      refine lv_lstore (lv' := [(4, .long v21), (0, .ref (a 25)), (1, .int x1), (2, .int x2), (3, .int x3), (6, .int y6), (7, .int y7), (8, .int y8), (9, .int y9)]) hx hb dX2_parted_90 hl (by decide) rfl (fun ls hl => ?_)
      obtain ⟨v22, ev22⟩ : ∃ y : Int32, y = y9 + 1 := ⟨_, rfl⟩
      have h := h v22 ev22
      refine lv_iinc (v := v22) (lv' := [(9, .int v22), (4, .long v21), (0, .ref (a 25)), (1, .int x1), (2, .int x2), (3, .int x3), (6, .int y6), (7, .int y7), (8, .int y8)]) hx hb dX2_parted_92 hl (k := 8) rfl (by rw [ev22]; rfl) (by decide) rfl (fun ls hl => ?_)
      refine lv_goto (tgt := 55) hx hb dX2_parted_95 (by decide) ?_
      exact (hWW _ _ _).mp (el55 _ _ _ _ _ h ls (lv_sub hl [2, 3, 4, 5, 1, 6, 7, 8, 0] rfl))
  have h := h k8 k55 rl8 rl55
  unfold bd_X2_parted_0 at h
  refine lv_ldc2 hx hb hown (hts _ mX2_parted_1) dX2_parted_0 ?_
  refine lv_lstore (lv' := [(4, .long (1152921504606846976 : Int64)), (0, .ref (a 25)), (1, .int x1), (2, .int x2), (3, .int x3)]) hx hb dX2_parted_3 hl (by decide) rfl (fun ls hl => ?_)
  refine lv_iconst (v := 0) hx hb dX2_parted_5 (by decide) ?_
  refine lv_istore (lv' := [(6, .int (0 : Int32)), (4, .long (1152921504606846976 : Int64)), (0, .ref (a 25)), (1, .int x1), (2, .int x2), (3, .int x3)]) hx hb dX2_parted_6 hl (by decide) rfl (fun ls hl => ?_)
  exact (hWW _ _ _).mp (el8 _ _ h ls (lv_sub hl [2, 3, 4, 5, 1, 0] rfl))

theorem mX2_findSums_1 : Cond.fieldLink RX2 25 "TagCarrier$PairPlacer" "sums" "[J" ∈ wsX2_findSums := List.mem_of_getElem? (i := 1) rfl
theorem mX2_findSums_inX2 : ∀ w ∈ u_ws RX2 TX2 8, w ∈ wsX2_findSums := by decide +kernel
theorem mX2_findSums_2 : Cond.methodLink RX2 98 Lib.MathLoose.min_long.x ∈ wsX2_findSums := List.mem_of_getElem? (i := 2) rfl
theorem mX2_findSums_3 : Cond.static Lib.MathLoose.min_long.x ∈ wsX2_findSums := List.mem_of_getElem? (i := 3) rfl
theorem mX2_findSums_4 : Cond.initialized "java/lang/Math" ∈ wsX2_findSums := List.mem_of_getElem? (i := 4) rfl
theorem mX2_findSums_5 : Cond.code Lib.MathLoose.min_long.x Lib.MathLoose.min_long.code 4 (some .long) ∈ wsX2_findSums := List.mem_of_getElem? (i := 5) rfl
set_option maxHeartbeats 4000000 in
set_option maxRecDepth 100000 in
theorem c_X2_findSums (l : Launch) (D : va_G) (cy : Nat → ClassId) (a : Nat → Nat) (x2 : Int32) (x3 : Int32) (I : xw_I) (F : xw_F) (G : xw_G) (post : xw_I → xw_F → xw_G → Prop) (h : sm_X2_findSums x2 x3 I F G post) : xw_Wv l yX2_findSums wsX2_findSums ({ frames := 2, cells := 0, slots := 0, locals := 52 }) D cy [.ref (a 25), .ref (a 12), .int x2, .int x3] (xC_w cy a I F G) (xC_w cy a) post := by
  intro A
  refine Met.ofW (cc := cX2_findSums) (maxL := 9) (ret := none) (by decide) rfl ?_
  intro p e s m args below meth c s₁ B hml hv
  obtain ⟨rfl, hP, hB, hD⟩ := hv
  have hP : va_P D vwCl (xC_w cy a I F G) s.heap := hP
  have hx := B.exec
  have hb := B.bytes
  have hr := B.returns
  have hts := atoms_spec (ws := wsX2_findSums) B.pre
  have hown : s.vm.findClass RX2 = some m.cls := findClass_of_methodNamed B.named
  have hlocks := B.notSynchronized
  have hS : va_S A s.heap s.heap [] := va_S.rf
  refine xw_go (fun WW hWW => ?_)
  have hl := lv_entry ([.ref (a 25), .ref (a 12), .int x2, .int x3]) (n := 9) (Nat.le_of_ble_eq_true rfl)
  rw [lg_entry_eq]
  generalize (lg_sl ([.ref (a 25), .ref (a 12), .int x2, .int x3]) ++ List.replicate (9 - (lg_sl ([.ref (a 25), .ref (a 12), .int x2, .int x3])).length) Slot.unset).toArray = ls at hl ⊢
  have hl : lv_has ls 9 [(0, .ref (a 25)), (1, .ref (a 12)), (2, .int x2), (3, .int x3)] := hl
  obtain ⟨k3, mk3, el3⟩ : ∃ K : Int32 → xw_I → xw_F → xw_G → Prop, (∀ (y4 : Int32) (I : xw_I) (F : xw_F) (G : xw_G), (∀ (H : Heap) (locs : List Loc) (ls : Array Slot), va_P D vwCl (xC_w cy a I F G) H → va_D A (xC_w cy a I F G) → va_S A s.heap H locs → lv_has ls 9 [(0, .ref (a 25)), (1, .ref (a 12)), (2, .int x2), (3, .int x3), (4, .int y4)] → WW H locs (F0 m 3 ls [])) → K y4 I F G) ∧ (∀ (y4 : Int32) (I : xw_I) (F : xw_F) (G : xw_G), K y4 I F G → (∀ (H : Heap) (locs : List Loc) (ls : Array Slot), va_P D vwCl (xC_w cy a I F G) H → va_D A (xC_w cy a I F G) → va_S A s.heap H locs → lv_has ls 9 [(0, .ref (a 25)), (1, .ref (a 12)), (2, .int x2), (3, .int x3), (4, .int y4)] → WW H locs (F0 m 3 ls []))) := ⟨fun (y4 : Int32) (I : xw_I) (F : xw_F) (G : xw_G) => (∀ (H : Heap) (locs : List Loc) (ls : Array Slot), va_P D vwCl (xC_w cy a I F G) H → va_D A (xC_w cy a I F G) → va_S A s.heap H locs → lv_has ls 9 [(0, .ref (a 25)), (1, .ref (a 12)), (2, .int x2), (3, .int x3), (4, .int y4)] → WW H locs (F0 m 3 ls [])), fun _ _ _ _ h => h, fun _ _ _ _ h => h⟩
  obtain ⟨k12, mk12, el12⟩ : ∃ K : Int32 → Int32 → xw_I → xw_F → xw_G → Prop, (∀ (y4 : Int32) (y5 : Int32) (I : xw_I) (F : xw_F) (G : xw_G), (∀ (H : Heap) (locs : List Loc) (ls : Array Slot), va_P D vwCl (xC_w cy a I F G) H → va_D A (xC_w cy a I F G) → va_S A s.heap H locs → lv_has ls 9 [(0, .ref (a 25)), (1, .ref (a 12)), (2, .int x2), (3, .int x3), (4, .int y4), (5, .int y5)] → WW H locs (F0 m 12 ls [])) → K y4 y5 I F G) ∧ (∀ (y4 : Int32) (y5 : Int32) (I : xw_I) (F : xw_F) (G : xw_G), K y4 y5 I F G → (∀ (H : Heap) (locs : List Loc) (ls : Array Slot), va_P D vwCl (xC_w cy a I F G) H → va_D A (xC_w cy a I F G) → va_S A s.heap H locs → lv_has ls 9 [(0, .ref (a 25)), (1, .ref (a 12)), (2, .int x2), (3, .int x3), (4, .int y4), (5, .int y5)] → WW H locs (F0 m 12 ls []))) := ⟨fun (y4 : Int32) (y5 : Int32) (I : xw_I) (F : xw_F) (G : xw_G) => (∀ (H : Heap) (locs : List Loc) (ls : Array Slot), va_P D vwCl (xC_w cy a I F G) H → va_D A (xC_w cy a I F G) → va_S A s.heap H locs → lv_has ls 9 [(0, .ref (a 25)), (1, .ref (a 12)), (2, .int x2), (3, .int x3), (4, .int y4), (5, .int y5)] → WW H locs (F0 m 12 ls [])), fun _ _ _ _ _ h => h, fun _ _ _ _ _ h => h⟩
  obtain ⟨k119, mk119, el119⟩ : ∃ K : Int32 → Int32 → Int32 → Int64 → xw_I → xw_F → xw_G → Prop, (∀ (y4 : Int32) (y5 : Int32) (y6 : Int32) (y7 : Int64) (I : xw_I) (F : xw_F) (G : xw_G), (∀ (H : Heap) (locs : List Loc) (ls : Array Slot), va_P D vwCl (xC_w cy a I F G) H → va_D A (xC_w cy a I F G) → va_S A s.heap H locs → lv_has ls 9 [(0, .ref (a 25)), (1, .ref (a 12)), (2, .int x2), (3, .int x3), (4, .int y4), (5, .int y5), (6, .int y6), (7, .long y7)] → WW H locs (F0 m 119 ls [])) → K y4 y5 y6 y7 I F G) ∧ (∀ (y4 : Int32) (y5 : Int32) (y6 : Int32) (y7 : Int64) (I : xw_I) (F : xw_F) (G : xw_G), K y4 y5 y6 y7 I F G → (∀ (H : Heap) (locs : List Loc) (ls : Array Slot), va_P D vwCl (xC_w cy a I F G) H → va_D A (xC_w cy a I F G) → va_S A s.heap H locs → lv_has ls 9 [(0, .ref (a 25)), (1, .ref (a 12)), (2, .int x2), (3, .int x3), (4, .int y4), (5, .int y5), (6, .int y6), (7, .long y7)] → WW H locs (F0 m 119 ls []))) := ⟨fun (y4 : Int32) (y5 : Int32) (y6 : Int32) (y7 : Int64) (I : xw_I) (F : xw_F) (G : xw_G) => (∀ (H : Heap) (locs : List Loc) (ls : Array Slot), va_P D vwCl (xC_w cy a I F G) H → va_D A (xC_w cy a I F G) → va_S A s.heap H locs → lv_has ls 9 [(0, .ref (a 25)), (1, .ref (a 12)), (2, .int x2), (3, .int x3), (4, .int y4), (5, .int y5), (6, .int y6), (7, .long y7)] → WW H locs (F0 m 119 ls [])), fun _ _ _ _ _ _ _ h => h, fun _ _ _ _ _ _ _ h => h⟩
  have rl3 : ∀ (y4 : Int32) (I : xw_I) (F : xw_F) (G : xw_G), (bd_X2_findSums_3 x2 x3 post k3 k12 k119 y4 I F G) → k3 y4 I F G := by
    intro y4 I F G h
    refine mk3 _ _ _ _ ?_
    intro H locs ls hP hD hS hl
    refine (hWW _ _ _).mpr ?_
    unfold bd_X2_findSums_3 at h
    refine lv_iload hx hb dX2_findSums_3 (lv_at hl 4 rfl) ?_
    refine lv_iload_n hx hb dX2_findSums_5 rfl (lv_at hl 3 rfl) ?_
    refine lv_icmp_gt (tgt := 151) hx hb dX2_findSums_6 (by decide) (fun c13 => ?_) (fun c13 => ?_)
    · have h := h.1 c13
      exact xw_wretv hx hb hr hlocks hP hD hS h dX2_findSums_151
    · have h := h.2 c13
      refine lv_iconst (v := 0) hx hb dX2_findSums_9 (by decide) ?_
      refine lv_istore (lv' := [(5, .int (0 : Int32)), (0, .ref (a 25)), (1, .ref (a 12)), (2, .int x2), (3, .int x3), (4, .int y4)]) hx hb dX2_findSums_10 hl (by decide) rfl (fun ls hl => ?_)
      exact (hWW _ _ _).mp (el12 _ _ _ _ _ h _ _ ls hP hD hS (lv_sub hl [1, 2, 3, 4, 5, 0] rfl))
  have rl12 : ∀ (y4 : Int32) (y5 : Int32) (I : xw_I) (F : xw_F) (G : xw_G), (bd_X2_findSums_12 x2 x3 post k3 k12 k119 y4 y5 I F G) → k12 y4 y5 I F G := by
    intro y4 y5 I F G h
    refine mk12 _ _ _ _ _ ?_
    intro H locs ls hP hD hS hl
    refine (hWW _ _ _).mpr ?_
    unfold bd_X2_findSums_12 at h
    refine lv_iload hx hb dX2_findSums_12 (lv_at hl 5 rfl) ?_
    refine lv_iload hx hb dX2_findSums_14 (lv_at hl 4 rfl) ?_
    refine lv_iadd hx hb dX2_findSums_16 ?_
    refine lv_iload_n hx hb dX2_findSums_17 rfl (lv_at hl 3 rfl) ?_
    refine lv_icmp_gt (tgt := 145) hx hb dX2_findSums_18 (by decide) (fun c14 => ?_) (fun c14 => ?_)
    · have h := h.1 c14
      obtain ⟨v15, ev15⟩ : ∃ y : Int32, y = y4 + 1 := ⟨_, rfl⟩
      have h := h v15 ev15
      refine lv_iinc (v := v15) (lv' := [(4, .int v15), (0, .ref (a 25)), (1, .ref (a 12)), (2, .int x2), (3, .int x3), (5, .int y5)]) hx hb dX2_findSums_145 hl (k := 4) rfl (by rw [ev15]; rfl) (by decide) rfl (fun ls hl => ?_)
      refine lv_goto (tgt := 3) hx hb dX2_findSums_148 (by decide) ?_
      exact (hWW _ _ _).mp (el3 _ _ _ _ h _ _ ls hP hD hS (lv_sub hl [1, 2, 3, 4, 0] rfl))
    · have h := h.2 c14
      refine lv_iload hx hb dX2_findSums_21 (lv_at hl 5 rfl) ?_
      refine lv_iload hx hb dX2_findSums_23 (lv_at hl 4 rfl) ?_
      refine lv_iadd hx hb dX2_findSums_25 ?_
      refine lv_topi (fun v16 ev16 => ?_)
      have h := h v16 ev16
      refine lv_istore (lv' := [(6, .int v16), (0, .ref (a 25)), (1, .ref (a 12)), (2, .int x2), (3, .int x3), (4, .int y4), (5, .int y5)]) hx hb dX2_findSums_26 hl (by decide) rfl (fun ls hl => ?_)
      refine lv_aload_n hx hb dX2_findSums_28 rfl (lv_at hl 1 rfl) ?_
      refine lv_aload_n hx hb dX2_findSums_29 rfl (lv_at hl 2 rfl) ?_
      refine lv_iload_n hx hb dX2_findSums_30 rfl (lv_at hl 3 rfl) ?_
      refine lv_iload hx hb dX2_findSums_31 (lv_at hl 6 rfl) ?_
      refine lv_bipush (v := 9) hx hb dX2_findSums_33 (by decide) ?_
      refine lv_imul hx hb dX2_findSums_35 ?_
      refine lv_iload hx hb dX2_findSums_36 (lv_at hl 0 rfl) ?_
      refine lv_iadd hx hb dX2_findSums_38 ?_
      refine xw_rl (va_runV (rm := { frames := 1, cells := 0, slots := 0, locals := 23 }) (As := [.ref (a 12), .int x2, .int ((y5 * (9 : Int32)) + v16)]) (rest := []) ⟨hx, hb, hml, hown, hts⟩ (c_X2_filled l D cy a x2 ((y5 * (9 : Int32)) + v16) I F G _ h A) (cwV 3 hts gX2_findSums_X2_filled rfl rfl rfl (by decide +kernel) ⟨Nat.le_of_ble_eq_true rfl, Nat.le_of_ble_eq_true rfl⟩) (xw_preV hB hP hD (ci := 2) rfl xC_c25) rfl rfl hl.1 rfl (lv_room (Nat.le_of_ble_eq_true rfl)) dX2_findSums_39 ⟨Nat.le_of_ble_eq_true rfl, Nat.le_of_ble_eq_true rfl⟩) (fun r17 h => ?_)
      refine lv_lstore (lv' := [(7, .long r17), (6, .int v16), (0, .ref (a 25)), (1, .ref (a 12)), (2, .int x2), (3, .int x3), (4, .int y4), (5, .int y5)]) hx hb dX2_findSums_42 hl (by decide) rfl (fun ls hl => ?_)
      refine lv_iload hx hb dX2_findSums_44 (lv_at hl 6 rfl) ?_
      refine lv_if_le (tgt := 119) hx hb dX2_findSums_46 (by decide) (fun c18 => ?_) (fun c18 => ?_)
      · have h := h.1 c18
        exact (hWW _ _ _).mp (el119 _ _ _ _ _ _ _ h _ _ ls hP hD hS (lv_sub hl [2, 3, 4, 5, 6, 7, 1, 0] rfl))
      · have h := h.2 c18
        refine lv_lload hx hb dX2_findSums_49 (lv_at hl 0 rfl) ?_
        refine lv_aload_n hx hb dX2_findSums_51 rfl (lv_at hl 2 rfl) ?_
        refine va_get (D := D) (ci := 2) (v := .ref (a 30)) (C := RX2) (T := TX2) (N := 8) hx hb hts mX2_findSums_inX2 hown hB.1 hP 25 xC_c25 rfl 5 (by decide) (hts _ mX2_findSums_1) (fun _ h9 => h9) rfl dX2_findSums_52 ?_
        refine lv_iload_n hx hb dX2_findSums_55 rfl (lv_at hl 4 rfl) ?_
        refine lv_bipush (v := 81) hx hb dX2_findSums_56 (by decide) ?_
        refine lv_imul hx hb dX2_findSums_58 ?_
        refine lv_iload hx hb dX2_findSums_59 (lv_at hl 7 rfl) ?_
        refine lv_iconst (v := 1) hx hb dX2_findSums_61 (by decide) ?_
        refine lv_iadd hx hb dX2_findSums_62 ?_
        refine lv_bipush (v := 9) hx hb dX2_findSums_63 (by decide) ?_
        refine lv_imul hx hb dX2_findSums_65 ?_
        refine lv_iadd hx hb dX2_findSums_66 ?_
        refine lv_iload hx hb dX2_findSums_67 (lv_at hl 1 rfl) ?_
        refine lv_iadd hx hb dX2_findSums_69 ?_
        refine xw_lald hx hb hB hP 30 xC_c30 h.1 dX2_findSums_70 (fun v19 ev19 => ?_)
        have h := h.2 v19 ev19
        refine va_mmin_long hx hb (hml.trans hl.1.symm) hown (hts _ mX2_findSums_2) (hts _ mX2_findSums_3) (hts _ mX2_findSums_4) (hts _ mX2_findSums_5) (Nat.le_of_ble_eq_true rfl) (Nat.le_of_ble_eq_true rfl) (Nat.le_of_ble_eq_true rfl) (Nat.le_of_ble_eq_true rfl) dX2_findSums_71 ?_
        refine lv_topl (fun v20 ev20 => ?_)
        have h := h v20 ev20
        refine lv_lstore (lv' := [(7, .long v20), (6, .int v16), (0, .ref (a 25)), (1, .ref (a 12)), (2, .int x2), (3, .int x3), (4, .int y4), (5, .int y5)]) hx hb dX2_findSums_74 hl (by decide) rfl (fun ls hl => ?_)
        refine lv_lload hx hb dX2_findSums_76 (lv_at hl 0 rfl) ?_
        refine lv_aload_n hx hb dX2_findSums_78 rfl (lv_at hl 2 rfl) ?_
        refine va_get (D := D) (ci := 2) (v := .ref (a 30)) (C := RX2) (T := TX2) (N := 8) hx hb hts mX2_findSums_inX2 hown hB.1 hP 25 xC_c25 rfl 5 (by decide) (hts _ mX2_findSums_1) (fun _ h9 => h9) rfl dX2_findSums_79 ?_
        refine lv_iload_n hx hb dX2_findSums_82 rfl (lv_at hl 4 rfl) ?_
        refine lv_bipush (v := 81) hx hb dX2_findSums_83 (by decide) ?_
        refine lv_imul hx hb dX2_findSums_85 ?_
        refine lv_iload hx hb dX2_findSums_86 (lv_at hl 7 rfl) ?_
        refine lv_bipush (v := 9) hx hb dX2_findSums_88 (by decide) ?_
        refine lv_imul hx hb dX2_findSums_90 ?_
        refine lv_iadd hx hb dX2_findSums_91 ?_
        refine lv_iload hx hb dX2_findSums_92 (lv_at hl 1 rfl) ?_
        refine lv_iadd hx hb dX2_findSums_94 ?_
        refine lv_iconst (v := 1) hx hb dX2_findSums_95 (by decide) ?_
        refine lv_isub hx hb dX2_findSums_96 ?_
        refine xw_lald hx hb hB hP 30 xC_c30 h.1 dX2_findSums_97 (fun v21 ev21 => ?_)
        have h := h.2 v21 ev21
        refine va_mmin_long hx hb (hml.trans hl.1.symm) hown (hts _ mX2_findSums_2) (hts _ mX2_findSums_3) (hts _ mX2_findSums_4) (hts _ mX2_findSums_5) (Nat.le_of_ble_eq_true rfl) (Nat.le_of_ble_eq_true rfl) (Nat.le_of_ble_eq_true rfl) (Nat.le_of_ble_eq_true rfl) dX2_findSums_98 ?_
        refine lv_topl (fun v22 ev22 => ?_)
        have h := h v22 ev22
        refine lv_lstore (lv' := [(7, .long v22), (6, .int v16), (0, .ref (a 25)), (1, .ref (a 12)), (2, .int x2), (3, .int x3), (4, .int y4), (5, .int y5)]) hx hb dX2_findSums_101 hl (by decide) rfl (fun ls hl => ?_)
        refine lv_lload hx hb dX2_findSums_103 (lv_at hl 0 rfl) ?_
        refine lv_aload_n hx hb dX2_findSums_105 rfl (lv_at hl 2 rfl) ?_
        refine lv_iload_n hx hb dX2_findSums_106 rfl (lv_at hl 4 rfl) ?_
        refine lv_iload hx hb dX2_findSums_107 (lv_at hl 7 rfl) ?_
        refine lv_iload hx hb dX2_findSums_109 (lv_at hl 1 rfl) ?_
        refine xw_rl (va_runV (rm := { frames := 1, cells := 0, slots := 0, locals := 23 }) (As := [.int x2, .int y5, .int v16]) (rest := [.long v22]) ⟨hx, hb, hml, hown, hts⟩ (c_X2_parted l D cy a x2 y5 v16 I F G _ h A) (cwV 3 hts gX2_findSums_X2_parted rfl rfl rfl (by decide +kernel) ⟨Nat.le_of_ble_eq_true rfl, Nat.le_of_ble_eq_true rfl⟩) (xw_preV hB hP hD (ci := 2) rfl xC_c25) rfl rfl hl.1 rfl (lv_room (Nat.le_of_ble_eq_true rfl)) dX2_findSums_111 ⟨Nat.le_of_ble_eq_true rfl, Nat.le_of_ble_eq_true rfl⟩) (fun r23 h => ?_)
        refine va_mmin_long hx hb (hml.trans hl.1.symm) hown (hts _ mX2_findSums_2) (hts _ mX2_findSums_3) (hts _ mX2_findSums_4) (hts _ mX2_findSums_5) (Nat.le_of_ble_eq_true rfl) (Nat.le_of_ble_eq_true rfl) (Nat.le_of_ble_eq_true rfl) (Nat.le_of_ble_eq_true rfl) dX2_findSums_114 ?_
        refine lv_topl (fun v24 ev24 => ?_)
        have h := h v24 ev24
        refine lv_lstore (lv' := [(7, .long v24), (6, .int v16), (0, .ref (a 25)), (1, .ref (a 12)), (2, .int x2), (3, .int x3), (4, .int y4), (5, .int y5)]) hx hb dX2_findSums_117 hl (by decide) rfl (fun ls hl => ?_)
        exact (hWW _ _ _).mp (el119 _ _ _ _ _ _ _ h _ _ ls hP hD hS (lv_sub hl [2, 3, 4, 5, 6, 7, 1, 0] rfl))
  have rl119 : ∀ (y4 : Int32) (y5 : Int32) (y6 : Int32) (y7 : Int64) (I : xw_I) (F : xw_F) (G : xw_G), (bd_X2_findSums_119 x2 x3 post k3 k12 k119 y4 y5 y6 y7 I F G) → k119 y4 y5 y6 y7 I F G := by
    intro y4 y5 y6 y7 I F G h
    refine mk119 _ _ _ _ _ _ _ ?_
    intro H locs ls hP hD hS hl
    refine (hWW _ _ _).mpr ?_
    unfold bd_X2_findSums_119 at h
    refine lv_aload_n hx hb dX2_findSums_119 rfl (lv_at hl 0 rfl) ?_
    refine va_get (D := D) (ci := 2) (v := .ref (a 30)) (C := RX2) (T := TX2) (N := 8) hx hb hts mX2_findSums_inX2 hown hB.1 hP 25 xC_c25 rfl 5 (by decide) (hts _ mX2_findSums_1) (fun _ h9 => h9) rfl dX2_findSums_120 ?_
    refine lv_iload_n hx hb dX2_findSums_123 rfl (lv_at hl 2 rfl) ?_
    refine lv_bipush (v := 81) hx hb dX2_findSums_124 (by decide) ?_
    refine lv_imul hx hb dX2_findSums_126 ?_
    refine lv_iload hx hb dX2_findSums_127 (lv_at hl 5 rfl) ?_
    refine lv_bipush (v := 9) hx hb dX2_findSums_129 (by decide) ?_
    refine lv_imul hx hb dX2_findSums_131 ?_
    refine lv_iadd hx hb dX2_findSums_132 ?_
    refine lv_iload hx hb dX2_findSums_133 (lv_at hl 6 rfl) ?_
    refine lv_iadd hx hb dX2_findSums_135 ?_
    refine lv_lload hx hb dX2_findSums_136 (lv_at hl 7 rfl) ?_
    refine xw_last hx hb hB hP hD hS 30 xC_c30 h.1 xC_f30 dX2_findSums_138 (fun H locs hP hD hS => ?_)
    have h := h.2
    obtain ⟨G25, eG25⟩ : ∃ f : xw_G, f = xw_up G 30 (vp_updL (G 30) (((x2 * (81 : Int32)) + (y5 * (9 : Int32))) + y6).toNatClampNeg y7) := ⟨_, rfl⟩
    rw [← eG25] at hP hD
    have h := h G25 eG25
    obtain ⟨v26, ev26⟩ : ∃ y : Int32, y = y5 + 1 := ⟨_, rfl⟩
    have h := h v26 ev26
    refine lv_iinc (v := v26) (lv' := [(5, .int v26), (0, .ref (a 25)), (1, .ref (a 12)), (2, .int x2), (3, .int x3), (4, .int y4), (6, .int y6), (7, .long y7)]) hx hb dX2_findSums_139 hl (k := 5) rfl (by rw [ev26]; rfl) (by decide) rfl (fun ls hl => ?_)
    refine lv_goto (tgt := 12) hx hb dX2_findSums_142 (by decide) ?_
    exact (hWW _ _ _).mp (el12 _ _ _ _ _ h _ _ ls hP hD hS (lv_sub hl [1, 2, 3, 4, 5, 0] rfl))
  have h := h k3 k12 k119 rl3 rl12 rl119
  unfold bd_X2_findSums_0 at h
  refine lv_iconst (v := 0) hx hb dX2_findSums_0 (by decide) ?_
  refine lv_istore (lv' := [(4, .int (0 : Int32)), (0, .ref (a 25)), (1, .ref (a 12)), (2, .int x2), (3, .int x3)]) hx hb dX2_findSums_1 hl (by decide) rfl (fun ls hl => ?_)
  exact (hWW _ _ _).mp (el3 _ _ _ _ h _ _ ls hP hD hS (lv_sub hl [1, 2, 3, 4, 0] rfl))

theorem mX2_readSpans_1 : Cond.fieldLink RX2 107 "TagCarrier$PairPlacer" "costOfAll" "I" ∈ wsX2_readSpans := List.mem_of_getElem? (i := 1) rfl
theorem mX2_readSpans_inX2 : ∀ w ∈ u_ws RX2 TX2 8, w ∈ wsX2_readSpans := by decide +kernel
theorem mX2_readSpans_8 : Cond.initialized RX7 ∈ wsX2_readSpans := List.mem_of_getElem? (i := 8) rfl
theorem mX2_readSpans_7 : Cond.static yX7_has ∈ wsX2_readSpans := List.mem_of_getElem? (i := 7) rfl
theorem mX2_readSpans_2 : Cond.fieldLink RX2 11 "TagCarrier$PairPlacer" "from" "[I" ∈ wsX2_readSpans := List.mem_of_getElem? (i := 2) rfl
theorem mX2_readSpans_3 : Cond.fieldLink RX2 15 "TagCarrier$PairPlacer" "to" "[I" ∈ wsX2_readSpans := List.mem_of_getElem? (i := 3) rfl
theorem mX2_readSpans_4 : Cond.fieldLink RX2 18 "TagCarrier$PairPlacer" "cost" "[I" ∈ wsX2_readSpans := List.mem_of_getElem? (i := 4) rfl
theorem mX2_readSpans_5 : Cond.fieldLink RX2 41 "TagCarrier$Wanted" "from" "[I" ∈ wsX2_readSpans := List.mem_of_getElem? (i := 5) rfl
theorem mX2_readSpans_inX5 : ∀ w ∈ u_ws RX5 TX5 4, w ∈ wsX2_readSpans := by decide +kernel
theorem mX2_readSpans_6 : Cond.fieldLink RX2 44 "TagCarrier$Wanted" "to" "[I" ∈ wsX2_readSpans := List.mem_of_getElem? (i := 6) rfl
set_option maxHeartbeats 4000000 in
set_option maxRecDepth 100000 in
theorem c_X2_readSpans (l : Launch) (D : va_G) (cy : Nat → ClassId) (a : Nat → Nat) (x1 : Int32) (x3 : Int64) (I : xw_I) (F : xw_F) (G : xw_G) (post : xw_I → xw_F → xw_G → Prop) (h : sm_X2_readSpans x1 x3 I F G post) : xw_Wv l yX2_readSpans wsX2_readSpans ({ frames := 2, cells := 0, slots := 0, locals := 50 }) D cy [.ref (a 25), .int x1, .ref (a 21), .long x3] (xC_w cy a I F G) (xC_w cy a) post := by
  intro A
  refine Met.ofW (cc := cX2_readSpans) (maxL := 7) (ret := none) (by decide) rfl ?_
  intro p e s m args below meth c s₁ B hml hv
  obtain ⟨rfl, hP, hB, hD⟩ := hv
  have hP : va_P D vwCl (xC_w cy a I F G) s.heap := hP
  have hx := B.exec
  have hb := B.bytes
  have hr := B.returns
  have hts := atoms_spec (ws := wsX2_readSpans) B.pre
  have hown : s.vm.findClass RX2 = some m.cls := findClass_of_methodNamed B.named
  have hlocks := B.notSynchronized
  have hS : va_S A s.heap s.heap [] := va_S.rf
  refine xw_go (fun WW hWW => ?_)
  have hl := lv_entry ([.ref (a 25), .int x1, .ref (a 21), .long x3]) (n := 7) (Nat.le_of_ble_eq_true rfl)
  rw [lg_entry_eq]
  generalize (lg_sl ([.ref (a 25), .int x1, .ref (a 21), .long x3]) ++ List.replicate (7 - (lg_sl ([.ref (a 25), .int x1, .ref (a 21), .long x3])).length) Slot.unset).toArray = ls at hl ⊢
  have hl : lv_has ls 7 [(0, .ref (a 25)), (1, .int x1), (2, .ref (a 21)), (3, .long x3)] := hl
  obtain ⟨k12, mk12, el12⟩ : ∃ K : Int32 → xw_I → xw_F → xw_G → Prop, (∀ (y5 : Int32) (I : xw_I) (F : xw_F) (G : xw_G), (∀ (H : Heap) (locs : List Loc) (ls : Array Slot), va_P D vwCl (xC_w cy a I F G) H → va_D A (xC_w cy a I F G) → va_S A s.heap H locs → lv_has ls 7 [(0, .ref (a 25)), (1, .int x1), (2, .ref (a 21)), (3, .long x3), (5, .int y5)] → WW H locs (F0 m 12 ls [])) → K y5 I F G) ∧ (∀ (y5 : Int32) (I : xw_I) (F : xw_F) (G : xw_G), K y5 I F G → (∀ (H : Heap) (locs : List Loc) (ls : Array Slot), va_P D vwCl (xC_w cy a I F G) H → va_D A (xC_w cy a I F G) → va_S A s.heap H locs → lv_has ls 7 [(0, .ref (a 25)), (1, .int x1), (2, .ref (a 21)), (3, .long x3), (5, .int y5)] → WW H locs (F0 m 12 ls []))) := ⟨fun (y5 : Int32) (I : xw_I) (F : xw_F) (G : xw_G) => (∀ (H : Heap) (locs : List Loc) (ls : Array Slot), va_P D vwCl (xC_w cy a I F G) H → va_D A (xC_w cy a I F G) → va_S A s.heap H locs → lv_has ls 7 [(0, .ref (a 25)), (1, .int x1), (2, .ref (a 21)), (3, .long x3), (5, .int y5)] → WW H locs (F0 m 12 ls [])), fun _ _ _ _ h => h, fun _ _ _ _ h => h⟩
  have rl12 : ∀ (y5 : Int32) (I : xw_I) (F : xw_F) (G : xw_G), (bd_X2_readSpans_12 x1 x3 post k12 y5 I F G) → k12 y5 I F G := by
    intro y5 I F G h
    refine mk12 _ _ _ _ ?_
    intro H locs ls hP hD hS hl
    refine (hWW _ _ _).mpr ?_
    unfold bd_X2_readSpans_12 at h
    refine lv_iload hx hb dX2_readSpans_12 (lv_at hl 4 rfl) ?_
    refine lv_iconst (v := 5) hx hb dX2_readSpans_14 (by decide) ?_
    refine lv_icmp_ge (tgt := 109) hx hb dX2_readSpans_15 (by decide) (fun c14 => ?_) (fun c14 => ?_)
    · have h := h.1 c14
      exact xw_wretv hx hb hr hlocks hP hD hS h dX2_readSpans_109
    · have h := h.2 c14
      refine lv_iload_n hx hb dX2_readSpans_18 rfl (lv_at hl 1 rfl) ?_
      refine lv_iload hx hb dX2_readSpans_19 (lv_at hl 4 rfl) ?_
      refine xw_ri (va_runSN (rm := { frames := 0, cells := 0, slots := 0, locals := 0 }) (As := [.int x1, .int y5]) (rest := []) ⟨hx, hb, hml, hown, hts⟩ (c_X7_has l D cy x1 y5 _ h (fun _ => True)) (⟨va_cnB 2 hts gX2_readSpans_X7_has_n37 rfl rfl rfl (hB.2 11 _ rfl) (hts _ mX2_readSpans_8) (by decide +kernel) ⟨Nat.le_of_ble_eq_true rfl, Nat.le_of_ble_eq_true rfl⟩, hts _ mX2_readSpans_7, trivial⟩) (xw_preS hB xw_P0 (xw_D0 (A := fun _ => True))) rfl rfl hl.1 rfl (lv_room (Nat.le_of_ble_eq_true rfl)) dX2_readSpans_21 ⟨Nat.le_of_ble_eq_true rfl, Nat.le_of_ble_eq_true rfl⟩) (fun r15 h => ?_)
      refine lv_if_eq (tgt := 103) hx hb dX2_readSpans_24 (by decide) (fun c16 => ?_) (fun c16 => ?_)
      · have h := h.1 c16
        obtain ⟨v17, ev17⟩ : ∃ y : Int32, y = y5 + 1 := ⟨_, rfl⟩
        have h := h v17 ev17
        refine lv_iinc (v := v17) (lv' := [(5, .int v17), (0, .ref (a 25)), (1, .int x1), (2, .ref (a 21)), (3, .long x3)]) hx hb dX2_readSpans_103 hl (k := 4) rfl (by rw [ev17]; rfl) (by decide) rfl (fun ls hl => ?_)
        refine lv_goto (tgt := 12) hx hb dX2_readSpans_106 (by decide) ?_
        exact (hWW _ _ _).mp (el12 _ _ _ _ h _ _ ls hP hD hS (lv_sub hl [1, 2, 3, 4, 0] rfl))
      · have h := h.2 c16
        refine lv_lload_n hx hb dX2_readSpans_27 rfl (lv_at hl 3 rfl) ?_
        refine lv_iload hx hb dX2_readSpans_28 (lv_at hl 4 rfl) ?_
        refine xw_ri (va_runS (rm := { frames := 0, cells := 0, slots := 0, locals := 0 }) (As := [.int y5]) (rest := [.long x3]) ⟨hx, hb, hml, hown, hts⟩ (c_X2_shiftOf l D cy y5 _ h (fun _ => True)) (va_cwS 1 hts gX2_readSpans_X2_shiftOf rfl rfl rfl (by decide +kernel) ⟨Nat.le_of_ble_eq_true rfl, Nat.le_of_ble_eq_true rfl⟩) (xw_preS hB xw_P0 (xw_D0 (A := fun _ => True))) rfl rfl hl.1 rfl (lv_room (Nat.le_of_ble_eq_true rfl)) dX2_readSpans_30 ⟨Nat.le_of_ble_eq_true rfl, Nat.le_of_ble_eq_true rfl⟩) (fun r18 h => ?_)
        refine lv_lshr hx hb dX2_readSpans_33 rfl ?_
        refine lv_l2i hx hb dX2_readSpans_34 rfl ?_
        refine lv_topi (fun v19 ev19 => ?_)
        have h := h v19 ev19
        refine lv_istore (lv' := [(6, .int v19), (0, .ref (a 25)), (1, .int x1), (2, .ref (a 21)), (3, .long x3), (5, .int y5)]) hx hb dX2_readSpans_35 hl (by decide) rfl (fun ls hl => ?_)
        refine lv_aload_n hx hb dX2_readSpans_37 rfl (lv_at hl 1 rfl) ?_
        refine va_get (D := D) (ci := 2) (v := .ref (a 26)) (C := RX2) (T := TX2) (N := 8) hx hb hts mX2_readSpans_inX2 hown hB.1 hP 25 xC_c25 rfl 0 (by decide) (hts _ mX2_readSpans_2) (fun _ h9 => h9) rfl dX2_readSpans_38 ?_
        refine lv_iload hx hb dX2_readSpans_41 (lv_at hl 5 rfl) ?_
        refine lv_iload hx hb dX2_readSpans_43 (lv_at hl 0 rfl) ?_
        refine lv_iconst (v := 4) hx hb dX2_readSpans_45 (by decide) ?_
        refine lv_ishr hx hb dX2_readSpans_46 ?_
        refine lv_bipush (v := 15) hx hb dX2_readSpans_47 (by decide) ?_
        refine lv_iand hx hb dX2_readSpans_49 ?_
        refine xw_iast hx hb hB hP hD hS 26 xC_c26 h.1 xC_f26 dX2_readSpans_50 (fun H locs hP hD hS => ?_)
        have h := h.2
        obtain ⟨F20, eF20⟩ : ∃ f : xw_F, f = xw_up F 26 (upd (F 26) y5.toNatClampNeg ((v19 >>> ((4 : Int32) &&& 31)) &&& (15 : Int32))) := ⟨_, rfl⟩
        rw [← eF20] at hP hD
        have h := h F20 eF20
        refine lv_aload_n hx hb dX2_readSpans_51 rfl (lv_at hl 1 rfl) ?_
        refine va_get (D := D) (ci := 2) (v := .ref (a 27)) (C := RX2) (T := TX2) (N := 8) hx hb hts mX2_readSpans_inX2 hown hB.1 hP 25 xC_c25 rfl 1 (by decide) (hts _ mX2_readSpans_3) (fun _ h9 => h9) rfl dX2_readSpans_52 ?_
        refine lv_iload hx hb dX2_readSpans_55 (lv_at hl 5 rfl) ?_
        refine lv_iload hx hb dX2_readSpans_57 (lv_at hl 0 rfl) ?_
        refine lv_bipush (v := 15) hx hb dX2_readSpans_59 (by decide) ?_
        refine lv_iand hx hb dX2_readSpans_61 ?_
        refine xw_iast hx hb hB hP hD hS 27 xC_c27 h.1 xC_f27 dX2_readSpans_62 (fun H locs hP hD hS => ?_)
        have h := h.2
        obtain ⟨F21, eF21⟩ : ∃ f : xw_F, f = xw_up F20 27 (upd (F20 27) y5.toNatClampNeg (v19 &&& (15 : Int32))) := ⟨_, rfl⟩
        rw [← eF21] at hP hD
        have h := h F21 eF21
        refine lv_aload_n hx hb dX2_readSpans_63 rfl (lv_at hl 1 rfl) ?_
        refine va_get (D := D) (ci := 2) (v := .ref (a 28)) (C := RX2) (T := TX2) (N := 8) hx hb hts mX2_readSpans_inX2 hown hB.1 hP 25 xC_c25 rfl 2 (by decide) (hts _ mX2_readSpans_4) (fun _ h9 => h9) rfl dX2_readSpans_64 ?_
        refine lv_iload hx hb dX2_readSpans_67 (lv_at hl 5 rfl) ?_
        refine lv_iload hx hb dX2_readSpans_69 (lv_at hl 5 rfl) ?_
        refine lv_aload_n hx hb dX2_readSpans_71 rfl (lv_at hl 3 rfl) ?_
        refine va_get (D := D) (ci := 5) (v := .ref (a 22)) (C := RX5) (T := TX5) (N := 4) hx hb hts mX2_readSpans_inX5 hown hB.1 hP 21 xC_c21 rfl 0 (by decide) (hts _ mX2_readSpans_5) (fun _ h9 => h9) rfl dX2_readSpans_72 ?_
        refine lv_iload hx hb dX2_readSpans_75 (lv_at hl 5 rfl) ?_
        refine xw_iald hx hb hB hP 22 xC_c22 h.1 dX2_readSpans_77 (fun v22 ev22 => ?_)
        have h := h.2 v22 ev22
        refine lv_aload_n hx hb dX2_readSpans_78 rfl (lv_at hl 3 rfl) ?_
        refine va_get (D := D) (ci := 5) (v := .ref (a 23)) (C := RX5) (T := TX5) (N := 4) hx hb hts mX2_readSpans_inX5 hown hB.1 hP 21 xC_c21 rfl 1 (by decide) (hts _ mX2_readSpans_6) (fun _ h9 => h9) rfl dX2_readSpans_79 ?_
        refine lv_iload hx hb dX2_readSpans_82 (lv_at hl 5 rfl) ?_
        refine xw_iald hx hb hB hP 23 xC_c23 h.1 dX2_readSpans_84 (fun v23 ev23 => ?_)
        have h := h.2 v23 ev23
        refine lv_aload_n hx hb dX2_readSpans_85 rfl (lv_at hl 1 rfl) ?_
        refine va_get (D := D) (ci := 2) (v := .ref (a 26)) (C := RX2) (T := TX2) (N := 8) hx hb hts mX2_readSpans_inX2 hown hB.1 hP 25 xC_c25 rfl 0 (by decide) (hts _ mX2_readSpans_2) (fun _ h9 => h9) rfl dX2_readSpans_86 ?_
        refine lv_iload hx hb dX2_readSpans_89 (lv_at hl 5 rfl) ?_
        refine xw_iald hx hb hB hP 26 xC_c26 h.1 dX2_readSpans_91 (fun v24 ev24 => ?_)
        have h := h.2 v24 ev24
        refine lv_aload_n hx hb dX2_readSpans_92 rfl (lv_at hl 1 rfl) ?_
        refine va_get (D := D) (ci := 2) (v := .ref (a 27)) (C := RX2) (T := TX2) (N := 8) hx hb hts mX2_readSpans_inX2 hown hB.1 hP 25 xC_c25 rfl 1 (by decide) (hts _ mX2_readSpans_3) (fun _ h9 => h9) rfl dX2_readSpans_93 ?_
        refine lv_iload hx hb dX2_readSpans_96 (lv_at hl 5 rfl) ?_
        refine xw_iald hx hb hB hP 27 xC_c27 h.1 dX2_readSpans_98 (fun v25 ev25 => ?_)
        have h := h.2 v25 ev25
        refine xw_ri (va_runS (rm := { frames := 1, cells := 0, slots := 0, locals := 23 }) (As := [.int y5, .int v22, .int v23, .int v24, .int v25]) (rest := [.int y5, .ref (a 28)]) ⟨hx, hb, hml, hown, hts⟩ (c_X2_costOf l D cy y5 v22 v23 v24 v25 _ h (fun _ => True)) (va_cwS 5 hts gX2_readSpans_X2_costOf rfl rfl rfl (by decide +kernel) ⟨Nat.le_of_ble_eq_true rfl, Nat.le_of_ble_eq_true rfl⟩) (xw_preS hB xw_P0 (xw_D0 (A := fun _ => True))) rfl rfl hl.1 rfl (lv_room (Nat.le_of_ble_eq_true rfl)) dX2_readSpans_99 ⟨Nat.le_of_ble_eq_true rfl, Nat.le_of_ble_eq_true rfl⟩) (fun r26 h => ?_)
        refine xw_iast hx hb hB hP hD hS 28 xC_c28 h.1 xC_f28 dX2_readSpans_102 (fun H locs hP hD hS => ?_)
        have h := h.2
        obtain ⟨F27, eF27⟩ : ∃ f : xw_F, f = xw_up F21 28 (upd (F21 28) y5.toNatClampNeg r26) := ⟨_, rfl⟩
        rw [← eF27] at hP hD
        have h := h F27 eF27
        obtain ⟨v28, ev28⟩ : ∃ y : Int32, y = y5 + 1 := ⟨_, rfl⟩
        have h := h v28 ev28
        refine lv_iinc (v := v28) (lv' := [(5, .int v28), (6, .int v19), (0, .ref (a 25)), (1, .int x1), (2, .ref (a 21)), (3, .long x3)]) hx hb dX2_readSpans_103 hl (k := 5) rfl (by rw [ev28]; rfl) (by decide) rfl (fun ls hl => ?_)
        refine lv_goto (tgt := 12) hx hb dX2_readSpans_106 (by decide) ?_
        exact (hWW _ _ _).mp (el12 _ _ _ _ h _ _ ls hP hD hS (lv_sub hl [2, 3, 4, 5, 0] rfl))
  have h := h k12 rl12
  unfold bd_X2_readSpans_0 at h
  refine lv_aload_n hx hb dX2_readSpans_0 rfl (lv_at hl 0 rfl) ?_
  refine lv_lload_n hx hb dX2_readSpans_1 rfl (lv_at hl 3 rfl) ?_
  refine lv_bipush (v := 40) hx hb dX2_readSpans_2 (by decide) ?_
  refine lv_lshr hx hb dX2_readSpans_4 rfl ?_
  refine lv_l2i hx hb dX2_readSpans_5 rfl ?_
  refine xw_put (D := D) (ci := 2) (v := .int ((x3 >>> ((40 : Int32).toInt64 &&& 63)).toInt32)) (ty := .int) (C := RX2) (T := TX2) (N := 8) hx hb hts mX2_readSpans_inX2 tyX2 tyX2_ok nmX2 hown hB hP hD hS 25 xC_c25 rfl 3 (by decide) (hts _ mX2_readSpans_1) (fun _ h9 => h9) rfl (by decide +kernel) rfl rfl (Nat.le_of_ble_eq_true rfl) xC_i14 dX2_readSpans_6 (fun H locs hP hD hS => ?_)
  obtain ⟨I13, eI13⟩ : ∃ f : xw_I, f = xw_up I 14 ((x3 >>> ((40 : Int32).toInt64 &&& 63)).toInt32) := ⟨_, rfl⟩
  rw [← eI13] at hP hD
  have h := h I13 eI13
  refine lv_iconst (v := 0) hx hb dX2_readSpans_9 (by decide) ?_
  refine lv_istore (lv' := [(5, .int (0 : Int32)), (0, .ref (a 25)), (1, .int x1), (2, .ref (a 21)), (3, .long x3)]) hx hb dX2_readSpans_10 hl (by decide) rfl (fun ls hl => ?_)
  exact (hWW _ _ _).mp (el12 _ _ _ _ h _ _ ls hP hD hS (lv_sub hl [1, 2, 3, 4, 0] rfl))

theorem mX2_place_1 : Cond.fieldLink RX2 31 "TagCarrier$Source" "pairs" "I" ∈ wsX2_place := List.mem_of_getElem? (i := 1) rfl
theorem mX2_place_inX4 : ∀ w ∈ u_ws RX4 TX4 12, w ∈ wsX2_place := by decide +kernel
theorem mX2_place_6 : Cond.initialized RX7 ∈ wsX2_place := List.mem_of_getElem? (i := 6) rfl
theorem mX2_place_5 : Cond.static yX7_has ∈ wsX2_place := List.mem_of_getElem? (i := 5) rfl
theorem mX2_place_2 : Cond.fieldLink RX2 41 "TagCarrier$Wanted" "from" "[I" ∈ wsX2_place := List.mem_of_getElem? (i := 2) rfl
theorem mX2_place_inX5 : ∀ w ∈ u_ws RX5 TX5 4, w ∈ wsX2_place := by decide +kernel
theorem mX2_place_3 : Cond.fieldLink RX2 44 "TagCarrier$Wanted" "to" "[I" ∈ wsX2_place := List.mem_of_getElem? (i := 3) rfl
theorem mX2_place_4 : Cond.fieldLink RX2 25 "TagCarrier$PairPlacer" "sums" "[J" ∈ wsX2_place := List.mem_of_getElem? (i := 4) rfl
theorem mX2_place_inX2 : ∀ w ∈ u_ws RX2 TX2 8, w ∈ wsX2_place := by decide +kernel
set_option maxHeartbeats 4000000 in
set_option maxRecDepth 100000 in
theorem c_X2_place (l : Launch) (D : va_G) (cy : Nat → ClassId) (a : Nat → Nat) (x3 : Int32) (I : xw_I) (F : xw_F) (G : xw_G) (post : xw_I → xw_F → xw_G → Prop) (h : sm_X2_place x3 I F G post) : xw_Wv l yX2_place wsX2_place ({ frames := 3, cells := 0, slots := 0, locals := 81 }) D cy [.ref (a 25), .ref (a 12), .ref (a 21), .int x3] (xC_w cy a I F G) (xC_w cy a) post := by
  intro A
  refine Met.ofW (cc := cX2_place) (maxL := 5) (ret := none) (by decide) rfl ?_
  intro p e s m args below meth c s₁ B hml hv
  obtain ⟨rfl, hP, hB, hD⟩ := hv
  have hP : va_P D vwCl (xC_w cy a I F G) s.heap := hP
  have hx := B.exec
  have hb := B.bytes
  have hr := B.returns
  have hts := atoms_spec (ws := wsX2_place) B.pre
  have hown : s.vm.findClass RX2 = some m.cls := findClass_of_methodNamed B.named
  have hlocks := B.notSynchronized
  have hS : va_S A s.heap s.heap [] := va_S.rf
  refine xw_go (fun WW hWW => ?_)
  have hl := lv_entry ([.ref (a 25), .ref (a 12), .ref (a 21), .int x3]) (n := 5) (Nat.le_of_ble_eq_true rfl)
  rw [lg_entry_eq]
  generalize (lg_sl ([.ref (a 25), .ref (a 12), .ref (a 21), .int x3]) ++ List.replicate (5 - (lg_sl ([.ref (a 25), .ref (a 12), .ref (a 21), .int x3])).length) Slot.unset).toArray = ls at hl ⊢
  have hl : lv_has ls 5 [(0, .ref (a 25)), (1, .ref (a 12)), (2, .ref (a 21)), (3, .int x3)] := hl
  obtain ⟨k3, mk3, el3⟩ : ∃ K : Int32 → xw_I → xw_F → xw_G → Prop, (∀ (y4 : Int32) (I : xw_I) (F : xw_F) (G : xw_G), (∀ (H : Heap) (locs : List Loc) (ls : Array Slot), va_P D vwCl (xC_w cy a I F G) H → va_D A (xC_w cy a I F G) → va_S A s.heap H locs → lv_has ls 5 [(0, .ref (a 25)), (1, .ref (a 12)), (2, .ref (a 21)), (3, .int x3), (4, .int y4)] → WW H locs (F0 m 3 ls [])) → K y4 I F G) ∧ (∀ (y4 : Int32) (I : xw_I) (F : xw_F) (G : xw_G), K y4 I F G → (∀ (H : Heap) (locs : List Loc) (ls : Array Slot), va_P D vwCl (xC_w cy a I F G) H → va_D A (xC_w cy a I F G) → va_S A s.heap H locs → lv_has ls 5 [(0, .ref (a 25)), (1, .ref (a 12)), (2, .ref (a 21)), (3, .int x3), (4, .int y4)] → WW H locs (F0 m 3 ls []))) := ⟨fun (y4 : Int32) (I : xw_I) (F : xw_F) (G : xw_G) => (∀ (H : Heap) (locs : List Loc) (ls : Array Slot), va_P D vwCl (xC_w cy a I F G) H → va_D A (xC_w cy a I F G) → va_S A s.heap H locs → lv_has ls 5 [(0, .ref (a 25)), (1, .ref (a 12)), (2, .ref (a 21)), (3, .int x3), (4, .int y4)] → WW H locs (F0 m 3 ls [])), fun _ _ _ _ h => h, fun _ _ _ _ h => h⟩
  obtain ⟨k51, mk51, el51⟩ : ∃ K : Int32 → xw_I → xw_F → xw_G → Prop, (∀ (y4 : Int32) (I : xw_I) (F : xw_F) (G : xw_G), (∀ (H : Heap) (locs : List Loc) (ls : Array Slot), va_P D vwCl (xC_w cy a I F G) H → va_D A (xC_w cy a I F G) → va_S A s.heap H locs → lv_has ls 5 [(0, .ref (a 25)), (1, .ref (a 12)), (2, .ref (a 21)), (3, .int x3), (4, .int y4)] → WW H locs (F0 m 51 ls [])) → K y4 I F G) ∧ (∀ (y4 : Int32) (I : xw_I) (F : xw_F) (G : xw_G), K y4 I F G → (∀ (H : Heap) (locs : List Loc) (ls : Array Slot), va_P D vwCl (xC_w cy a I F G) H → va_D A (xC_w cy a I F G) → va_S A s.heap H locs → lv_has ls 5 [(0, .ref (a 25)), (1, .ref (a 12)), (2, .ref (a 21)), (3, .int x3), (4, .int y4)] → WW H locs (F0 m 51 ls []))) := ⟨fun (y4 : Int32) (I : xw_I) (F : xw_F) (G : xw_G) => (∀ (H : Heap) (locs : List Loc) (ls : Array Slot), va_P D vwCl (xC_w cy a I F G) H → va_D A (xC_w cy a I F G) → va_S A s.heap H locs → lv_has ls 5 [(0, .ref (a 25)), (1, .ref (a 12)), (2, .ref (a 21)), (3, .int x3), (4, .int y4)] → WW H locs (F0 m 51 ls [])), fun _ _ _ _ h => h, fun _ _ _ _ h => h⟩
  have rl3 : ∀ (y4 : Int32) (I : xw_I) (F : xw_F) (G : xw_G), (bd_X2_place_3 x3 post k3 k51 y4 I F G) → k3 y4 I F G := by
    intro y4 I F G h
    refine mk3 _ _ _ _ ?_
    intro H locs ls hP hD hS hl
    refine (hWW _ _ _).mpr ?_
    unfold bd_X2_place_3 at h
    refine lv_iload hx hb dX2_place_3 (lv_at hl 4 rfl) ?_
    refine lv_iconst (v := 5) hx hb dX2_place_5 (by decide) ?_
    refine lv_icmp_ge (tgt := 48) hx hb dX2_place_6 (by decide) (fun c12 => ?_) (fun c12 => ?_)
    · have h := h.1 c12
      refine lv_iconst (v := 1) hx hb dX2_place_48 (by decide) ?_
      refine lv_istore (lv' := [(4, .int (1 : Int32)), (0, .ref (a 25)), (1, .ref (a 12)), (2, .ref (a 21)), (3, .int x3)]) hx hb dX2_place_49 hl (by decide) rfl (fun ls hl => ?_)
      exact (hWW _ _ _).mp (el51 _ _ _ _ h _ _ ls hP hD hS (lv_sub hl [1, 2, 3, 4, 0] rfl))
    · have h := h.2 c12
      refine lv_aload_n hx hb dX2_place_9 rfl (lv_at hl 1 rfl) ?_
      refine va_get (D := D) (ci := 4) (v := .int (I 8)) (C := RX4) (T := TX4) (N := 12) hx hb hts mX2_place_inX4 hown hB.1 hP 12 xC_c12 rfl 1 (by decide) (hts _ mX2_place_1) (fun _ h9 => h9) rfl dX2_place_10 ?_
      refine lv_iload hx hb dX2_place_13 (lv_at hl 4 rfl) ?_
      refine xw_ri (va_runSN (rm := { frames := 0, cells := 0, slots := 0, locals := 0 }) (As := [.int (I 8), .int y4]) (rest := []) ⟨hx, hb, hml, hown, hts⟩ (c_X7_has l D cy (I 8) y4 _ h (fun _ => True)) (⟨va_cnB 2 hts gX2_place_X7_has_n37 rfl rfl rfl (hB.2 11 _ rfl) (hts _ mX2_place_6) (by decide +kernel) ⟨Nat.le_of_ble_eq_true rfl, Nat.le_of_ble_eq_true rfl⟩, hts _ mX2_place_5, trivial⟩) (xw_preS hB xw_P0 (xw_D0 (A := fun _ => True))) rfl rfl hl.1 rfl (lv_room (Nat.le_of_ble_eq_true rfl)) dX2_place_15 ⟨Nat.le_of_ble_eq_true rfl, Nat.le_of_ble_eq_true rfl⟩) (fun r13 h => ?_)
      refine lv_if_eq (tgt := 42) hx hb dX2_place_18 (by decide) (fun c14 => ?_) (fun c14 => ?_)
      · have h := h.1 c14
        obtain ⟨v15, ev15⟩ : ∃ y : Int32, y = y4 + 1 := ⟨_, rfl⟩
        have h := h v15 ev15
        refine lv_iinc (v := v15) (lv' := [(4, .int v15), (0, .ref (a 25)), (1, .ref (a 12)), (2, .ref (a 21)), (3, .int x3)]) hx hb dX2_place_42 hl (k := 4) rfl (by rw [ev15]; rfl) (by decide) rfl (fun ls hl => ?_)
        refine lv_goto (tgt := 3) hx hb dX2_place_45 (by decide) ?_
        exact (hWW _ _ _).mp (el3 _ _ _ _ h _ _ ls hP hD hS (lv_sub hl [1, 2, 3, 4, 0] rfl))
      · have h := h.2 c14
        refine lv_aload_n hx hb dX2_place_21 rfl (lv_at hl 0 rfl) ?_
        refine lv_iload hx hb dX2_place_22 (lv_at hl 4 rfl) ?_
        refine lv_aload_n hx hb dX2_place_24 rfl (lv_at hl 2 rfl) ?_
        refine va_get (D := D) (ci := 5) (v := .ref (a 22)) (C := RX5) (T := TX5) (N := 4) hx hb hts mX2_place_inX5 hown hB.1 hP 21 xC_c21 rfl 0 (by decide) (hts _ mX2_place_2) (fun _ h9 => h9) rfl dX2_place_25 ?_
        refine lv_iload hx hb dX2_place_28 (lv_at hl 4 rfl) ?_
        refine xw_iald hx hb hB hP 22 xC_c22 h.1 dX2_place_30 (fun v16 ev16 => ?_)
        have h := h.2 v16 ev16
        refine lv_aload_n hx hb dX2_place_31 rfl (lv_at hl 2 rfl) ?_
        refine va_get (D := D) (ci := 5) (v := .ref (a 23)) (C := RX5) (T := TX5) (N := 4) hx hb hts mX2_place_inX5 hown hB.1 hP 21 xC_c21 rfl 1 (by decide) (hts _ mX2_place_3) (fun _ h9 => h9) rfl dX2_place_32 ?_
        refine lv_iload hx hb dX2_place_35 (lv_at hl 4 rfl) ?_
        refine xw_iald hx hb hB hP 23 xC_c23 h.1 dX2_place_37 (fun v17 ev17 => ?_)
        have h := h.2 v17 ev17
        refine lv_iload_n hx hb dX2_place_38 rfl (lv_at hl 3 rfl) ?_
        refine xw_wv (va_runV (rm := { frames := 2, cells := 0, slots := 0, locals := 50 }) (As := [.int y4, .int v16, .int v17, .int x3]) (rest := []) ⟨hx, hb, hml, hown, hts⟩ (c_X2_findPrices l D cy a y4 v16 v17 x3 I F G _ h A) (cwV 4 hts gX2_place_X2_findPrices rfl rfl rfl (by decide +kernel) ⟨Nat.le_of_ble_eq_true rfl, Nat.le_of_ble_eq_true rfl⟩) (xw_preV hB hP hD (ci := 2) rfl xC_c25) rfl rfl hl.1 rfl (lv_room (Nat.le_of_ble_eq_true rfl)) dX2_place_39 ⟨Nat.le_of_ble_eq_true rfl, Nat.le_of_ble_eq_true rfl⟩) hS (fun I18 F18 G18 H locs h hP hD hS => ?_)
        obtain ⟨v19, ev19⟩ : ∃ y : Int32, y = y4 + 1 := ⟨_, rfl⟩
        have h := h v19 ev19
        refine lv_iinc (v := v19) (lv' := [(4, .int v19), (0, .ref (a 25)), (1, .ref (a 12)), (2, .ref (a 21)), (3, .int x3)]) hx hb dX2_place_42 hl (k := 4) rfl (by rw [ev19]; rfl) (by decide) rfl (fun ls hl => ?_)
        refine lv_goto (tgt := 3) hx hb dX2_place_45 (by decide) ?_
        exact (hWW _ _ _).mp (el3 _ _ _ _ h _ _ ls hP hD hS (lv_sub hl [1, 2, 3, 4, 0] rfl))
  have rl51 : ∀ (y4 : Int32) (I : xw_I) (F : xw_F) (G : xw_G), (bd_X2_place_51 x3 post k3 k51 y4 I F G) → k51 y4 I F G := by
    intro y4 I F G h
    refine mk51 _ _ _ _ ?_
    intro H locs ls hP hD hS hl
    refine (hWW _ _ _).mpr ?_
    unfold bd_X2_place_51 at h
    refine lv_iload hx hb dX2_place_51 (lv_at hl 4 rfl) ?_
    refine lv_bipush (v := 32) hx hb dX2_place_53 (by decide) ?_
    refine lv_icmp_ge (tgt := 91) hx hb dX2_place_55 (by decide) (fun c20 => ?_) (fun c20 => ?_)
    · have h := h.1 c20
      refine lv_aload_n hx hb dX2_place_91 rfl (lv_at hl 0 rfl) ?_
      refine lv_aload_n hx hb dX2_place_92 rfl (lv_at hl 1 rfl) ?_
      refine va_get (D := D) (ci := 4) (v := .int (I 8)) (C := RX4) (T := TX4) (N := 12) hx hb hts mX2_place_inX4 hown hB.1 hP 12 xC_c12 rfl 1 (by decide) (hts _ mX2_place_1) (fun _ h9 => h9) rfl dX2_place_93 ?_
      refine lv_aload_n hx hb dX2_place_96 rfl (lv_at hl 2 rfl) ?_
      refine lv_aload_n hx hb dX2_place_97 rfl (lv_at hl 0 rfl) ?_
      refine va_get (D := D) (ci := 2) (v := .ref (a 30)) (C := RX2) (T := TX2) (N := 8) hx hb hts mX2_place_inX2 hown hB.1 hP 25 xC_c25 rfl 5 (by decide) (hts _ mX2_place_4) (fun _ h9 => h9) rfl dX2_place_98 ?_
      refine lv_aload_n hx hb dX2_place_101 rfl (lv_at hl 1 rfl) ?_
      refine va_get (D := D) (ci := 4) (v := .int (I 8)) (C := RX4) (T := TX4) (N := 12) hx hb hts mX2_place_inX4 hown hB.1 hP 12 xC_c12 rfl 1 (by decide) (hts _ mX2_place_1) (fun _ h9 => h9) rfl dX2_place_102 ?_
      refine lv_bipush (v := 81) hx hb dX2_place_105 (by decide) ?_
      refine lv_imul hx hb dX2_place_107 ?_
      refine lv_iload_n hx hb dX2_place_108 rfl (lv_at hl 3 rfl) ?_
      refine lv_iadd hx hb dX2_place_109 ?_
      refine xw_lald hx hb hB hP 30 xC_c30 h.1 dX2_place_110 (fun v21 ev21 => ?_)
      have h := h.2 v21 ev21
      refine xw_wv (va_runV (rm := { frames := 2, cells := 0, slots := 0, locals := 50 }) (As := [.int (I 8), .ref (a 21), .long v21]) (rest := []) ⟨hx, hb, hml, hown, hts⟩ (c_X2_readSpans l D cy a (I 8) v21 I F G _ h A) (cwV 3 hts gX2_place_X2_readSpans rfl rfl rfl (by decide +kernel) ⟨Nat.le_of_ble_eq_true rfl, Nat.le_of_ble_eq_true rfl⟩) (xw_preV hB hP hD (ci := 2) rfl xC_c25) rfl rfl hl.1 rfl (lv_room (Nat.le_of_ble_eq_true rfl)) dX2_place_111 ⟨Nat.le_of_ble_eq_true rfl, Nat.le_of_ble_eq_true rfl⟩) hS (fun I22 F22 G22 H locs h hP hD hS => ?_)
      exact xw_wretv hx hb hr hlocks hP hD hS h dX2_place_114
    · have h := h.2 c20
      refine lv_iload hx hb dX2_place_58 (lv_at hl 4 rfl) ?_
      refine lv_aload_n hx hb dX2_place_60 rfl (lv_at hl 1 rfl) ?_
      refine va_get (D := D) (ci := 4) (v := .int (I 8)) (C := RX4) (T := TX4) (N := 12) hx hb hts mX2_place_inX4 hown hB.1 hP 12 xC_c12 rfl 1 (by decide) (hts _ mX2_place_1) (fun _ h9 => h9) rfl dX2_place_61 ?_
      refine lv_iconst (v := -1) hx hb dX2_place_64 (by decide) ?_
      refine lv_ixor hx hb dX2_place_65 ?_
      refine lv_iand hx hb dX2_place_66 ?_
      refine lv_if_ne (tgt := 85) hx hb dX2_place_67 (by decide) (fun c23 => ?_) (fun c23 => ?_)
      · have h := h.1 c23
        obtain ⟨v24, ev24⟩ : ∃ y : Int32, y = y4 + 1 := ⟨_, rfl⟩
        have h := h v24 ev24
        refine lv_iinc (v := v24) (lv' := [(4, .int v24), (0, .ref (a 25)), (1, .ref (a 12)), (2, .ref (a 21)), (3, .int x3)]) hx hb dX2_place_85 hl (k := 4) rfl (by rw [ev24]; rfl) (by decide) rfl (fun ls hl => ?_)
        refine lv_goto (tgt := 51) hx hb dX2_place_88 (by decide) ?_
        exact (hWW _ _ _).mp (el51 _ _ _ _ h _ _ ls hP hD hS (lv_sub hl [1, 2, 3, 4, 0] rfl))
      · have h := h.2 c23
        refine lv_aload_n hx hb dX2_place_70 rfl (lv_at hl 0 rfl) ?_
        refine lv_aload_n hx hb dX2_place_71 rfl (lv_at hl 1 rfl) ?_
        refine lv_iload hx hb dX2_place_72 (lv_at hl 4 rfl) ?_
        refine xw_wv (va_runV (rm := { frames := 2, cells := 0, slots := 0, locals := 44 }) (As := [.ref (a 12), .int y4]) (rest := []) ⟨hx, hb, hml, hown, hts⟩ (c_X2_findParts l D cy a y4 I F G _ h A) (cwV 2 hts gX2_place_X2_findParts rfl rfl rfl (by decide +kernel) ⟨Nat.le_of_ble_eq_true rfl, Nat.le_of_ble_eq_true rfl⟩) (xw_preV hB hP hD (ci := 2) rfl xC_c25) rfl rfl hl.1 rfl (lv_room (Nat.le_of_ble_eq_true rfl)) dX2_place_74 ⟨Nat.le_of_ble_eq_true rfl, Nat.le_of_ble_eq_true rfl⟩) hS (fun I25 F25 G25 H locs h hP hD hS => ?_)
        refine lv_aload_n hx hb dX2_place_77 rfl (lv_at hl 0 rfl) ?_
        refine lv_aload_n hx hb dX2_place_78 rfl (lv_at hl 1 rfl) ?_
        refine lv_iload hx hb dX2_place_79 (lv_at hl 4 rfl) ?_
        refine lv_iload_n hx hb dX2_place_81 rfl (lv_at hl 3 rfl) ?_
        refine xw_wv (va_runV (rm := { frames := 2, cells := 0, slots := 0, locals := 52 }) (As := [.ref (a 12), .int y4, .int x3]) (rest := []) ⟨hx, hb, hml, hown, hts⟩ (c_X2_findSums l D cy a y4 x3 I25 F25 G25 _ h A) (cwV 3 hts gX2_place_X2_findSums rfl rfl rfl (by decide +kernel) ⟨Nat.le_of_ble_eq_true rfl, Nat.le_of_ble_eq_true rfl⟩) (xw_preV hB hP hD (ci := 2) rfl xC_c25) rfl rfl hl.1 rfl (lv_room (Nat.le_of_ble_eq_true rfl)) dX2_place_82 ⟨Nat.le_of_ble_eq_true rfl, Nat.le_of_ble_eq_true rfl⟩) hS (fun I26 F26 G26 H locs h hP hD hS => ?_)
        obtain ⟨v27, ev27⟩ : ∃ y : Int32, y = y4 + 1 := ⟨_, rfl⟩
        have h := h v27 ev27
        refine lv_iinc (v := v27) (lv' := [(4, .int v27), (0, .ref (a 25)), (1, .ref (a 12)), (2, .ref (a 21)), (3, .int x3)]) hx hb dX2_place_85 hl (k := 4) rfl (by rw [ev27]; rfl) (by decide) rfl (fun ls hl => ?_)
        refine lv_goto (tgt := 51) hx hb dX2_place_88 (by decide) ?_
        exact (hWW _ _ _).mp (el51 _ _ _ _ h _ _ ls hP hD hS (lv_sub hl [1, 2, 3, 4, 0] rfl))
  have h := h k3 k51 rl3 rl51
  unfold bd_X2_place_0 at h
  refine lv_iconst (v := 0) hx hb dX2_place_0 (by decide) ?_
  refine lv_istore (lv' := [(4, .int (0 : Int32)), (0, .ref (a 25)), (1, .ref (a 12)), (2, .ref (a 21)), (3, .int x3)]) hx hb dX2_place_1 hl (by decide) rfl (fun ls hl => ?_)
  exact (hWW _ _ _).mp (el3 _ _ _ _ h _ _ ls hP hD hS (lv_sub hl [1, 2, 3, 4, 0] rfl))
