theorem mX8_write_1 : Cond.fieldLink RX8 47 "TagCarrierModel" "text" "[I" ∈ wsX8_write := List.mem_of_getElem? (i := 1) rfl
theorem mX8_write_inX8 : ∀ w ∈ u_ws RX8 TX8 22, w ∈ wsX8_write := by decide +kernel
theorem mX8_write_2 : Cond.fieldLink RX8 159 "TagCarrierModel" "long1" "I" ∈ wsX8_write := List.mem_of_getElem? (i := 2) rfl
set_option maxHeartbeats 4000000 in
set_option maxRecDepth 100000 in
theorem c_X8_write (l : Launch) (D : va_G) (cy : Nat → ClassId) (a : Nat → Nat) (x1 : Int32) (I : xw_I) (F : xw_F) (G : xw_G) (post : xw_I → xw_F → xw_G → Prop) (h : sm_X8_write x1 I F G post) : xw_Wv l yX8_write wsX8_write ({ frames := 0, cells := 0, slots := 0, locals := 0 }) D cy [.ref (a 0), .int x1] (xM_w cy a I F G) (xM_w cy a) post := by
  intro A
  refine Met.ofW (cc := cX8_write) (maxL := 2) (ret := none) (by decide) rfl ?_
  intro p e s m args below meth c s₁ B hml hv
  obtain ⟨rfl, hP, hB, hD⟩ := hv
  have hP : va_P D vwCl (xM_w cy a I F G) s.heap := hP
  have hx := B.exec
  have hb := B.bytes
  have hr := B.returns
  have hts := atoms_spec (ws := wsX8_write) B.pre
  have hown : s.vm.findClass RX8 = some m.cls := findClass_of_methodNamed B.named
  have hlocks := B.notSynchronized
  have hS : va_S A s.heap s.heap [] := va_S.rf
  refine xw_go (fun WW hWW => ?_)
  have hl := lv_entry ([.ref (a 0), .int x1]) (n := 2) (Nat.le_of_ble_eq_true rfl)
  rw [lg_entry_eq]
  generalize (lg_sl ([.ref (a 0), .int x1]) ++ List.replicate (2 - (lg_sl ([.ref (a 0), .int x1])).length) Slot.unset).toArray = ls at hl ⊢
  have hl : lv_has ls 2 [(0, .ref (a 0)), (1, .int x1)] := hl
  unfold sm_X8_write at h
  refine lv_aload_n hx hb dX8_write_0 rfl (lv_at hl 0 rfl) ?_
  refine va_get (D := D) (ci := 8) (v := .ref (a 13)) (C := RX8) (T := TX8) (N := 22) hx hb hts mX8_write_inX8 hown hB.1 hP 0 xM_c0 rfl 18 (by decide) (hts _ mX8_write_1) (fun _ h9 => h9) rfl dX8_write_1 ?_
  refine lv_aload_n hx hb dX8_write_4 rfl (lv_at hl 0 rfl) ?_
  refine va_get (D := D) (ci := 8) (v := .int (I 5)) (C := RX8) (T := TX8) (N := 22) hx hb hts mX8_write_inX8 hown hB.1 hP 0 xM_c0 rfl 19 (by decide) (hts _ mX8_write_2) (fun _ h9 => h9) rfl dX8_write_5 ?_
  refine lv_iload_n hx hb dX8_write_8 rfl (lv_at hl 1 rfl) ?_
  refine xw_iast hx hb hB hP hD hS 13 xM_c13 h.1 xM_f13 dX8_write_9 (fun H locs hP hD hS => ?_)
  have h := h.2
  obtain ⟨F2, eF2⟩ : ∃ f : xw_F, f = xw_up F 13 (upd (F 13) (I 5).toNatClampNeg x1) := ⟨_, rfl⟩
  rw [← eF2] at hP hD
  have h := h F2 eF2
  refine lv_aload_n hx hb dX8_write_10 rfl (lv_at hl 0 rfl) ?_
  refine lv_dup hx hb dX8_write_11 rfl ?_
  refine va_get (D := D) (ci := 8) (v := .int (I 5)) (C := RX8) (T := TX8) (N := 22) hx hb hts mX8_write_inX8 hown hB.1 hP 0 xM_c0 rfl 19 (by decide) (hts _ mX8_write_2) (fun _ h9 => h9) rfl dX8_write_12 ?_
  refine lv_iconst (v := 1) hx hb dX8_write_15 (by decide) ?_
  refine lv_iadd hx hb dX8_write_16 ?_
  refine xw_put (D := D) (ci := 8) (v := .int ((I 5) + (1 : Int32))) (ty := .int) (C := RX8) (T := TX8) (N := 22) hx hb hts mX8_write_inX8 tyX8 tyX8_ok nmX8 hown hB hP hD hS 0 xM_c0 rfl 19 (by decide) (hts _ mX8_write_2) (fun _ h9 => h9) rfl (by decide +kernel) rfl rfl (Nat.le_of_ble_eq_true rfl) xM_i5 dX8_write_17 (fun H locs hP hD hS => ?_)
  obtain ⟨I3, eI3⟩ : ∃ f : xw_I, f = xw_up I 5 ((I 5) + (1 : Int32)) := ⟨_, rfl⟩
  rw [← eI3] at hP hD
  have h := h I3 eI3
  exact xw_wretv hx hb hr hlocks hP hD hS h dX8_write_20

theorem mX8_writeClosed_1 : Cond.fieldLink RX8 41 "TagCarrierModel" "ends" "[I" ∈ wsX8_writeClosed := List.mem_of_getElem? (i := 1) rfl
theorem mX8_writeClosed_inX8 : ∀ w ∈ u_ws RX8 TX8 22, w ∈ wsX8_writeClosed := by decide +kernel
theorem mX8_writeClosed_2 : Cond.fieldLink RX8 38 "TagCarrierModel" "begins" "[I" ∈ wsX8_writeClosed := List.mem_of_getElem? (i := 2) rfl
set_option maxHeartbeats 4000000 in
set_option maxRecDepth 100000 in
theorem c_X8_writeClosed (l : Launch) (D : va_G) (cy : Nat → ClassId) (a : Nat → Nat) (x1 : Int32) (I : xw_I) (F : xw_F) (G : xw_G) (post : xw_I → xw_F → xw_G → Prop) (h : sm_X8_writeClosed x1 I F G post) : xw_Wv l yX8_writeClosed wsX8_writeClosed ({ frames := 3, cells := 0, slots := 0, locals := 66 }) D cy [.ref (a 0), .int x1] (xM_w cy a I F G) (xM_w cy a) post := by
  intro A
  refine Met.ofW (cc := cX8_writeClosed) (maxL := 7) (ret := none) (by decide) rfl ?_
  intro p e s m args below meth c s₁ B hml hv
  obtain ⟨rfl, hP, hB, hD⟩ := hv
  have hP : va_P D vwCl (xM_w cy a I F G) s.heap := hP
  have hx := B.exec
  have hb := B.bytes
  have hr := B.returns
  have hts := atoms_spec (ws := wsX8_writeClosed) B.pre
  have hown : s.vm.findClass RX8 = some m.cls := findClass_of_methodNamed B.named
  have hlocks := B.notSynchronized
  have hS : va_S A s.heap s.heap [] := va_S.rf
  refine xw_go (fun WW hWW => ?_)
  have hl := lv_entry ([.ref (a 0), .int x1]) (n := 7) (Nat.le_of_ble_eq_true rfl)
  rw [lg_entry_eq]
  generalize (lg_sl ([.ref (a 0), .int x1]) ++ List.replicate (7 - (lg_sl ([.ref (a 0), .int x1])).length) Slot.unset).toArray = ls at hl ⊢
  have hl : lv_has ls 7 [(0, .ref (a 0)), (1, .int x1)] := hl
  obtain ⟨k4, mk4, el4⟩ : ∃ K : Int32 → Int32 → xw_I → xw_F → xw_G → Prop, (∀ (y2 : Int32) (y3 : Int32) (I : xw_I) (F : xw_F) (G : xw_G), (∀ (H : Heap) (locs : List Loc) (ls : Array Slot), va_P D vwCl (xM_w cy a I F G) H → va_D A (xM_w cy a I F G) → va_S A s.heap H locs → lv_has ls 7 [(0, .ref (a 0)), (1, .int x1), (2, .int y2), (3, .int y3)] → WW H locs (F0 m 4 ls [])) → K y2 y3 I F G) ∧ (∀ (y2 : Int32) (y3 : Int32) (I : xw_I) (F : xw_F) (G : xw_G), K y2 y3 I F G → (∀ (H : Heap) (locs : List Loc) (ls : Array Slot), va_P D vwCl (xM_w cy a I F G) H → va_D A (xM_w cy a I F G) → va_S A s.heap H locs → lv_has ls 7 [(0, .ref (a 0)), (1, .int x1), (2, .int y2), (3, .int y3)] → WW H locs (F0 m 4 ls []))) := ⟨fun (y2 : Int32) (y3 : Int32) (I : xw_I) (F : xw_F) (G : xw_G) => (∀ (H : Heap) (locs : List Loc) (ls : Array Slot), va_P D vwCl (xM_w cy a I F G) H → va_D A (xM_w cy a I F G) → va_S A s.heap H locs → lv_has ls 7 [(0, .ref (a 0)), (1, .int x1), (2, .int y2), (3, .int y3)] → WW H locs (F0 m 4 ls [])), fun _ _ _ _ _ h => h, fun _ _ _ _ _ h => h⟩
  obtain ⟨k15, mk15, el15⟩ : ∃ K : Int32 → Int32 → Int32 → xw_I → xw_F → xw_G → Prop, (∀ (y2 : Int32) (y4 : Int32) (y5 : Int32) (I : xw_I) (F : xw_F) (G : xw_G), (∀ (H : Heap) (locs : List Loc) (ls : Array Slot), va_P D vwCl (xM_w cy a I F G) H → va_D A (xM_w cy a I F G) → va_S A s.heap H locs → lv_has ls 7 [(0, .ref (a 0)), (1, .int x1), (2, .int y2), (4, .int y4), (5, .int y5)] → WW H locs (F0 m 15 ls [])) → K y2 y4 y5 I F G) ∧ (∀ (y2 : Int32) (y4 : Int32) (y5 : Int32) (I : xw_I) (F : xw_F) (G : xw_G), K y2 y4 y5 I F G → (∀ (H : Heap) (locs : List Loc) (ls : Array Slot), va_P D vwCl (xM_w cy a I F G) H → va_D A (xM_w cy a I F G) → va_S A s.heap H locs → lv_has ls 7 [(0, .ref (a 0)), (1, .int x1), (2, .int y2), (4, .int y4), (5, .int y5)] → WW H locs (F0 m 15 ls []))) := ⟨fun (y2 : Int32) (y4 : Int32) (y5 : Int32) (I : xw_I) (F : xw_F) (G : xw_G) => (∀ (H : Heap) (locs : List Loc) (ls : Array Slot), va_P D vwCl (xM_w cy a I F G) H → va_D A (xM_w cy a I F G) → va_S A s.heap H locs → lv_has ls 7 [(0, .ref (a 0)), (1, .int x1), (2, .int y2), (4, .int y4), (5, .int y5)] → WW H locs (F0 m 15 ls [])), fun _ _ _ _ _ _ h => h, fun _ _ _ _ _ _ h => h⟩
  obtain ⟨k120, mk120, el120⟩ : ∃ K : Int32 → Int32 → Int32 → Int32 → xw_I → xw_F → xw_G → Prop, (∀ (y2 : Int32) (y4 : Int32) (y5 : Int32) (t0 : Int32) (I : xw_I) (F : xw_F) (G : xw_G), (∀ (H : Heap) (locs : List Loc) (ls : Array Slot), va_P D vwCl (xM_w cy a I F G) H → va_D A (xM_w cy a I F G) → va_S A s.heap H locs → lv_has ls 7 [(0, .ref (a 0)), (1, .int x1), (2, .int y2), (4, .int y4), (5, .int y5)] → WW H locs (F0 m 120 ls [.int t0])) → K y2 y4 y5 t0 I F G) ∧ (∀ (y2 : Int32) (y4 : Int32) (y5 : Int32) (t0 : Int32) (I : xw_I) (F : xw_F) (G : xw_G), K y2 y4 y5 t0 I F G → (∀ (H : Heap) (locs : List Loc) (ls : Array Slot), va_P D vwCl (xM_w cy a I F G) H → va_D A (xM_w cy a I F G) → va_S A s.heap H locs → lv_has ls 7 [(0, .ref (a 0)), (1, .int x1), (2, .int y2), (4, .int y4), (5, .int y5)] → WW H locs (F0 m 120 ls [.int t0]))) := ⟨fun (y2 : Int32) (y4 : Int32) (y5 : Int32) (t0 : Int32) (I : xw_I) (F : xw_F) (G : xw_G) => (∀ (H : Heap) (locs : List Loc) (ls : Array Slot), va_P D vwCl (xM_w cy a I F G) H → va_D A (xM_w cy a I F G) → va_S A s.heap H locs → lv_has ls 7 [(0, .ref (a 0)), (1, .int x1), (2, .int y2), (4, .int y4), (5, .int y5)] → WW H locs (F0 m 120 ls [.int t0])), fun _ _ _ _ _ _ _ h => h, fun _ _ _ _ _ _ _ h => h⟩
  obtain ⟨k152, mk152, el152⟩ : ∃ K : Int32 → Int32 → Int32 → xw_I → xw_F → xw_G → Prop, (∀ (y2 : Int32) (y4 : Int32) (t0 : Int32) (I : xw_I) (F : xw_F) (G : xw_G), (∀ (H : Heap) (locs : List Loc) (ls : Array Slot), va_P D vwCl (xM_w cy a I F G) H → va_D A (xM_w cy a I F G) → va_S A s.heap H locs → lv_has ls 7 [(0, .ref (a 0)), (1, .int x1), (2, .int y2), (4, .int y4)] → WW H locs (F0 m 152 ls [.int t0])) → K y2 y4 t0 I F G) ∧ (∀ (y2 : Int32) (y4 : Int32) (t0 : Int32) (I : xw_I) (F : xw_F) (G : xw_G), K y2 y4 t0 I F G → (∀ (H : Heap) (locs : List Loc) (ls : Array Slot), va_P D vwCl (xM_w cy a I F G) H → va_D A (xM_w cy a I F G) → va_S A s.heap H locs → lv_has ls 7 [(0, .ref (a 0)), (1, .int x1), (2, .int y2), (4, .int y4)] → WW H locs (F0 m 152 ls [.int t0]))) := ⟨fun (y2 : Int32) (y4 : Int32) (t0 : Int32) (I : xw_I) (F : xw_F) (G : xw_G) => (∀ (H : Heap) (locs : List Loc) (ls : Array Slot), va_P D vwCl (xM_w cy a I F G) H → va_D A (xM_w cy a I F G) → va_S A s.heap H locs → lv_has ls 7 [(0, .ref (a 0)), (1, .int x1), (2, .int y2), (4, .int y4)] → WW H locs (F0 m 152 ls [.int t0])), fun _ _ _ _ _ _ h => h, fun _ _ _ _ _ _ h => h⟩
  have rl4 : ∀ (y2 : Int32) (y3 : Int32) (I : xw_I) (F : xw_F) (G : xw_G), (bd_X8_writeClosed_4 x1 post k4 k15 k120 k152 y2 y3 I F G) → k4 y2 y3 I F G := by
    intro y2 y3 I F G h
    refine mk4 _ _ _ _ _ ?_
    intro H locs ls hP hD hS hl
    refine (hWW _ _ _).mpr ?_
    unfold bd_X8_writeClosed_4 at h
    refine lv_iload_n hx hb dX8_writeClosed_4 rfl (lv_at hl 3 rfl) ?_
    refine lv_if_eq (tgt := 176) hx hb dX8_writeClosed_5 (by decide) (fun c27 => ?_) (fun c27 => ?_)
    · have h := h.1 c27
      exact xw_wretv hx hb hr hlocks hP hD hS h dX8_writeClosed_176
    · have h := h.2 c27
      refine lv_bipush (v := -6) hx hb dX8_writeClosed_8 (by decide) ?_
      refine lv_istore (lv' := [(4, .int (-6 : Int32)), (0, .ref (a 0)), (1, .int x1), (2, .int y2), (3, .int y3)]) hx hb dX8_writeClosed_10 hl (by decide) rfl (fun ls hl => ?_)
      refine lv_iconst (v := 0) hx hb dX8_writeClosed_12 (by decide) ?_
      refine lv_istore (lv' := [(5, .int (0 : Int32)), (4, .int (-6 : Int32)), (0, .ref (a 0)), (1, .int x1), (2, .int y2), (3, .int y3)]) hx hb dX8_writeClosed_13 hl (by decide) rfl (fun ls hl => ?_)
      exact (hWW _ _ _).mp (el15 _ _ _ _ _ _ h _ _ ls hP hD hS (lv_sub hl [2, 3, 4, 1, 0] rfl))
  have rl15 : ∀ (y2 : Int32) (y4 : Int32) (y5 : Int32) (I : xw_I) (F : xw_F) (G : xw_G), (bd_X8_writeClosed_15 x1 post k4 k15 k120 k152 y2 y4 y5 I F G) → k15 y2 y4 y5 I F G := by
    intro y2 y4 y5 I F G h
    refine mk15 _ _ _ _ _ _ ?_
    intro H locs ls hP hD hS hl
    refine (hWW _ _ _).mpr ?_
    unfold bd_X8_writeClosed_15 at h
    refine lv_iload hx hb dX8_writeClosed_15 (lv_at hl 4 rfl) ?_
    refine lv_iconst (v := 5) hx hb dX8_writeClosed_17 (by decide) ?_
    refine lv_icmp_ge (tgt := 142) hx hb dX8_writeClosed_18 (by decide) (fun c28 => ?_) (fun c28 => ?_)
    · have h := h.1 c28
      refine lv_iload hx hb dX8_writeClosed_142 (lv_at hl 3 rfl) ?_
      refine lv_if_lt (tgt := 151) hx hb dX8_writeClosed_144 (by decide) (fun c29 => ?_) (fun c29 => ?_)
      · have h := h.1 c29
        refine lv_iconst (v := 0) hx hb dX8_writeClosed_151 (by decide) ?_
        exact (hWW _ _ _).mp (el152 _ _ _ _ _ _ h _ _ ls hP hD hS (lv_sub hl [0, 1, 2, 3] rfl))
      · have h := h.2 c29
        refine lv_iconst (v := 1) hx hb dX8_writeClosed_147 (by decide) ?_
        refine lv_goto (tgt := 152) hx hb dX8_writeClosed_148 (by decide) ?_
        exact (hWW _ _ _).mp (el152 _ _ _ _ _ _ h _ _ ls hP hD hS (lv_sub hl [0, 1, 2, 3] rfl))
    · have h := h.2 c28
      refine lv_aload_n hx hb dX8_writeClosed_21 rfl (lv_at hl 0 rfl) ?_
      refine lv_iload hx hb dX8_writeClosed_22 (lv_at hl 4 rfl) ?_
      refine xw_ri (va_runV (rm := { frames := 1, cells := 0, slots := 0, locals := 22 }) (As := [.int y5]) (rest := []) ⟨hx, hb, hml, hown, hts⟩ (c_X8_isThere l D cy a y5 I F G _ h A) (cwV 1 hts gX8_writeClosed_X8_isThere rfl rfl rfl (by decide +kernel) ⟨Nat.le_of_ble_eq_true rfl, Nat.le_of_ble_eq_true rfl⟩) (xw_preV hB hP hD (ci := 8) rfl xM_c0) rfl rfl hl.1 rfl (lv_room (Nat.le_of_ble_eq_true rfl)) dX8_writeClosed_24 ⟨Nat.le_of_ble_eq_true rfl, Nat.le_of_ble_eq_true rfl⟩) (fun r30 h => ?_)
      refine lv_if_eq (tgt := 136) hx hb dX8_writeClosed_27 (by decide) (fun c31 => ?_) (fun c31 => ?_)
      · have h := h.1 c31
        obtain ⟨v32, ev32⟩ : ∃ y : Int32, y = y5 + 1 := ⟨_, rfl⟩
        have h := h v32 ev32
        refine lv_iinc (v := v32) (lv' := [(5, .int v32), (0, .ref (a 0)), (1, .int x1), (2, .int y2), (4, .int y4)]) hx hb dX8_writeClosed_136 hl (k := 4) rfl (by rw [ev32]; rfl) (by decide) rfl (fun ls hl => ?_)
        refine lv_goto (tgt := 15) hx hb dX8_writeClosed_139 (by decide) ?_
        exact (hWW _ _ _).mp (el15 _ _ _ _ _ _ h _ _ ls hP hD hS (lv_sub hl [1, 2, 3, 4, 0] rfl))
      · have h := h.2 c31
        refine lv_iload_n hx hb dX8_writeClosed_30 rfl (lv_at hl 2 rfl) ?_
        refine lv_iload hx hb dX8_writeClosed_31 (lv_at hl 4 rfl) ?_
        refine lv_ishr hx hb dX8_writeClosed_33 ?_
        refine lv_iconst (v := 1) hx hb dX8_writeClosed_34 (by decide) ?_
        refine lv_iand hx hb dX8_writeClosed_35 ?_
        refine lv_if_ne (tgt := 136) hx hb dX8_writeClosed_36 (by decide) (fun c33 => ?_) (fun c33 => ?_)
        · have h := h.1 c33
          obtain ⟨v34, ev34⟩ : ∃ y : Int32, y = y5 + 1 := ⟨_, rfl⟩
          have h := h v34 ev34
          refine lv_iinc (v := v34) (lv' := [(5, .int v34), (0, .ref (a 0)), (1, .int x1), (2, .int y2), (4, .int y4)]) hx hb dX8_writeClosed_136 hl (k := 4) rfl (by rw [ev34]; rfl) (by decide) rfl (fun ls hl => ?_)
          refine lv_goto (tgt := 15) hx hb dX8_writeClosed_139 (by decide) ?_
          exact (hWW _ _ _).mp (el15 _ _ _ _ _ _ h _ _ ls hP hD hS (lv_sub hl [1, 2, 3, 4, 0] rfl))
        · have h := h.2 c33
          refine lv_aload_n hx hb dX8_writeClosed_39 rfl (lv_at hl 0 rfl) ?_
          refine va_get (D := D) (ci := 8) (v := .ref (a 11)) (C := RX8) (T := TX8) (N := 22) hx hb hts mX8_writeClosed_inX8 hown hB.1 hP 0 xM_c0 rfl 14 (by decide) (hts _ mX8_writeClosed_1) (fun _ h9 => h9) rfl dX8_writeClosed_40 ?_
          refine lv_iload hx hb dX8_writeClosed_43 (lv_at hl 4 rfl) ?_
          refine xw_iald hx hb hB hP 11 xM_c11 h.1 dX8_writeClosed_45 (fun v35 ev35 => ?_)
          have h := h.2 v35 ev35
          refine lv_iload_n hx hb dX8_writeClosed_46 rfl (lv_at hl 1 rfl) ?_
          refine lv_icmp_ne (tgt := 136) hx hb dX8_writeClosed_47 (by decide) (fun c36 => ?_) (fun c36 => ?_)
          · have h := h.1 c36
            obtain ⟨v37, ev37⟩ : ∃ y : Int32, y = y5 + 1 := ⟨_, rfl⟩
            have h := h v37 ev37
            refine lv_iinc (v := v37) (lv' := [(5, .int v37), (0, .ref (a 0)), (1, .int x1), (2, .int y2), (4, .int y4)]) hx hb dX8_writeClosed_136 hl (k := 4) rfl (by rw [ev37]; rfl) (by decide) rfl (fun ls hl => ?_)
            refine lv_goto (tgt := 15) hx hb dX8_writeClosed_139 (by decide) ?_
            exact (hWW _ _ _).mp (el15 _ _ _ _ _ _ h _ _ ls hP hD hS (lv_sub hl [1, 2, 3, 4, 0] rfl))
          · have h := h.2 c36
            refine lv_aload_n hx hb dX8_writeClosed_50 rfl (lv_at hl 0 rfl) ?_
            refine va_get (D := D) (ci := 8) (v := .ref (a 10)) (C := RX8) (T := TX8) (N := 22) hx hb hts mX8_writeClosed_inX8 hown hB.1 hP 0 xM_c0 rfl 13 (by decide) (hts _ mX8_writeClosed_2) (fun _ h9 => h9) rfl dX8_writeClosed_51 ?_
            refine lv_iload hx hb dX8_writeClosed_54 (lv_at hl 4 rfl) ?_
            refine xw_iald hx hb hB hP 10 xM_c10 h.1 dX8_writeClosed_56 (fun v38 ev38 => ?_)
            have h := h.2 v38 ev38
            refine lv_iload_n hx hb dX8_writeClosed_57 rfl (lv_at hl 1 rfl) ?_
            refine lv_icmp_ge (tgt := 136) hx hb dX8_writeClosed_58 (by decide) (fun c39 => ?_) (fun c39 => ?_)
            · have h := h.1 c39
              obtain ⟨v40, ev40⟩ : ∃ y : Int32, y = y5 + 1 := ⟨_, rfl⟩
              have h := h v40 ev40
              refine lv_iinc (v := v40) (lv' := [(5, .int v40), (0, .ref (a 0)), (1, .int x1), (2, .int y2), (4, .int y4)]) hx hb dX8_writeClosed_136 hl (k := 4) rfl (by rw [ev40]; rfl) (by decide) rfl (fun ls hl => ?_)
              refine lv_goto (tgt := 15) hx hb dX8_writeClosed_139 (by decide) ?_
              exact (hWW _ _ _).mp (el15 _ _ _ _ _ _ h _ _ ls hP hD hS (lv_sub hl [1, 2, 3, 4, 0] rfl))
            · have h := h.2 c39
              refine lv_iload hx hb dX8_writeClosed_61 (lv_at hl 3 rfl) ?_
              refine lv_if_lt (tgt := 115) hx hb dX8_writeClosed_63 (by decide) (fun c41 => ?_) (fun c41 => ?_)
              · have h := h.1 c41
                refine lv_iconst (v := 1) hx hb dX8_writeClosed_115 (by decide) ?_
                refine lv_goto (tgt := 120) hx hb dX8_writeClosed_116 (by decide) ?_
                exact (hWW _ _ _).mp (el120 _ _ _ _ _ _ _ h _ _ ls hP hD hS (lv_sub hl [0, 1, 2, 3, 4] rfl))
              · have h := h.2 c41
                refine lv_aload_n hx hb dX8_writeClosed_66 rfl (lv_at hl 0 rfl) ?_
                refine va_get (D := D) (ci := 8) (v := .ref (a 10)) (C := RX8) (T := TX8) (N := 22) hx hb hts mX8_writeClosed_inX8 hown hB.1 hP 0 xM_c0 rfl 13 (by decide) (hts _ mX8_writeClosed_2) (fun _ h9 => h9) rfl dX8_writeClosed_67 ?_
                refine lv_iload hx hb dX8_writeClosed_70 (lv_at hl 4 rfl) ?_
                refine xw_iald hx hb hB hP 10 xM_c10 h.1 dX8_writeClosed_72 (fun v42 ev42 => ?_)
                have h := h.2 v42 ev42
                refine lv_aload_n hx hb dX8_writeClosed_73 rfl (lv_at hl 0 rfl) ?_
                refine va_get (D := D) (ci := 8) (v := .ref (a 10)) (C := RX8) (T := TX8) (N := 22) hx hb hts mX8_writeClosed_inX8 hown hB.1 hP 0 xM_c0 rfl 13 (by decide) (hts _ mX8_writeClosed_2) (fun _ h9 => h9) rfl dX8_writeClosed_74 ?_
                refine lv_iload hx hb dX8_writeClosed_77 (lv_at hl 3 rfl) ?_
                refine xw_iald hx hb hB hP 10 xM_c10 h.1 dX8_writeClosed_79 (fun v43 ev43 => ?_)
                have h := h.2 v43 ev43
                refine lv_icmp_gt (tgt := 115) hx hb dX8_writeClosed_80 (by decide) (fun c44 => ?_) (fun c44 => ?_)
                · have h := h.1 c44
                  refine lv_iconst (v := 1) hx hb dX8_writeClosed_115 (by decide) ?_
                  refine lv_goto (tgt := 120) hx hb dX8_writeClosed_116 (by decide) ?_
                  exact (hWW _ _ _).mp (el120 _ _ _ _ _ _ _ h _ _ ls hP hD hS (lv_sub hl [0, 1, 2, 3, 4] rfl))
                · have h := h.2 c44
                  refine lv_aload_n hx hb dX8_writeClosed_83 rfl (lv_at hl 0 rfl) ?_
                  refine va_get (D := D) (ci := 8) (v := .ref (a 10)) (C := RX8) (T := TX8) (N := 22) hx hb hts mX8_writeClosed_inX8 hown hB.1 hP 0 xM_c0 rfl 13 (by decide) (hts _ mX8_writeClosed_2) (fun _ h9 => h9) rfl dX8_writeClosed_84 ?_
                  refine lv_iload hx hb dX8_writeClosed_87 (lv_at hl 4 rfl) ?_
                  refine xw_iald hx hb hB hP 10 xM_c10 h.1 dX8_writeClosed_89 (fun v45 ev45 => ?_)
                  have h := h.2 v45 ev45
                  refine lv_aload_n hx hb dX8_writeClosed_90 rfl (lv_at hl 0 rfl) ?_
                  refine va_get (D := D) (ci := 8) (v := .ref (a 10)) (C := RX8) (T := TX8) (N := 22) hx hb hts mX8_writeClosed_inX8 hown hB.1 hP 0 xM_c0 rfl 13 (by decide) (hts _ mX8_writeClosed_2) (fun _ h9 => h9) rfl dX8_writeClosed_91 ?_
                  refine lv_iload hx hb dX8_writeClosed_94 (lv_at hl 3 rfl) ?_
                  refine xw_iald hx hb hB hP 10 xM_c10 h.1 dX8_writeClosed_96 (fun v46 ev46 => ?_)
                  have h := h.2 v46 ev46
                  refine lv_icmp_ne (tgt := 119) hx hb dX8_writeClosed_97 (by decide) (fun c47 => ?_) (fun c47 => ?_)
                  · have h := h.1 c47
                    refine lv_iconst (v := 0) hx hb dX8_writeClosed_119 (by decide) ?_
                    exact (hWW _ _ _).mp (el120 _ _ _ _ _ _ _ h _ _ ls hP hD hS (lv_sub hl [0, 1, 2, 3, 4] rfl))
                  · have h := h.2 c47
                    refine lv_aload_n hx hb dX8_writeClosed_100 rfl (lv_at hl 0 rfl) ?_
                    refine lv_iload hx hb dX8_writeClosed_101 (lv_at hl 4 rfl) ?_
                    refine xw_ri (va_runV (rm := { frames := 2, cells := 0, slots := 0, locals := 43 }) (As := [.int y5]) (rest := []) ⟨hx, hb, hml, hown, hts⟩ (c_X8_depth l D cy a y5 I F G _ h A) (cwV 1 hts gX8_writeClosed_X8_depth rfl rfl rfl (by decide +kernel) ⟨Nat.le_of_ble_eq_true rfl, Nat.le_of_ble_eq_true rfl⟩) (xw_preV hB hP hD (ci := 8) rfl xM_c0) rfl rfl hl.1 rfl (lv_room (Nat.le_of_ble_eq_true rfl)) dX8_writeClosed_103 ⟨Nat.le_of_ble_eq_true rfl, Nat.le_of_ble_eq_true rfl⟩) (fun r48 h => ?_)
                    refine lv_aload_n hx hb dX8_writeClosed_106 rfl (lv_at hl 0 rfl) ?_
                    refine lv_iload hx hb dX8_writeClosed_107 (lv_at hl 3 rfl) ?_
                    refine xw_ri (va_runV (rm := { frames := 2, cells := 0, slots := 0, locals := 43 }) (As := [.int y4]) (rest := [.int r48]) ⟨hx, hb, hml, hown, hts⟩ (c_X8_depth l D cy a y4 I F G _ h A) (cwV 1 hts gX8_writeClosed_X8_depth rfl rfl rfl (by decide +kernel) ⟨Nat.le_of_ble_eq_true rfl, Nat.le_of_ble_eq_true rfl⟩) (xw_preV hB hP hD (ci := 8) rfl xM_c0) rfl rfl hl.1 rfl (lv_room (Nat.le_of_ble_eq_true rfl)) dX8_writeClosed_109 ⟨Nat.le_of_ble_eq_true rfl, Nat.le_of_ble_eq_true rfl⟩) (fun r49 h => ?_)
                    refine lv_icmp_lt (tgt := 119) hx hb dX8_writeClosed_112 (by decide) (fun c50 => ?_) (fun c50 => ?_)
                    · have h := h.1 c50
                      refine lv_iconst (v := 0) hx hb dX8_writeClosed_119 (by decide) ?_
                      exact (hWW _ _ _).mp (el120 _ _ _ _ _ _ _ h _ _ ls hP hD hS (lv_sub hl [0, 1, 2, 3, 4] rfl))
                    · have h := h.2 c50
                      refine lv_iconst (v := 1) hx hb dX8_writeClosed_115 (by decide) ?_
                      refine lv_goto (tgt := 120) hx hb dX8_writeClosed_116 (by decide) ?_
                      exact (hWW _ _ _).mp (el120 _ _ _ _ _ _ _ h _ _ ls hP hD hS (lv_sub hl [0, 1, 2, 3, 4] rfl))
  have rl120 : ∀ (y2 : Int32) (y4 : Int32) (y5 : Int32) (t0 : Int32) (I : xw_I) (F : xw_F) (G : xw_G), (bd_X8_writeClosed_120 x1 post k4 k15 k120 k152 y2 y4 y5 t0 I F G) → k120 y2 y4 y5 t0 I F G := by
    intro y2 y4 y5 t0 I F G h
    refine mk120 _ _ _ _ _ _ _ ?_
    intro H locs ls hP hD hS hl
    refine (hWW _ _ _).mpr ?_
    unfold bd_X8_writeClosed_120 at h
    refine lv_istore (lv' := [(6, .int t0), (0, .ref (a 0)), (1, .int x1), (2, .int y2), (4, .int y4), (5, .int y5)]) hx hb dX8_writeClosed_120 hl (by decide) rfl (fun ls hl => ?_)
    refine lv_iload hx hb dX8_writeClosed_122 (lv_at hl 0 rfl) ?_
    refine lv_if_eq (tgt := 132) hx hb dX8_writeClosed_124 (by decide) (fun c51 => ?_) (fun c51 => ?_)
    · have h := h.1 c51
      refine lv_iload hx hb dX8_writeClosed_132 (lv_at hl 4 rfl) ?_
      refine lv_istore (lv' := [(4, .int y4), (6, .int t0), (0, .ref (a 0)), (1, .int x1), (2, .int y2), (5, .int y5)]) hx hb dX8_writeClosed_134 hl (by decide) rfl (fun ls hl => ?_)
      obtain ⟨v52, ev52⟩ : ∃ y : Int32, y = y5 + 1 := ⟨_, rfl⟩
      have h := h v52 ev52
      refine lv_iinc (v := v52) (lv' := [(5, .int v52), (4, .int y4), (6, .int t0), (0, .ref (a 0)), (1, .int x1), (2, .int y2)]) hx hb dX8_writeClosed_136 hl (k := 5) rfl (by rw [ev52]; rfl) (by decide) rfl (fun ls hl => ?_)
      refine lv_goto (tgt := 15) hx hb dX8_writeClosed_139 (by decide) ?_
      exact (hWW _ _ _).mp (el15 _ _ _ _ _ _ h _ _ ls hP hD hS (lv_sub hl [3, 4, 5, 1, 0] rfl))
    · have h := h.2 c51
      refine lv_iload hx hb dX8_writeClosed_127 (lv_at hl 5 rfl) ?_
      refine lv_goto (tgt := 134) hx hb dX8_writeClosed_129 (by decide) ?_
      refine lv_istore (lv' := [(4, .int y5), (6, .int t0), (0, .ref (a 0)), (1, .int x1), (2, .int y2), (5, .int y5)]) hx hb dX8_writeClosed_134 hl (by decide) rfl (fun ls hl => ?_)
      obtain ⟨v53, ev53⟩ : ∃ y : Int32, y = y5 + 1 := ⟨_, rfl⟩
      have h := h v53 ev53
      refine lv_iinc (v := v53) (lv' := [(5, .int v53), (4, .int y5), (6, .int t0), (0, .ref (a 0)), (1, .int x1), (2, .int y2)]) hx hb dX8_writeClosed_136 hl (k := 5) rfl (by rw [ev53]; rfl) (by decide) rfl (fun ls hl => ?_)
      refine lv_goto (tgt := 15) hx hb dX8_writeClosed_139 (by decide) ?_
      exact (hWW _ _ _).mp (el15 _ _ _ _ _ _ h _ _ ls hP hD hS (lv_sub hl [3, 4, 5, 1, 0] rfl))
  have rl152 : ∀ (y2 : Int32) (y4 : Int32) (t0 : Int32) (I : xw_I) (F : xw_F) (G : xw_G), (bd_X8_writeClosed_152 x1 post k4 k15 k120 k152 y2 y4 t0 I F G) → k152 y2 y4 t0 I F G := by
    intro y2 y4 t0 I F G h
    refine mk152 _ _ _ _ _ _ ?_
    intro H locs ls hP hD hS hl
    refine (hWW _ _ _).mpr ?_
    unfold bd_X8_writeClosed_152 at h
    refine lv_istore_n (lv' := [(3, .int t0), (0, .ref (a 0)), (1, .int x1), (2, .int y2), (4, .int y4)]) hx hb dX8_writeClosed_152 rfl hl (by decide) rfl (fun ls hl => ?_)
    refine lv_iload_n hx hb dX8_writeClosed_153 rfl (lv_at hl 0 rfl) ?_
    refine lv_if_eq (tgt := 173) hx hb dX8_writeClosed_154 (by decide) (fun c54 => ?_) (fun c54 => ?_)
    · have h := h.1 c54
      refine lv_goto (tgt := 4) hx hb dX8_writeClosed_173 (by decide) ?_
      exact (hWW _ _ _).mp (el4 _ _ _ _ _ h _ _ ls hP hD hS (lv_sub hl [1, 2, 3, 0] rfl))
    · have h := h.2 c54
      refine lv_iload_n hx hb dX8_writeClosed_157 rfl (lv_at hl 3 rfl) ?_
      refine lv_iconst (v := 1) hx hb dX8_writeClosed_158 (by decide) ?_
      refine lv_iload hx hb dX8_writeClosed_159 (lv_at hl 4 rfl) ?_
      refine lv_ishl hx hb dX8_writeClosed_161 ?_
      refine lv_ior hx hb dX8_writeClosed_162 ?_
      refine lv_topi (fun v55 ev55 => ?_)
      have h := h v55 ev55
      refine lv_istore_n (lv' := [(2, .int v55), (3, .int t0), (0, .ref (a 0)), (1, .int x1), (4, .int y4)]) hx hb dX8_writeClosed_163 rfl hl (by decide) rfl (fun ls hl => ?_)
      refine lv_aload_n hx hb dX8_writeClosed_164 rfl (lv_at hl 2 rfl) ?_
      refine lv_bipush (v := 97) hx hb dX8_writeClosed_165 (by decide) ?_
      refine lv_iload hx hb dX8_writeClosed_167 (lv_at hl 4 rfl) ?_
      refine lv_iadd hx hb dX8_writeClosed_169 ?_
      refine xw_wv (va_runV (rm := { frames := 0, cells := 0, slots := 0, locals := 0 }) (As := [.int ((97 : Int32) + y4)]) (rest := []) ⟨hx, hb, hml, hown, hts⟩ (c_X8_write l D cy a ((97 : Int32) + y4) I F G _ h A) (cwV 1 hts gX8_writeClosed_X8_write rfl rfl rfl (by decide +kernel) ⟨Nat.le_of_ble_eq_true rfl, Nat.le_of_ble_eq_true rfl⟩) (xw_preV hB hP hD (ci := 8) rfl xM_c0) rfl rfl hl.1 rfl (lv_room (Nat.le_of_ble_eq_true rfl)) dX8_writeClosed_170 ⟨Nat.le_of_ble_eq_true rfl, Nat.le_of_ble_eq_true rfl⟩) hS (fun I56 F56 G56 H locs h hP hD hS => ?_)
      refine lv_goto (tgt := 4) hx hb dX8_writeClosed_173 (by decide) ?_
      exact (hWW _ _ _).mp (el4 _ _ _ _ _ h _ _ ls hP hD hS (lv_sub hl [2, 3, 0, 1] rfl))
  have h := h k4 k15 k120 k152 rl4 rl15 rl120 rl152
  unfold bd_X8_writeClosed_0 at h
  refine lv_iconst (v := 0) hx hb dX8_writeClosed_0 (by decide) ?_
  refine lv_istore_n (lv' := [(2, .int (0 : Int32)), (0, .ref (a 0)), (1, .int x1)]) hx hb dX8_writeClosed_1 rfl hl (by decide) rfl (fun ls hl => ?_)
  refine lv_iconst (v := 1) hx hb dX8_writeClosed_2 (by decide) ?_
  refine lv_istore_n (lv' := [(3, .int (1 : Int32)), (2, .int (0 : Int32)), (0, .ref (a 0)), (1, .int x1)]) hx hb dX8_writeClosed_3 rfl hl (by decide) rfl (fun ls hl => ?_)
  exact (hWW _ _ _).mp (el4 _ _ _ _ _ h _ _ ls hP hD hS (lv_sub hl [2, 3, 1, 0] rfl))

theorem mX8_writeOpened_1 : Cond.fieldLink RX8 38 "TagCarrierModel" "begins" "[I" ∈ wsX8_writeOpened := List.mem_of_getElem? (i := 1) rfl
theorem mX8_writeOpened_inX8 : ∀ w ∈ u_ws RX8 TX8 22, w ∈ wsX8_writeOpened := by decide +kernel
theorem mX8_writeOpened_2 : Cond.fieldLink RX8 41 "TagCarrierModel" "ends" "[I" ∈ wsX8_writeOpened := List.mem_of_getElem? (i := 2) rfl
set_option maxHeartbeats 4000000 in
set_option maxRecDepth 100000 in
theorem c_X8_writeOpened (l : Launch) (D : va_G) (cy : Nat → ClassId) (a : Nat → Nat) (x1 : Int32) (I : xw_I) (F : xw_F) (G : xw_G) (post : xw_I → xw_F → xw_G → Prop) (h : sm_X8_writeOpened x1 I F G post) : xw_Wv l yX8_writeOpened wsX8_writeOpened ({ frames := 3, cells := 0, slots := 0, locals := 66 }) D cy [.ref (a 0), .int x1] (xM_w cy a I F G) (xM_w cy a) post := by
  intro A
  refine Met.ofW (cc := cX8_writeOpened) (maxL := 7) (ret := none) (by decide) rfl ?_
  intro p e s m args below meth c s₁ B hml hv
  obtain ⟨rfl, hP, hB, hD⟩ := hv
  have hP : va_P D vwCl (xM_w cy a I F G) s.heap := hP
  have hx := B.exec
  have hb := B.bytes
  have hr := B.returns
  have hts := atoms_spec (ws := wsX8_writeOpened) B.pre
  have hown : s.vm.findClass RX8 = some m.cls := findClass_of_methodNamed B.named
  have hlocks := B.notSynchronized
  have hS : va_S A s.heap s.heap [] := va_S.rf
  refine xw_go (fun WW hWW => ?_)
  have hl := lv_entry ([.ref (a 0), .int x1]) (n := 7) (Nat.le_of_ble_eq_true rfl)
  rw [lg_entry_eq]
  generalize (lg_sl ([.ref (a 0), .int x1]) ++ List.replicate (7 - (lg_sl ([.ref (a 0), .int x1])).length) Slot.unset).toArray = ls at hl ⊢
  have hl : lv_has ls 7 [(0, .ref (a 0)), (1, .int x1)] := hl
  obtain ⟨k4, mk4, el4⟩ : ∃ K : Int32 → Int32 → xw_I → xw_F → xw_G → Prop, (∀ (y2 : Int32) (y3 : Int32) (I : xw_I) (F : xw_F) (G : xw_G), (∀ (H : Heap) (locs : List Loc) (ls : Array Slot), va_P D vwCl (xM_w cy a I F G) H → va_D A (xM_w cy a I F G) → va_S A s.heap H locs → lv_has ls 7 [(0, .ref (a 0)), (1, .int x1), (2, .int y2), (3, .int y3)] → WW H locs (F0 m 4 ls [])) → K y2 y3 I F G) ∧ (∀ (y2 : Int32) (y3 : Int32) (I : xw_I) (F : xw_F) (G : xw_G), K y2 y3 I F G → (∀ (H : Heap) (locs : List Loc) (ls : Array Slot), va_P D vwCl (xM_w cy a I F G) H → va_D A (xM_w cy a I F G) → va_S A s.heap H locs → lv_has ls 7 [(0, .ref (a 0)), (1, .int x1), (2, .int y2), (3, .int y3)] → WW H locs (F0 m 4 ls []))) := ⟨fun (y2 : Int32) (y3 : Int32) (I : xw_I) (F : xw_F) (G : xw_G) => (∀ (H : Heap) (locs : List Loc) (ls : Array Slot), va_P D vwCl (xM_w cy a I F G) H → va_D A (xM_w cy a I F G) → va_S A s.heap H locs → lv_has ls 7 [(0, .ref (a 0)), (1, .int x1), (2, .int y2), (3, .int y3)] → WW H locs (F0 m 4 ls [])), fun _ _ _ _ _ h => h, fun _ _ _ _ _ h => h⟩
  obtain ⟨k15, mk15, el15⟩ : ∃ K : Int32 → Int32 → Int32 → xw_I → xw_F → xw_G → Prop, (∀ (y2 : Int32) (y4 : Int32) (y5 : Int32) (I : xw_I) (F : xw_F) (G : xw_G), (∀ (H : Heap) (locs : List Loc) (ls : Array Slot), va_P D vwCl (xM_w cy a I F G) H → va_D A (xM_w cy a I F G) → va_S A s.heap H locs → lv_has ls 7 [(0, .ref (a 0)), (1, .int x1), (2, .int y2), (4, .int y4), (5, .int y5)] → WW H locs (F0 m 15 ls [])) → K y2 y4 y5 I F G) ∧ (∀ (y2 : Int32) (y4 : Int32) (y5 : Int32) (I : xw_I) (F : xw_F) (G : xw_G), K y2 y4 y5 I F G → (∀ (H : Heap) (locs : List Loc) (ls : Array Slot), va_P D vwCl (xM_w cy a I F G) H → va_D A (xM_w cy a I F G) → va_S A s.heap H locs → lv_has ls 7 [(0, .ref (a 0)), (1, .int x1), (2, .int y2), (4, .int y4), (5, .int y5)] → WW H locs (F0 m 15 ls []))) := ⟨fun (y2 : Int32) (y4 : Int32) (y5 : Int32) (I : xw_I) (F : xw_F) (G : xw_G) => (∀ (H : Heap) (locs : List Loc) (ls : Array Slot), va_P D vwCl (xM_w cy a I F G) H → va_D A (xM_w cy a I F G) → va_S A s.heap H locs → lv_has ls 7 [(0, .ref (a 0)), (1, .int x1), (2, .int y2), (4, .int y4), (5, .int y5)] → WW H locs (F0 m 15 ls [])), fun _ _ _ _ _ _ h => h, fun _ _ _ _ _ _ h => h⟩
  obtain ⟨k120, mk120, el120⟩ : ∃ K : Int32 → Int32 → Int32 → Int32 → xw_I → xw_F → xw_G → Prop, (∀ (y2 : Int32) (y4 : Int32) (y5 : Int32) (t0 : Int32) (I : xw_I) (F : xw_F) (G : xw_G), (∀ (H : Heap) (locs : List Loc) (ls : Array Slot), va_P D vwCl (xM_w cy a I F G) H → va_D A (xM_w cy a I F G) → va_S A s.heap H locs → lv_has ls 7 [(0, .ref (a 0)), (1, .int x1), (2, .int y2), (4, .int y4), (5, .int y5)] → WW H locs (F0 m 120 ls [.int t0])) → K y2 y4 y5 t0 I F G) ∧ (∀ (y2 : Int32) (y4 : Int32) (y5 : Int32) (t0 : Int32) (I : xw_I) (F : xw_F) (G : xw_G), K y2 y4 y5 t0 I F G → (∀ (H : Heap) (locs : List Loc) (ls : Array Slot), va_P D vwCl (xM_w cy a I F G) H → va_D A (xM_w cy a I F G) → va_S A s.heap H locs → lv_has ls 7 [(0, .ref (a 0)), (1, .int x1), (2, .int y2), (4, .int y4), (5, .int y5)] → WW H locs (F0 m 120 ls [.int t0]))) := ⟨fun (y2 : Int32) (y4 : Int32) (y5 : Int32) (t0 : Int32) (I : xw_I) (F : xw_F) (G : xw_G) => (∀ (H : Heap) (locs : List Loc) (ls : Array Slot), va_P D vwCl (xM_w cy a I F G) H → va_D A (xM_w cy a I F G) → va_S A s.heap H locs → lv_has ls 7 [(0, .ref (a 0)), (1, .int x1), (2, .int y2), (4, .int y4), (5, .int y5)] → WW H locs (F0 m 120 ls [.int t0])), fun _ _ _ _ _ _ _ h => h, fun _ _ _ _ _ _ _ h => h⟩
  obtain ⟨k152, mk152, el152⟩ : ∃ K : Int32 → Int32 → Int32 → xw_I → xw_F → xw_G → Prop, (∀ (y2 : Int32) (y4 : Int32) (t0 : Int32) (I : xw_I) (F : xw_F) (G : xw_G), (∀ (H : Heap) (locs : List Loc) (ls : Array Slot), va_P D vwCl (xM_w cy a I F G) H → va_D A (xM_w cy a I F G) → va_S A s.heap H locs → lv_has ls 7 [(0, .ref (a 0)), (1, .int x1), (2, .int y2), (4, .int y4)] → WW H locs (F0 m 152 ls [.int t0])) → K y2 y4 t0 I F G) ∧ (∀ (y2 : Int32) (y4 : Int32) (t0 : Int32) (I : xw_I) (F : xw_F) (G : xw_G), K y2 y4 t0 I F G → (∀ (H : Heap) (locs : List Loc) (ls : Array Slot), va_P D vwCl (xM_w cy a I F G) H → va_D A (xM_w cy a I F G) → va_S A s.heap H locs → lv_has ls 7 [(0, .ref (a 0)), (1, .int x1), (2, .int y2), (4, .int y4)] → WW H locs (F0 m 152 ls [.int t0]))) := ⟨fun (y2 : Int32) (y4 : Int32) (t0 : Int32) (I : xw_I) (F : xw_F) (G : xw_G) => (∀ (H : Heap) (locs : List Loc) (ls : Array Slot), va_P D vwCl (xM_w cy a I F G) H → va_D A (xM_w cy a I F G) → va_S A s.heap H locs → lv_has ls 7 [(0, .ref (a 0)), (1, .int x1), (2, .int y2), (4, .int y4)] → WW H locs (F0 m 152 ls [.int t0])), fun _ _ _ _ _ _ h => h, fun _ _ _ _ _ _ h => h⟩
  have rl4 : ∀ (y2 : Int32) (y3 : Int32) (I : xw_I) (F : xw_F) (G : xw_G), (bd_X8_writeOpened_4 x1 post k4 k15 k120 k152 y2 y3 I F G) → k4 y2 y3 I F G := by
    intro y2 y3 I F G h
    refine mk4 _ _ _ _ _ ?_
    intro H locs ls hP hD hS hl
    refine (hWW _ _ _).mpr ?_
    unfold bd_X8_writeOpened_4 at h
    refine lv_iload_n hx hb dX8_writeOpened_4 rfl (lv_at hl 3 rfl) ?_
    refine lv_if_eq (tgt := 176) hx hb dX8_writeOpened_5 (by decide) (fun c27 => ?_) (fun c27 => ?_)
    · have h := h.1 c27
      exact xw_wretv hx hb hr hlocks hP hD hS h dX8_writeOpened_176
    · have h := h.2 c27
      refine lv_bipush (v := -6) hx hb dX8_writeOpened_8 (by decide) ?_
      refine lv_istore (lv' := [(4, .int (-6 : Int32)), (0, .ref (a 0)), (1, .int x1), (2, .int y2), (3, .int y3)]) hx hb dX8_writeOpened_10 hl (by decide) rfl (fun ls hl => ?_)
      refine lv_iconst (v := 0) hx hb dX8_writeOpened_12 (by decide) ?_
      refine lv_istore (lv' := [(5, .int (0 : Int32)), (4, .int (-6 : Int32)), (0, .ref (a 0)), (1, .int x1), (2, .int y2), (3, .int y3)]) hx hb dX8_writeOpened_13 hl (by decide) rfl (fun ls hl => ?_)
      exact (hWW _ _ _).mp (el15 _ _ _ _ _ _ h _ _ ls hP hD hS (lv_sub hl [2, 3, 4, 1, 0] rfl))
  have rl15 : ∀ (y2 : Int32) (y4 : Int32) (y5 : Int32) (I : xw_I) (F : xw_F) (G : xw_G), (bd_X8_writeOpened_15 x1 post k4 k15 k120 k152 y2 y4 y5 I F G) → k15 y2 y4 y5 I F G := by
    intro y2 y4 y5 I F G h
    refine mk15 _ _ _ _ _ _ ?_
    intro H locs ls hP hD hS hl
    refine (hWW _ _ _).mpr ?_
    unfold bd_X8_writeOpened_15 at h
    refine lv_iload hx hb dX8_writeOpened_15 (lv_at hl 4 rfl) ?_
    refine lv_iconst (v := 5) hx hb dX8_writeOpened_17 (by decide) ?_
    refine lv_icmp_ge (tgt := 142) hx hb dX8_writeOpened_18 (by decide) (fun c28 => ?_) (fun c28 => ?_)
    · have h := h.1 c28
      refine lv_iload hx hb dX8_writeOpened_142 (lv_at hl 3 rfl) ?_
      refine lv_if_lt (tgt := 151) hx hb dX8_writeOpened_144 (by decide) (fun c29 => ?_) (fun c29 => ?_)
      · have h := h.1 c29
        refine lv_iconst (v := 0) hx hb dX8_writeOpened_151 (by decide) ?_
        exact (hWW _ _ _).mp (el152 _ _ _ _ _ _ h _ _ ls hP hD hS (lv_sub hl [0, 1, 2, 3] rfl))
      · have h := h.2 c29
        refine lv_iconst (v := 1) hx hb dX8_writeOpened_147 (by decide) ?_
        refine lv_goto (tgt := 152) hx hb dX8_writeOpened_148 (by decide) ?_
        exact (hWW _ _ _).mp (el152 _ _ _ _ _ _ h _ _ ls hP hD hS (lv_sub hl [0, 1, 2, 3] rfl))
    · have h := h.2 c28
      refine lv_aload_n hx hb dX8_writeOpened_21 rfl (lv_at hl 0 rfl) ?_
      refine lv_iload hx hb dX8_writeOpened_22 (lv_at hl 4 rfl) ?_
      refine xw_ri (va_runV (rm := { frames := 1, cells := 0, slots := 0, locals := 22 }) (As := [.int y5]) (rest := []) ⟨hx, hb, hml, hown, hts⟩ (c_X8_isThere l D cy a y5 I F G _ h A) (cwV 1 hts gX8_writeOpened_X8_isThere rfl rfl rfl (by decide +kernel) ⟨Nat.le_of_ble_eq_true rfl, Nat.le_of_ble_eq_true rfl⟩) (xw_preV hB hP hD (ci := 8) rfl xM_c0) rfl rfl hl.1 rfl (lv_room (Nat.le_of_ble_eq_true rfl)) dX8_writeOpened_24 ⟨Nat.le_of_ble_eq_true rfl, Nat.le_of_ble_eq_true rfl⟩) (fun r30 h => ?_)
      refine lv_if_eq (tgt := 136) hx hb dX8_writeOpened_27 (by decide) (fun c31 => ?_) (fun c31 => ?_)
      · have h := h.1 c31
        obtain ⟨v32, ev32⟩ : ∃ y : Int32, y = y5 + 1 := ⟨_, rfl⟩
        have h := h v32 ev32
        refine lv_iinc (v := v32) (lv' := [(5, .int v32), (0, .ref (a 0)), (1, .int x1), (2, .int y2), (4, .int y4)]) hx hb dX8_writeOpened_136 hl (k := 4) rfl (by rw [ev32]; rfl) (by decide) rfl (fun ls hl => ?_)
        refine lv_goto (tgt := 15) hx hb dX8_writeOpened_139 (by decide) ?_
        exact (hWW _ _ _).mp (el15 _ _ _ _ _ _ h _ _ ls hP hD hS (lv_sub hl [1, 2, 3, 4, 0] rfl))
      · have h := h.2 c31
        refine lv_iload_n hx hb dX8_writeOpened_30 rfl (lv_at hl 2 rfl) ?_
        refine lv_iload hx hb dX8_writeOpened_31 (lv_at hl 4 rfl) ?_
        refine lv_ishr hx hb dX8_writeOpened_33 ?_
        refine lv_iconst (v := 1) hx hb dX8_writeOpened_34 (by decide) ?_
        refine lv_iand hx hb dX8_writeOpened_35 ?_
        refine lv_if_ne (tgt := 136) hx hb dX8_writeOpened_36 (by decide) (fun c33 => ?_) (fun c33 => ?_)
        · have h := h.1 c33
          obtain ⟨v34, ev34⟩ : ∃ y : Int32, y = y5 + 1 := ⟨_, rfl⟩
          have h := h v34 ev34
          refine lv_iinc (v := v34) (lv' := [(5, .int v34), (0, .ref (a 0)), (1, .int x1), (2, .int y2), (4, .int y4)]) hx hb dX8_writeOpened_136 hl (k := 4) rfl (by rw [ev34]; rfl) (by decide) rfl (fun ls hl => ?_)
          refine lv_goto (tgt := 15) hx hb dX8_writeOpened_139 (by decide) ?_
          exact (hWW _ _ _).mp (el15 _ _ _ _ _ _ h _ _ ls hP hD hS (lv_sub hl [1, 2, 3, 4, 0] rfl))
        · have h := h.2 c33
          refine lv_aload_n hx hb dX8_writeOpened_39 rfl (lv_at hl 0 rfl) ?_
          refine va_get (D := D) (ci := 8) (v := .ref (a 10)) (C := RX8) (T := TX8) (N := 22) hx hb hts mX8_writeOpened_inX8 hown hB.1 hP 0 xM_c0 rfl 13 (by decide) (hts _ mX8_writeOpened_1) (fun _ h9 => h9) rfl dX8_writeOpened_40 ?_
          refine lv_iload hx hb dX8_writeOpened_43 (lv_at hl 4 rfl) ?_
          refine xw_iald hx hb hB hP 10 xM_c10 h.1 dX8_writeOpened_45 (fun v35 ev35 => ?_)
          have h := h.2 v35 ev35
          refine lv_iload_n hx hb dX8_writeOpened_46 rfl (lv_at hl 1 rfl) ?_
          refine lv_icmp_ne (tgt := 136) hx hb dX8_writeOpened_47 (by decide) (fun c36 => ?_) (fun c36 => ?_)
          · have h := h.1 c36
            obtain ⟨v37, ev37⟩ : ∃ y : Int32, y = y5 + 1 := ⟨_, rfl⟩
            have h := h v37 ev37
            refine lv_iinc (v := v37) (lv' := [(5, .int v37), (0, .ref (a 0)), (1, .int x1), (2, .int y2), (4, .int y4)]) hx hb dX8_writeOpened_136 hl (k := 4) rfl (by rw [ev37]; rfl) (by decide) rfl (fun ls hl => ?_)
            refine lv_goto (tgt := 15) hx hb dX8_writeOpened_139 (by decide) ?_
            exact (hWW _ _ _).mp (el15 _ _ _ _ _ _ h _ _ ls hP hD hS (lv_sub hl [1, 2, 3, 4, 0] rfl))
          · have h := h.2 c36
            refine lv_aload_n hx hb dX8_writeOpened_50 rfl (lv_at hl 0 rfl) ?_
            refine va_get (D := D) (ci := 8) (v := .ref (a 11)) (C := RX8) (T := TX8) (N := 22) hx hb hts mX8_writeOpened_inX8 hown hB.1 hP 0 xM_c0 rfl 14 (by decide) (hts _ mX8_writeOpened_2) (fun _ h9 => h9) rfl dX8_writeOpened_51 ?_
            refine lv_iload hx hb dX8_writeOpened_54 (lv_at hl 4 rfl) ?_
            refine xw_iald hx hb hB hP 11 xM_c11 h.1 dX8_writeOpened_56 (fun v38 ev38 => ?_)
            have h := h.2 v38 ev38
            refine lv_iload_n hx hb dX8_writeOpened_57 rfl (lv_at hl 1 rfl) ?_
            refine lv_icmp_le (tgt := 136) hx hb dX8_writeOpened_58 (by decide) (fun c39 => ?_) (fun c39 => ?_)
            · have h := h.1 c39
              obtain ⟨v40, ev40⟩ : ∃ y : Int32, y = y5 + 1 := ⟨_, rfl⟩
              have h := h v40 ev40
              refine lv_iinc (v := v40) (lv' := [(5, .int v40), (0, .ref (a 0)), (1, .int x1), (2, .int y2), (4, .int y4)]) hx hb dX8_writeOpened_136 hl (k := 4) rfl (by rw [ev40]; rfl) (by decide) rfl (fun ls hl => ?_)
              refine lv_goto (tgt := 15) hx hb dX8_writeOpened_139 (by decide) ?_
              exact (hWW _ _ _).mp (el15 _ _ _ _ _ _ h _ _ ls hP hD hS (lv_sub hl [1, 2, 3, 4, 0] rfl))
            · have h := h.2 c39
              refine lv_iload hx hb dX8_writeOpened_61 (lv_at hl 3 rfl) ?_
              refine lv_if_lt (tgt := 115) hx hb dX8_writeOpened_63 (by decide) (fun c41 => ?_) (fun c41 => ?_)
              · have h := h.1 c41
                refine lv_iconst (v := 1) hx hb dX8_writeOpened_115 (by decide) ?_
                refine lv_goto (tgt := 120) hx hb dX8_writeOpened_116 (by decide) ?_
                exact (hWW _ _ _).mp (el120 _ _ _ _ _ _ _ h _ _ ls hP hD hS (lv_sub hl [0, 1, 2, 3, 4] rfl))
              · have h := h.2 c41
                refine lv_aload_n hx hb dX8_writeOpened_66 rfl (lv_at hl 0 rfl) ?_
                refine va_get (D := D) (ci := 8) (v := .ref (a 11)) (C := RX8) (T := TX8) (N := 22) hx hb hts mX8_writeOpened_inX8 hown hB.1 hP 0 xM_c0 rfl 14 (by decide) (hts _ mX8_writeOpened_2) (fun _ h9 => h9) rfl dX8_writeOpened_67 ?_
                refine lv_iload hx hb dX8_writeOpened_70 (lv_at hl 4 rfl) ?_
                refine xw_iald hx hb hB hP 11 xM_c11 h.1 dX8_writeOpened_72 (fun v42 ev42 => ?_)
                have h := h.2 v42 ev42
                refine lv_aload_n hx hb dX8_writeOpened_73 rfl (lv_at hl 0 rfl) ?_
                refine va_get (D := D) (ci := 8) (v := .ref (a 11)) (C := RX8) (T := TX8) (N := 22) hx hb hts mX8_writeOpened_inX8 hown hB.1 hP 0 xM_c0 rfl 14 (by decide) (hts _ mX8_writeOpened_2) (fun _ h9 => h9) rfl dX8_writeOpened_74 ?_
                refine lv_iload hx hb dX8_writeOpened_77 (lv_at hl 3 rfl) ?_
                refine xw_iald hx hb hB hP 11 xM_c11 h.1 dX8_writeOpened_79 (fun v43 ev43 => ?_)
                have h := h.2 v43 ev43
                refine lv_icmp_gt (tgt := 115) hx hb dX8_writeOpened_80 (by decide) (fun c44 => ?_) (fun c44 => ?_)
                · have h := h.1 c44
                  refine lv_iconst (v := 1) hx hb dX8_writeOpened_115 (by decide) ?_
                  refine lv_goto (tgt := 120) hx hb dX8_writeOpened_116 (by decide) ?_
                  exact (hWW _ _ _).mp (el120 _ _ _ _ _ _ _ h _ _ ls hP hD hS (lv_sub hl [0, 1, 2, 3, 4] rfl))
                · have h := h.2 c44
                  refine lv_aload_n hx hb dX8_writeOpened_83 rfl (lv_at hl 0 rfl) ?_
                  refine va_get (D := D) (ci := 8) (v := .ref (a 11)) (C := RX8) (T := TX8) (N := 22) hx hb hts mX8_writeOpened_inX8 hown hB.1 hP 0 xM_c0 rfl 14 (by decide) (hts _ mX8_writeOpened_2) (fun _ h9 => h9) rfl dX8_writeOpened_84 ?_
                  refine lv_iload hx hb dX8_writeOpened_87 (lv_at hl 4 rfl) ?_
                  refine xw_iald hx hb hB hP 11 xM_c11 h.1 dX8_writeOpened_89 (fun v45 ev45 => ?_)
                  have h := h.2 v45 ev45
                  refine lv_aload_n hx hb dX8_writeOpened_90 rfl (lv_at hl 0 rfl) ?_
                  refine va_get (D := D) (ci := 8) (v := .ref (a 11)) (C := RX8) (T := TX8) (N := 22) hx hb hts mX8_writeOpened_inX8 hown hB.1 hP 0 xM_c0 rfl 14 (by decide) (hts _ mX8_writeOpened_2) (fun _ h9 => h9) rfl dX8_writeOpened_91 ?_
                  refine lv_iload hx hb dX8_writeOpened_94 (lv_at hl 3 rfl) ?_
                  refine xw_iald hx hb hB hP 11 xM_c11 h.1 dX8_writeOpened_96 (fun v46 ev46 => ?_)
                  have h := h.2 v46 ev46
                  refine lv_icmp_ne (tgt := 119) hx hb dX8_writeOpened_97 (by decide) (fun c47 => ?_) (fun c47 => ?_)
                  · have h := h.1 c47
                    refine lv_iconst (v := 0) hx hb dX8_writeOpened_119 (by decide) ?_
                    exact (hWW _ _ _).mp (el120 _ _ _ _ _ _ _ h _ _ ls hP hD hS (lv_sub hl [0, 1, 2, 3, 4] rfl))
                  · have h := h.2 c47
                    refine lv_aload_n hx hb dX8_writeOpened_100 rfl (lv_at hl 0 rfl) ?_
                    refine lv_iload hx hb dX8_writeOpened_101 (lv_at hl 4 rfl) ?_
                    refine xw_ri (va_runV (rm := { frames := 2, cells := 0, slots := 0, locals := 43 }) (As := [.int y5]) (rest := []) ⟨hx, hb, hml, hown, hts⟩ (c_X8_depth l D cy a y5 I F G _ h A) (cwV 1 hts gX8_writeOpened_X8_depth rfl rfl rfl (by decide +kernel) ⟨Nat.le_of_ble_eq_true rfl, Nat.le_of_ble_eq_true rfl⟩) (xw_preV hB hP hD (ci := 8) rfl xM_c0) rfl rfl hl.1 rfl (lv_room (Nat.le_of_ble_eq_true rfl)) dX8_writeOpened_103 ⟨Nat.le_of_ble_eq_true rfl, Nat.le_of_ble_eq_true rfl⟩) (fun r48 h => ?_)
                    refine lv_aload_n hx hb dX8_writeOpened_106 rfl (lv_at hl 0 rfl) ?_
                    refine lv_iload hx hb dX8_writeOpened_107 (lv_at hl 3 rfl) ?_
                    refine xw_ri (va_runV (rm := { frames := 2, cells := 0, slots := 0, locals := 43 }) (As := [.int y4]) (rest := [.int r48]) ⟨hx, hb, hml, hown, hts⟩ (c_X8_depth l D cy a y4 I F G _ h A) (cwV 1 hts gX8_writeOpened_X8_depth rfl rfl rfl (by decide +kernel) ⟨Nat.le_of_ble_eq_true rfl, Nat.le_of_ble_eq_true rfl⟩) (xw_preV hB hP hD (ci := 8) rfl xM_c0) rfl rfl hl.1 rfl (lv_room (Nat.le_of_ble_eq_true rfl)) dX8_writeOpened_109 ⟨Nat.le_of_ble_eq_true rfl, Nat.le_of_ble_eq_true rfl⟩) (fun r49 h => ?_)
                    refine lv_icmp_ge (tgt := 119) hx hb dX8_writeOpened_112 (by decide) (fun c50 => ?_) (fun c50 => ?_)
                    · have h := h.1 c50
                      refine lv_iconst (v := 0) hx hb dX8_writeOpened_119 (by decide) ?_
                      exact (hWW _ _ _).mp (el120 _ _ _ _ _ _ _ h _ _ ls hP hD hS (lv_sub hl [0, 1, 2, 3, 4] rfl))
                    · have h := h.2 c50
                      refine lv_iconst (v := 1) hx hb dX8_writeOpened_115 (by decide) ?_
                      refine lv_goto (tgt := 120) hx hb dX8_writeOpened_116 (by decide) ?_
                      exact (hWW _ _ _).mp (el120 _ _ _ _ _ _ _ h _ _ ls hP hD hS (lv_sub hl [0, 1, 2, 3, 4] rfl))
  have rl120 : ∀ (y2 : Int32) (y4 : Int32) (y5 : Int32) (t0 : Int32) (I : xw_I) (F : xw_F) (G : xw_G), (bd_X8_writeOpened_120 x1 post k4 k15 k120 k152 y2 y4 y5 t0 I F G) → k120 y2 y4 y5 t0 I F G := by
    intro y2 y4 y5 t0 I F G h
    refine mk120 _ _ _ _ _ _ _ ?_
    intro H locs ls hP hD hS hl
    refine (hWW _ _ _).mpr ?_
    unfold bd_X8_writeOpened_120 at h
    refine lv_istore (lv' := [(6, .int t0), (0, .ref (a 0)), (1, .int x1), (2, .int y2), (4, .int y4), (5, .int y5)]) hx hb dX8_writeOpened_120 hl (by decide) rfl (fun ls hl => ?_)
    refine lv_iload hx hb dX8_writeOpened_122 (lv_at hl 0 rfl) ?_
    refine lv_if_eq (tgt := 132) hx hb dX8_writeOpened_124 (by decide) (fun c51 => ?_) (fun c51 => ?_)
    · have h := h.1 c51
      refine lv_iload hx hb dX8_writeOpened_132 (lv_at hl 4 rfl) ?_
      refine lv_istore (lv' := [(4, .int y4), (6, .int t0), (0, .ref (a 0)), (1, .int x1), (2, .int y2), (5, .int y5)]) hx hb dX8_writeOpened_134 hl (by decide) rfl (fun ls hl => ?_)
      obtain ⟨v52, ev52⟩ : ∃ y : Int32, y = y5 + 1 := ⟨_, rfl⟩
      have h := h v52 ev52
      refine lv_iinc (v := v52) (lv' := [(5, .int v52), (4, .int y4), (6, .int t0), (0, .ref (a 0)), (1, .int x1), (2, .int y2)]) hx hb dX8_writeOpened_136 hl (k := 5) rfl (by rw [ev52]; rfl) (by decide) rfl (fun ls hl => ?_)
      refine lv_goto (tgt := 15) hx hb dX8_writeOpened_139 (by decide) ?_
      exact (hWW _ _ _).mp (el15 _ _ _ _ _ _ h _ _ ls hP hD hS (lv_sub hl [3, 4, 5, 1, 0] rfl))
    · have h := h.2 c51
      refine lv_iload hx hb dX8_writeOpened_127 (lv_at hl 5 rfl) ?_
      refine lv_goto (tgt := 134) hx hb dX8_writeOpened_129 (by decide) ?_
      refine lv_istore (lv' := [(4, .int y5), (6, .int t0), (0, .ref (a 0)), (1, .int x1), (2, .int y2), (5, .int y5)]) hx hb dX8_writeOpened_134 hl (by decide) rfl (fun ls hl => ?_)
      obtain ⟨v53, ev53⟩ : ∃ y : Int32, y = y5 + 1 := ⟨_, rfl⟩
      have h := h v53 ev53
      refine lv_iinc (v := v53) (lv' := [(5, .int v53), (4, .int y5), (6, .int t0), (0, .ref (a 0)), (1, .int x1), (2, .int y2)]) hx hb dX8_writeOpened_136 hl (k := 5) rfl (by rw [ev53]; rfl) (by decide) rfl (fun ls hl => ?_)
      refine lv_goto (tgt := 15) hx hb dX8_writeOpened_139 (by decide) ?_
      exact (hWW _ _ _).mp (el15 _ _ _ _ _ _ h _ _ ls hP hD hS (lv_sub hl [3, 4, 5, 1, 0] rfl))
  have rl152 : ∀ (y2 : Int32) (y4 : Int32) (t0 : Int32) (I : xw_I) (F : xw_F) (G : xw_G), (bd_X8_writeOpened_152 x1 post k4 k15 k120 k152 y2 y4 t0 I F G) → k152 y2 y4 t0 I F G := by
    intro y2 y4 t0 I F G h
    refine mk152 _ _ _ _ _ _ ?_
    intro H locs ls hP hD hS hl
    refine (hWW _ _ _).mpr ?_
    unfold bd_X8_writeOpened_152 at h
    refine lv_istore_n (lv' := [(3, .int t0), (0, .ref (a 0)), (1, .int x1), (2, .int y2), (4, .int y4)]) hx hb dX8_writeOpened_152 rfl hl (by decide) rfl (fun ls hl => ?_)
    refine lv_iload_n hx hb dX8_writeOpened_153 rfl (lv_at hl 0 rfl) ?_
    refine lv_if_eq (tgt := 173) hx hb dX8_writeOpened_154 (by decide) (fun c54 => ?_) (fun c54 => ?_)
    · have h := h.1 c54
      refine lv_goto (tgt := 4) hx hb dX8_writeOpened_173 (by decide) ?_
      exact (hWW _ _ _).mp (el4 _ _ _ _ _ h _ _ ls hP hD hS (lv_sub hl [1, 2, 3, 0] rfl))
    · have h := h.2 c54
      refine lv_iload_n hx hb dX8_writeOpened_157 rfl (lv_at hl 3 rfl) ?_
      refine lv_iconst (v := 1) hx hb dX8_writeOpened_158 (by decide) ?_
      refine lv_iload hx hb dX8_writeOpened_159 (lv_at hl 4 rfl) ?_
      refine lv_ishl hx hb dX8_writeOpened_161 ?_
      refine lv_ior hx hb dX8_writeOpened_162 ?_
      refine lv_topi (fun v55 ev55 => ?_)
      have h := h v55 ev55
      refine lv_istore_n (lv' := [(2, .int v55), (3, .int t0), (0, .ref (a 0)), (1, .int x1), (4, .int y4)]) hx hb dX8_writeOpened_163 rfl hl (by decide) rfl (fun ls hl => ?_)
      refine lv_aload_n hx hb dX8_writeOpened_164 rfl (lv_at hl 2 rfl) ?_
      refine lv_bipush (v := 65) hx hb dX8_writeOpened_165 (by decide) ?_
      refine lv_iload hx hb dX8_writeOpened_167 (lv_at hl 4 rfl) ?_
      refine lv_iadd hx hb dX8_writeOpened_169 ?_
      refine xw_wv (va_runV (rm := { frames := 0, cells := 0, slots := 0, locals := 0 }) (As := [.int ((65 : Int32) + y4)]) (rest := []) ⟨hx, hb, hml, hown, hts⟩ (c_X8_write l D cy a ((65 : Int32) + y4) I F G _ h A) (cwV 1 hts gX8_writeOpened_X8_write rfl rfl rfl (by decide +kernel) ⟨Nat.le_of_ble_eq_true rfl, Nat.le_of_ble_eq_true rfl⟩) (xw_preV hB hP hD (ci := 8) rfl xM_c0) rfl rfl hl.1 rfl (lv_room (Nat.le_of_ble_eq_true rfl)) dX8_writeOpened_170 ⟨Nat.le_of_ble_eq_true rfl, Nat.le_of_ble_eq_true rfl⟩) hS (fun I56 F56 G56 H locs h hP hD hS => ?_)
      refine lv_goto (tgt := 4) hx hb dX8_writeOpened_173 (by decide) ?_
      exact (hWW _ _ _).mp (el4 _ _ _ _ _ h _ _ ls hP hD hS (lv_sub hl [2, 3, 0, 1] rfl))
  have h := h k4 k15 k120 k152 rl4 rl15 rl120 rl152
  unfold bd_X8_writeOpened_0 at h
  refine lv_iconst (v := 0) hx hb dX8_writeOpened_0 (by decide) ?_
  refine lv_istore_n (lv' := [(2, .int (0 : Int32)), (0, .ref (a 0)), (1, .int x1)]) hx hb dX8_writeOpened_1 rfl hl (by decide) rfl (fun ls hl => ?_)
  refine lv_iconst (v := 1) hx hb dX8_writeOpened_2 (by decide) ?_
  refine lv_istore_n (lv' := [(3, .int (1 : Int32)), (2, .int (0 : Int32)), (0, .ref (a 0)), (1, .int x1)]) hx hb dX8_writeOpened_3 rfl hl (by decide) rfl (fun ls hl => ?_)
  exact (hWW _ _ _).mp (el4 _ _ _ _ _ h _ _ ls hP hD hS (lv_sub hl [2, 3, 1, 0] rfl))

theorem mX8_stand_1 : Cond.fieldLink RX8 16 "TagCarrierModel" "holds" "[I" ∈ wsX8_stand := List.mem_of_getElem? (i := 1) rfl
theorem mX8_stand_inX8 : ∀ w ∈ u_ws RX8 TX8 22, w ∈ wsX8_stand := by decide +kernel
theorem mX8_stand_2 : Cond.fieldLink RX8 38 "TagCarrierModel" "begins" "[I" ∈ wsX8_stand := List.mem_of_getElem? (i := 2) rfl
theorem mX8_stand_3 : Cond.fieldLink RX8 41 "TagCarrierModel" "ends" "[I" ∈ wsX8_stand := List.mem_of_getElem? (i := 3) rfl
set_option maxHeartbeats 4000000 in
set_option maxRecDepth 100000 in
theorem c_X8_stand (l : Launch) (D : va_G) (cy : Nat → ClassId) (a : Nat → Nat) (x1 : Int32) (x2 : Int32) (I : xw_I) (F : xw_F) (G : xw_G) (post : Int32 → Prop) (h : sm_X8_stand x1 x2 I F G post) : xw_Ri l yX8_stand wsX8_stand ({ frames := 2, cells := 0, slots := 0, locals := 43 }) D cy [.ref (a 0), .int x1, .int x2] (xM_w cy a I F G) post := by
  intro A
  refine Met.ofW (cc := cX8_stand) (maxL := 6) (ret := (some .int)) (by decide) rfl ?_
  intro p e s m args below meth c s₁ B hml hv
  obtain ⟨rfl, hP, hB, hD⟩ := hv
  have hP : va_P D vwCl (xM_w cy a I F G) s.heap := hP
  have hx := B.exec
  have hb := B.bytes
  have hr := B.returns
  have hts := atoms_spec (ws := wsX8_stand) B.pre
  have hown : s.vm.findClass RX8 = some m.cls := findClass_of_methodNamed B.named
  have hlocks := B.notSynchronized
  refine xw_go (fun WW hWW => ?_)
  have hl := lv_entry ([.ref (a 0), .int x1, .int x2]) (n := 6) (Nat.le_of_ble_eq_true rfl)
  rw [lg_entry_eq]
  generalize (lg_sl ([.ref (a 0), .int x1, .int x2]) ++ List.replicate (6 - (lg_sl ([.ref (a 0), .int x1, .int x2])).length) Slot.unset).toArray = ls at hl ⊢
  have hl : lv_has ls 6 [(0, .ref (a 0)), (1, .int x1), (2, .int x2)] := hl
  obtain ⟨k5, mk5, el5⟩ : ∃ K : Int32 → Int32 → Prop, (∀ (y3 : Int32) (y4 : Int32), (∀ (ls : Array Slot), lv_has ls 6 [(0, .ref (a 0)), (1, .int x1), (2, .int x2), (3, .int y3), (4, .int y4)] → WW s.heap [] (F0 m 5 ls [])) → K y3 y4) ∧ (∀ (y3 : Int32) (y4 : Int32), K y3 y4 → (∀ (ls : Array Slot), lv_has ls 6 [(0, .ref (a 0)), (1, .int x1), (2, .int x2), (3, .int y3), (4, .int y4)] → WW s.heap [] (F0 m 5 ls []))) := ⟨fun (y3 : Int32) (y4 : Int32) => (∀ (ls : Array Slot), lv_has ls 6 [(0, .ref (a 0)), (1, .int x1), (2, .int x2), (3, .int y3), (4, .int y4)] → WW s.heap [] (F0 m 5 ls [])), fun _ _ h => h, fun _ _ h => h⟩
  obtain ⟨k57, mk57, el57⟩ : ∃ K : Int32 → Int32 → Int32 → Prop, (∀ (y3 : Int32) (y4 : Int32) (t0 : Int32), (∀ (ls : Array Slot), lv_has ls 6 [(0, .ref (a 0)), (1, .int x1), (2, .int x2), (3, .int y3), (4, .int y4)] → WW s.heap [] (F0 m 57 ls [.int t0])) → K y3 y4 t0) ∧ (∀ (y3 : Int32) (y4 : Int32) (t0 : Int32), K y3 y4 t0 → (∀ (ls : Array Slot), lv_has ls 6 [(0, .ref (a 0)), (1, .int x1), (2, .int x2), (3, .int y3), (4, .int y4)] → WW s.heap [] (F0 m 57 ls [.int t0]))) := ⟨fun (y3 : Int32) (y4 : Int32) (t0 : Int32) => (∀ (ls : Array Slot), lv_has ls 6 [(0, .ref (a 0)), (1, .int x1), (2, .int x2), (3, .int y3), (4, .int y4)] → WW s.heap [] (F0 m 57 ls [.int t0])), fun _ _ _ h => h, fun _ _ _ h => h⟩
  obtain ⟨k85, mk85, el85⟩ : ∃ K : Int32 → Int32 → Int32 → Prop, (∀ (y4 : Int32) (y5 : Int32) (t0 : Int32), (∀ (ls : Array Slot), lv_has ls 6 [(0, .ref (a 0)), (1, .int x1), (2, .int x2), (4, .int y4), (5, .int y5)] → WW s.heap [] (F0 m 85 ls [.int t0])) → K y4 y5 t0) ∧ (∀ (y4 : Int32) (y5 : Int32) (t0 : Int32), K y4 y5 t0 → (∀ (ls : Array Slot), lv_has ls 6 [(0, .ref (a 0)), (1, .int x1), (2, .int x2), (4, .int y4), (5, .int y5)] → WW s.heap [] (F0 m 85 ls [.int t0]))) := ⟨fun (y4 : Int32) (y5 : Int32) (t0 : Int32) => (∀ (ls : Array Slot), lv_has ls 6 [(0, .ref (a 0)), (1, .int x1), (2, .int x2), (4, .int y4), (5, .int y5)] → WW s.heap [] (F0 m 85 ls [.int t0])), fun _ _ _ h => h, fun _ _ _ h => h⟩
  have rl5 : ∀ (y3 : Int32) (y4 : Int32), (bd_X8_stand_5 x1 x2 I F G post k5 k57 k85 y3 y4) → k5 y3 y4 := by
    intro y3 y4 h
    refine mk5 _ _ ?_
    intro ls hl
    refine (hWW _ _ _).mpr ?_
    unfold bd_X8_stand_5 at h
    refine lv_iload hx hb dX8_stand_5 (lv_at hl 4 rfl) ?_
    refine lv_iconst (v := 5) hx hb dX8_stand_7 (by decide) ?_
    refine lv_icmp_ge (tgt := 114) hx hb dX8_stand_8 (by decide) (fun c18 => ?_) (fun c18 => ?_)
    · have h := h.1 c18
      refine lv_iload_n hx hb dX8_stand_114 rfl (lv_at hl 3 rfl) ?_
      exact xw_ireti hx hb hr hlocks h dX8_stand_115
    · have h := h.2 c18
      refine lv_aload_n hx hb dX8_stand_11 rfl (lv_at hl 0 rfl) ?_
      refine lv_iload hx hb dX8_stand_12 (lv_at hl 4 rfl) ?_
      refine xw_ri (va_runV (rm := { frames := 1, cells := 0, slots := 0, locals := 22 }) (As := [.int y4]) (rest := []) ⟨hx, hb, hml, hown, hts⟩ (c_X8_isThere l D cy a y4 I F G _ h A) (cwV 1 hts gX8_stand_X8_isThere rfl rfl rfl (by decide +kernel) ⟨Nat.le_of_ble_eq_true rfl, Nat.le_of_ble_eq_true rfl⟩) (xw_preV hB hP hD (ci := 8) rfl xM_c0) rfl rfl hl.1 rfl (lv_room (Nat.le_of_ble_eq_true rfl)) dX8_stand_14 ⟨Nat.le_of_ble_eq_true rfl, Nat.le_of_ble_eq_true rfl⟩) (fun r19 h => ?_)
      refine lv_if_eq (tgt := 56) hx hb dX8_stand_17 (by decide) (fun c20 => ?_) (fun c20 => ?_)
      · have h := h.1 c20
        refine lv_iconst (v := 0) hx hb dX8_stand_56 (by decide) ?_
        exact (hWW _ _ _).mp (el57 _ _ _ h ls (lv_sub hl [0, 1, 2, 3, 4] rfl))
      · have h := h.2 c20
        refine lv_aload_n hx hb dX8_stand_20 rfl (lv_at hl 0 rfl) ?_
        refine va_get (D := D) (ci := 8) (v := .ref (a 3)) (C := RX8) (T := TX8) (N := 22) hx hb hts mX8_stand_inX8 hown hB.1 hP 0 xM_c0 rfl 3 (by decide) (hts _ mX8_stand_1) (fun _ h9 => h9) rfl dX8_stand_21 ?_
        refine lv_iload hx hb dX8_stand_24 (lv_at hl 4 rfl) ?_
        refine xw_iald hx hb hB hP 3 xM_c3 h.1 dX8_stand_26 (fun v21 ev21 => ?_)
        have h := h.2 v21 ev21
        refine lv_iload_n hx hb dX8_stand_27 rfl (lv_at hl 2 rfl) ?_
        refine lv_ishr hx hb dX8_stand_28 ?_
        refine lv_iconst (v := 1) hx hb dX8_stand_29 (by decide) ?_
        refine lv_iand hx hb dX8_stand_30 ?_
        refine lv_iconst (v := 1) hx hb dX8_stand_31 (by decide) ?_
        refine lv_icmp_ne (tgt := 56) hx hb dX8_stand_32 (by decide) (fun c22 => ?_) (fun c22 => ?_)
        · have h := h.1 c22
          refine lv_iconst (v := 0) hx hb dX8_stand_56 (by decide) ?_
          exact (hWW _ _ _).mp (el57 _ _ _ h ls (lv_sub hl [0, 1, 2, 3, 4] rfl))
        · have h := h.2 c22
          refine lv_aload_n hx hb dX8_stand_35 rfl (lv_at hl 0 rfl) ?_
          refine va_get (D := D) (ci := 8) (v := .ref (a 10)) (C := RX8) (T := TX8) (N := 22) hx hb hts mX8_stand_inX8 hown hB.1 hP 0 xM_c0 rfl 13 (by decide) (hts _ mX8_stand_2) (fun _ h9 => h9) rfl dX8_stand_36 ?_
          refine lv_iload hx hb dX8_stand_39 (lv_at hl 4 rfl) ?_
          refine xw_iald hx hb hB hP 10 xM_c10 h.1 dX8_stand_41 (fun v23 ev23 => ?_)
          have h := h.2 v23 ev23
          refine lv_aload_n hx hb dX8_stand_42 rfl (lv_at hl 0 rfl) ?_
          refine va_get (D := D) (ci := 8) (v := .ref (a 11)) (C := RX8) (T := TX8) (N := 22) hx hb hts mX8_stand_inX8 hown hB.1 hP 0 xM_c0 rfl 14 (by decide) (hts _ mX8_stand_3) (fun _ h9 => h9) rfl dX8_stand_43 ?_
          refine lv_iload hx hb dX8_stand_46 (lv_at hl 4 rfl) ?_
          refine xw_iald hx hb hB hP 11 xM_c11 h.1 dX8_stand_48 (fun v24 ev24 => ?_)
          have h := h.2 v24 ev24
          refine lv_icmp_ge (tgt := 56) hx hb dX8_stand_49 (by decide) (fun c25 => ?_) (fun c25 => ?_)
          · have h := h.1 c25
            refine lv_iconst (v := 0) hx hb dX8_stand_56 (by decide) ?_
            exact (hWW _ _ _).mp (el57 _ _ _ h ls (lv_sub hl [0, 1, 2, 3, 4] rfl))
          · have h := h.2 c25
            refine lv_iconst (v := 1) hx hb dX8_stand_52 (by decide) ?_
            refine lv_goto (tgt := 57) hx hb dX8_stand_53 (by decide) ?_
            exact (hWW _ _ _).mp (el57 _ _ _ h ls (lv_sub hl [0, 1, 2, 3, 4] rfl))
  have rl57 : ∀ (y3 : Int32) (y4 : Int32) (t0 : Int32), (bd_X8_stand_57 x1 x2 I F G post k5 k57 k85 y3 y4 t0) → k57 y3 y4 t0 := by
    intro y3 y4 t0 h
    refine mk57 _ _ _ ?_
    intro ls hl
    refine (hWW _ _ _).mpr ?_
    unfold bd_X8_stand_57 at h
    refine lv_istore (lv' := [(5, .int t0), (0, .ref (a 0)), (1, .int x1), (2, .int x2), (3, .int y3), (4, .int y4)]) hx hb dX8_stand_57 hl (by decide) rfl (fun ls hl => ?_)
    refine lv_iload hx hb dX8_stand_59 (lv_at hl 0 rfl) ?_
    refine lv_if_eq (tgt := 84) hx hb dX8_stand_61 (by decide) (fun c26 => ?_) (fun c26 => ?_)
    · have h := h.1 c26
      refine lv_iload_n hx hb dX8_stand_84 rfl (lv_at hl 4 rfl) ?_
      exact (hWW _ _ _).mp (el85 _ _ _ h ls (lv_sub hl [1, 2, 3, 5, 0] rfl))
    · have h := h.2 c26
      refine lv_aload_n hx hb dX8_stand_64 rfl (lv_at hl 1 rfl) ?_
      refine va_get (D := D) (ci := 8) (v := .ref (a 10)) (C := RX8) (T := TX8) (N := 22) hx hb hts mX8_stand_inX8 hown hB.1 hP 0 xM_c0 rfl 13 (by decide) (hts _ mX8_stand_2) (fun _ h9 => h9) rfl dX8_stand_65 ?_
      refine lv_iload hx hb dX8_stand_68 (lv_at hl 5 rfl) ?_
      refine xw_iald hx hb hB hP 10 xM_c10 h.1 dX8_stand_70 (fun v27 ev27 => ?_)
      have h := h.2 v27 ev27
      refine lv_iload_n hx hb dX8_stand_71 rfl (lv_at hl 2 rfl) ?_
      refine lv_icmp_ne (tgt := 84) hx hb dX8_stand_72 (by decide) (fun c28 => ?_) (fun c28 => ?_)
      · have h := h.1 c28
        refine lv_iload_n hx hb dX8_stand_84 rfl (lv_at hl 4 rfl) ?_
        exact (hWW _ _ _).mp (el85 _ _ _ h ls (lv_sub hl [1, 2, 3, 5, 0] rfl))
      · have h := h.2 c28
        refine lv_iload_n hx hb dX8_stand_75 rfl (lv_at hl 4 rfl) ?_
        refine lv_iconst (v := 1) hx hb dX8_stand_76 (by decide) ?_
        refine lv_icmp_ne (tgt := 84) hx hb dX8_stand_77 (by decide) (fun c29 => ?_) (fun c29 => ?_)
        · have h := h.1 c29
          refine lv_iload_n hx hb dX8_stand_84 rfl (lv_at hl 4 rfl) ?_
          exact (hWW _ _ _).mp (el85 _ _ _ h ls (lv_sub hl [1, 2, 3, 5, 0] rfl))
        · have h := h.2 c29
          refine lv_iconst (v := 2) hx hb dX8_stand_80 (by decide) ?_
          refine lv_goto (tgt := 85) hx hb dX8_stand_81 (by decide) ?_
          exact (hWW _ _ _).mp (el85 _ _ _ h ls (lv_sub hl [1, 2, 3, 5, 0] rfl))
  have rl85 : ∀ (y4 : Int32) (y5 : Int32) (t0 : Int32), (bd_X8_stand_85 x1 x2 I F G post k5 k57 k85 y4 y5 t0) → k85 y4 y5 t0 := by
    intro y4 y5 t0 h
    refine mk85 _ _ _ ?_
    intro ls hl
    refine (hWW _ _ _).mpr ?_
    unfold bd_X8_stand_85 at h
    refine lv_istore_n (lv' := [(3, .int t0), (0, .ref (a 0)), (1, .int x1), (2, .int x2), (4, .int y4), (5, .int y5)]) hx hb dX8_stand_85 rfl hl (by decide) rfl (fun ls hl => ?_)
    refine lv_iload hx hb dX8_stand_86 (lv_at hl 5 rfl) ?_
    refine lv_if_eq (tgt := 106) hx hb dX8_stand_88 (by decide) (fun c30 => ?_) (fun c30 => ?_)
    · have h := h.1 c30
      refine lv_iload_n hx hb dX8_stand_106 rfl (lv_at hl 0 rfl) ?_
      refine lv_istore_n (lv' := [(3, .int t0), (0, .ref (a 0)), (1, .int x1), (2, .int x2), (4, .int y4), (5, .int y5)]) hx hb dX8_stand_107 rfl hl (by decide) rfl (fun ls hl => ?_)
      obtain ⟨v31, ev31⟩ : ∃ y : Int32, y = y4 + 1 := ⟨_, rfl⟩
      have h := h v31 ev31
      refine lv_iinc (v := v31) (lv' := [(4, .int v31), (3, .int t0), (0, .ref (a 0)), (1, .int x1), (2, .int x2), (5, .int y5)]) hx hb dX8_stand_108 hl (k := 4) rfl (by rw [ev31]; rfl) (by decide) rfl (fun ls hl => ?_)
      refine lv_goto (tgt := 5) hx hb dX8_stand_111 (by decide) ?_
      exact (hWW _ _ _).mp (el5 _ _ h ls (lv_sub hl [2, 3, 4, 1, 0] rfl))
    · have h := h.2 c30
      refine lv_aload_n hx hb dX8_stand_91 rfl (lv_at hl 1 rfl) ?_
      refine va_get (D := D) (ci := 8) (v := .ref (a 11)) (C := RX8) (T := TX8) (N := 22) hx hb hts mX8_stand_inX8 hown hB.1 hP 0 xM_c0 rfl 14 (by decide) (hts _ mX8_stand_3) (fun _ h9 => h9) rfl dX8_stand_92 ?_
      refine lv_iload hx hb dX8_stand_95 (lv_at hl 4 rfl) ?_
      refine xw_iald hx hb hB hP 11 xM_c11 h.1 dX8_stand_97 (fun v32 ev32 => ?_)
      have h := h.2 v32 ev32
      refine lv_iload_n hx hb dX8_stand_98 rfl (lv_at hl 2 rfl) ?_
      refine lv_icmp_ne (tgt := 106) hx hb dX8_stand_99 (by decide) (fun c33 => ?_) (fun c33 => ?_)
      · have h := h.1 c33
        refine lv_iload_n hx hb dX8_stand_106 rfl (lv_at hl 0 rfl) ?_
        refine lv_istore_n (lv' := [(3, .int t0), (0, .ref (a 0)), (1, .int x1), (2, .int x2), (4, .int y4), (5, .int y5)]) hx hb dX8_stand_107 rfl hl (by decide) rfl (fun ls hl => ?_)
        obtain ⟨v34, ev34⟩ : ∃ y : Int32, y = y4 + 1 := ⟨_, rfl⟩
        have h := h v34 ev34
        refine lv_iinc (v := v34) (lv' := [(4, .int v34), (3, .int t0), (0, .ref (a 0)), (1, .int x1), (2, .int x2), (5, .int y5)]) hx hb dX8_stand_108 hl (k := 4) rfl (by rw [ev34]; rfl) (by decide) rfl (fun ls hl => ?_)
        refine lv_goto (tgt := 5) hx hb dX8_stand_111 (by decide) ?_
        exact (hWW _ _ _).mp (el5 _ _ h ls (lv_sub hl [2, 3, 4, 1, 0] rfl))
      · have h := h.2 c33
        refine lv_iconst (v := 0) hx hb dX8_stand_102 (by decide) ?_
        refine lv_goto (tgt := 107) hx hb dX8_stand_103 (by decide) ?_
        refine lv_istore_n (lv' := [(3, .int (0 : Int32)), (0, .ref (a 0)), (1, .int x1), (2, .int x2), (4, .int y4), (5, .int y5)]) hx hb dX8_stand_107 rfl hl (by decide) rfl (fun ls hl => ?_)
        obtain ⟨v35, ev35⟩ : ∃ y : Int32, y = y4 + 1 := ⟨_, rfl⟩
        have h := h v35 ev35
        refine lv_iinc (v := v35) (lv' := [(4, .int v35), (3, .int (0 : Int32)), (0, .ref (a 0)), (1, .int x1), (2, .int x2), (5, .int y5)]) hx hb dX8_stand_108 hl (k := 4) rfl (by rw [ev35]; rfl) (by decide) rfl (fun ls hl => ?_)
        refine lv_goto (tgt := 5) hx hb dX8_stand_111 (by decide) ?_
        exact (hWW _ _ _).mp (el5 _ _ h ls (lv_sub hl [2, 3, 4, 1, 0] rfl))
  have h := h k5 k57 k85 rl5 rl57 rl85
  unfold bd_X8_stand_0 at h
  refine lv_iconst (v := 1) hx hb dX8_stand_0 (by decide) ?_
  refine lv_istore_n (lv' := [(3, .int (1 : Int32)), (0, .ref (a 0)), (1, .int x1), (2, .int x2)]) hx hb dX8_stand_1 rfl hl (by decide) rfl (fun ls hl => ?_)
  refine lv_iconst (v := 0) hx hb dX8_stand_2 (by decide) ?_
  refine lv_istore (lv' := [(4, .int (0 : Int32)), (3, .int (1 : Int32)), (0, .ref (a 0)), (1, .int x1), (2, .int x2)]) hx hb dX8_stand_3 hl (by decide) rfl (fun ls hl => ?_)
  exact (hWW _ _ _).mp (el5 _ _ h ls (lv_sub hl [2, 3, 4, 1, 0] rfl))

theorem mX8_writeEmpty_1 : Cond.fieldLink RX8 38 "TagCarrierModel" "begins" "[I" ∈ wsX8_writeEmpty := List.mem_of_getElem? (i := 1) rfl
theorem mX8_writeEmpty_inX8 : ∀ w ∈ u_ws RX8 TX8 22, w ∈ wsX8_writeEmpty := by decide +kernel
theorem mX8_writeEmpty_2 : Cond.fieldLink RX8 41 "TagCarrierModel" "ends" "[I" ∈ wsX8_writeEmpty := List.mem_of_getElem? (i := 2) rfl
set_option maxHeartbeats 4000000 in
set_option maxRecDepth 100000 in
theorem c_X8_writeEmpty (l : Launch) (D : va_G) (cy : Nat → ClassId) (a : Nat → Nat) (x1 : Int32) (x2 : Int32) (I : xw_I) (F : xw_F) (G : xw_G) (post : xw_I → xw_F → xw_G → Prop) (h : sm_X8_writeEmpty x1 x2 I F G post) : xw_Wv l yX8_writeEmpty wsX8_writeEmpty ({ frames := 3, cells := 0, slots := 0, locals := 68 }) D cy [.ref (a 0), .int x1, .int x2] (xM_w cy a I F G) (xM_w cy a) post := by
  intro A
  refine Met.ofW (cc := cX8_writeEmpty) (maxL := 4) (ret := none) (by decide) rfl ?_
  intro p e s m args below meth c s₁ B hml hv
  obtain ⟨rfl, hP, hB, hD⟩ := hv
  have hP : va_P D vwCl (xM_w cy a I F G) s.heap := hP
  have hx := B.exec
  have hb := B.bytes
  have hr := B.returns
  have hts := atoms_spec (ws := wsX8_writeEmpty) B.pre
  have hown : s.vm.findClass RX8 = some m.cls := findClass_of_methodNamed B.named
  have hlocks := B.notSynchronized
  have hS : va_S A s.heap s.heap [] := va_S.rf
  refine xw_go (fun WW hWW => ?_)
  have hl := lv_entry ([.ref (a 0), .int x1, .int x2]) (n := 4) (Nat.le_of_ble_eq_true rfl)
  rw [lg_entry_eq]
  generalize (lg_sl ([.ref (a 0), .int x1, .int x2]) ++ List.replicate (4 - (lg_sl ([.ref (a 0), .int x1, .int x2])).length) Slot.unset).toArray = ls at hl ⊢
  have hl : lv_has ls 4 [(0, .ref (a 0)), (1, .int x1), (2, .int x2)] := hl
  obtain ⟨k2, mk2, el2⟩ : ∃ K : Int32 → xw_I → xw_F → xw_G → Prop, (∀ (y3 : Int32) (I : xw_I) (F : xw_F) (G : xw_G), (∀ (H : Heap) (locs : List Loc) (ls : Array Slot), va_P D vwCl (xM_w cy a I F G) H → va_D A (xM_w cy a I F G) → va_S A s.heap H locs → lv_has ls 4 [(0, .ref (a 0)), (1, .int x1), (2, .int x2), (3, .int y3)] → WW H locs (F0 m 2 ls [])) → K y3 I F G) ∧ (∀ (y3 : Int32) (I : xw_I) (F : xw_F) (G : xw_G), K y3 I F G → (∀ (H : Heap) (locs : List Loc) (ls : Array Slot), va_P D vwCl (xM_w cy a I F G) H → va_D A (xM_w cy a I F G) → va_S A s.heap H locs → lv_has ls 4 [(0, .ref (a 0)), (1, .int x1), (2, .int x2), (3, .int y3)] → WW H locs (F0 m 2 ls []))) := ⟨fun (y3 : Int32) (I : xw_I) (F : xw_F) (G : xw_G) => (∀ (H : Heap) (locs : List Loc) (ls : Array Slot), va_P D vwCl (xM_w cy a I F G) H → va_D A (xM_w cy a I F G) → va_S A s.heap H locs → lv_has ls 4 [(0, .ref (a 0)), (1, .int x1), (2, .int x2), (3, .int y3)] → WW H locs (F0 m 2 ls [])), fun _ _ _ _ h => h, fun _ _ _ _ h => h⟩
  have rl2 : ∀ (y3 : Int32) (I : xw_I) (F : xw_F) (G : xw_G), (bd_X8_writeEmpty_2 x1 x2 post k2 y3 I F G) → k2 y3 I F G := by
    intro y3 I F G h
    refine mk2 _ _ _ _ ?_
    intro H locs ls hP hD hS hl
    refine (hWW _ _ _).mpr ?_
    unfold bd_X8_writeEmpty_2 at h
    refine lv_iload_n hx hb dX8_writeEmpty_2 rfl (lv_at hl 3 rfl) ?_
    refine lv_iconst (v := 5) hx hb dX8_writeEmpty_3 (by decide) ?_
    refine lv_icmp_ge (tgt := 67) hx hb dX8_writeEmpty_4 (by decide) (fun c13 => ?_) (fun c13 => ?_)
    · have h := h.1 c13
      exact xw_wretv hx hb hr hlocks hP hD hS h dX8_writeEmpty_67
    · have h := h.2 c13
      refine lv_aload_n hx hb dX8_writeEmpty_7 rfl (lv_at hl 0 rfl) ?_
      refine lv_iload_n hx hb dX8_writeEmpty_8 rfl (lv_at hl 3 rfl) ?_
      refine xw_ri (va_runV (rm := { frames := 1, cells := 0, slots := 0, locals := 22 }) (As := [.int y3]) (rest := []) ⟨hx, hb, hml, hown, hts⟩ (c_X8_isThere l D cy a y3 I F G _ h A) (cwV 1 hts gX8_writeEmpty_X8_isThere rfl rfl rfl (by decide +kernel) ⟨Nat.le_of_ble_eq_true rfl, Nat.le_of_ble_eq_true rfl⟩) (xw_preV hB hP hD (ci := 8) rfl xM_c0) rfl rfl hl.1 rfl (lv_room (Nat.le_of_ble_eq_true rfl)) dX8_writeEmpty_9 ⟨Nat.le_of_ble_eq_true rfl, Nat.le_of_ble_eq_true rfl⟩) (fun r14 h => ?_)
      refine lv_if_eq (tgt := 61) hx hb dX8_writeEmpty_12 (by decide) (fun c15 => ?_) (fun c15 => ?_)
      · have h := h.1 c15
        obtain ⟨v16, ev16⟩ : ∃ y : Int32, y = y3 + 1 := ⟨_, rfl⟩
        have h := h v16 ev16
        refine lv_iinc (v := v16) (lv' := [(3, .int v16), (0, .ref (a 0)), (1, .int x1), (2, .int x2)]) hx hb dX8_writeEmpty_61 hl (k := 3) rfl (by rw [ev16]; rfl) (by decide) rfl (fun ls hl => ?_)
        refine lv_goto (tgt := 2) hx hb dX8_writeEmpty_64 (by decide) ?_
        exact (hWW _ _ _).mp (el2 _ _ _ _ h _ _ ls hP hD hS (lv_sub hl [1, 2, 3, 0] rfl))
      · have h := h.2 c15
        refine lv_aload_n hx hb dX8_writeEmpty_15 rfl (lv_at hl 0 rfl) ?_
        refine va_get (D := D) (ci := 8) (v := .ref (a 10)) (C := RX8) (T := TX8) (N := 22) hx hb hts mX8_writeEmpty_inX8 hown hB.1 hP 0 xM_c0 rfl 13 (by decide) (hts _ mX8_writeEmpty_1) (fun _ h9 => h9) rfl dX8_writeEmpty_16 ?_
        refine lv_iload_n hx hb dX8_writeEmpty_19 rfl (lv_at hl 3 rfl) ?_
        refine xw_iald hx hb hB hP 10 xM_c10 h.1 dX8_writeEmpty_20 (fun v17 ev17 => ?_)
        have h := h.2 v17 ev17
        refine lv_iload_n hx hb dX8_writeEmpty_21 rfl (lv_at hl 1 rfl) ?_
        refine lv_icmp_ne (tgt := 61) hx hb dX8_writeEmpty_22 (by decide) (fun c18 => ?_) (fun c18 => ?_)
        · have h := h.1 c18
          obtain ⟨v19, ev19⟩ : ∃ y : Int32, y = y3 + 1 := ⟨_, rfl⟩
          have h := h v19 ev19
          refine lv_iinc (v := v19) (lv' := [(3, .int v19), (0, .ref (a 0)), (1, .int x1), (2, .int x2)]) hx hb dX8_writeEmpty_61 hl (k := 3) rfl (by rw [ev19]; rfl) (by decide) rfl (fun ls hl => ?_)
          refine lv_goto (tgt := 2) hx hb dX8_writeEmpty_64 (by decide) ?_
          exact (hWW _ _ _).mp (el2 _ _ _ _ h _ _ ls hP hD hS (lv_sub hl [1, 2, 3, 0] rfl))
        · have h := h.2 c18
          refine lv_aload_n hx hb dX8_writeEmpty_25 rfl (lv_at hl 0 rfl) ?_
          refine va_get (D := D) (ci := 8) (v := .ref (a 11)) (C := RX8) (T := TX8) (N := 22) hx hb hts mX8_writeEmpty_inX8 hown hB.1 hP 0 xM_c0 rfl 14 (by decide) (hts _ mX8_writeEmpty_2) (fun _ h9 => h9) rfl dX8_writeEmpty_26 ?_
          refine lv_iload_n hx hb dX8_writeEmpty_29 rfl (lv_at hl 3 rfl) ?_
          refine xw_iald hx hb hB hP 11 xM_c11 h.1 dX8_writeEmpty_30 (fun v20 ev20 => ?_)
          have h := h.2 v20 ev20
          refine lv_iload_n hx hb dX8_writeEmpty_31 rfl (lv_at hl 1 rfl) ?_
          refine lv_icmp_ne (tgt := 61) hx hb dX8_writeEmpty_32 (by decide) (fun c21 => ?_) (fun c21 => ?_)
          · have h := h.1 c21
            obtain ⟨v22, ev22⟩ : ∃ y : Int32, y = y3 + 1 := ⟨_, rfl⟩
            have h := h v22 ev22
            refine lv_iinc (v := v22) (lv' := [(3, .int v22), (0, .ref (a 0)), (1, .int x1), (2, .int x2)]) hx hb dX8_writeEmpty_61 hl (k := 3) rfl (by rw [ev22]; rfl) (by decide) rfl (fun ls hl => ?_)
            refine lv_goto (tgt := 2) hx hb dX8_writeEmpty_64 (by decide) ?_
            exact (hWW _ _ _).mp (el2 _ _ _ _ h _ _ ls hP hD hS (lv_sub hl [1, 2, 3, 0] rfl))
          · have h := h.2 c21
            refine lv_aload_n hx hb dX8_writeEmpty_35 rfl (lv_at hl 0 rfl) ?_
            refine lv_iload_n hx hb dX8_writeEmpty_36 rfl (lv_at hl 1 rfl) ?_
            refine lv_iload_n hx hb dX8_writeEmpty_37 rfl (lv_at hl 3 rfl) ?_
            refine xw_ri (va_runV (rm := { frames := 2, cells := 0, slots := 0, locals := 43 }) (As := [.int x1, .int y3]) (rest := []) ⟨hx, hb, hml, hown, hts⟩ (c_X8_stand l D cy a x1 y3 I F G _ h A) (cwV 2 hts gX8_writeEmpty_X8_stand rfl rfl rfl (by decide +kernel) ⟨Nat.le_of_ble_eq_true rfl, Nat.le_of_ble_eq_true rfl⟩) (xw_preV hB hP hD (ci := 8) rfl xM_c0) rfl rfl hl.1 rfl (lv_room (Nat.le_of_ble_eq_true rfl)) dX8_writeEmpty_38 ⟨Nat.le_of_ble_eq_true rfl, Nat.le_of_ble_eq_true rfl⟩) (fun r23 h => ?_)
            refine lv_iload_n hx hb dX8_writeEmpty_41 rfl (lv_at hl 2 rfl) ?_
            refine lv_icmp_ne (tgt := 61) hx hb dX8_writeEmpty_42 (by decide) (fun c24 => ?_) (fun c24 => ?_)
            · have h := h.1 c24
              obtain ⟨v25, ev25⟩ : ∃ y : Int32, y = y3 + 1 := ⟨_, rfl⟩
              have h := h v25 ev25
              refine lv_iinc (v := v25) (lv' := [(3, .int v25), (0, .ref (a 0)), (1, .int x1), (2, .int x2)]) hx hb dX8_writeEmpty_61 hl (k := 3) rfl (by rw [ev25]; rfl) (by decide) rfl (fun ls hl => ?_)
              refine lv_goto (tgt := 2) hx hb dX8_writeEmpty_64 (by decide) ?_
              exact (hWW _ _ _).mp (el2 _ _ _ _ h _ _ ls hP hD hS (lv_sub hl [1, 2, 3, 0] rfl))
            · have h := h.2 c24
              refine lv_aload_n hx hb dX8_writeEmpty_45 rfl (lv_at hl 0 rfl) ?_
              refine lv_bipush (v := 65) hx hb dX8_writeEmpty_46 (by decide) ?_
              refine lv_iload_n hx hb dX8_writeEmpty_48 rfl (lv_at hl 3 rfl) ?_
              refine lv_iadd hx hb dX8_writeEmpty_49 ?_
              refine xw_wv (va_runV (rm := { frames := 0, cells := 0, slots := 0, locals := 0 }) (As := [.int ((65 : Int32) + y3)]) (rest := []) ⟨hx, hb, hml, hown, hts⟩ (c_X8_write l D cy a ((65 : Int32) + y3) I F G _ h A) (cwV 1 hts gX8_writeEmpty_X8_write rfl rfl rfl (by decide +kernel) ⟨Nat.le_of_ble_eq_true rfl, Nat.le_of_ble_eq_true rfl⟩) (xw_preV hB hP hD (ci := 8) rfl xM_c0) rfl rfl hl.1 rfl (lv_room (Nat.le_of_ble_eq_true rfl)) dX8_writeEmpty_50 ⟨Nat.le_of_ble_eq_true rfl, Nat.le_of_ble_eq_true rfl⟩) hS (fun I26 F26 G26 H locs h hP hD hS => ?_)
              refine lv_aload_n hx hb dX8_writeEmpty_53 rfl (lv_at hl 0 rfl) ?_
              refine lv_bipush (v := 97) hx hb dX8_writeEmpty_54 (by decide) ?_
              refine lv_iload_n hx hb dX8_writeEmpty_56 rfl (lv_at hl 3 rfl) ?_
              refine lv_iadd hx hb dX8_writeEmpty_57 ?_
              refine xw_wv (va_runV (rm := { frames := 0, cells := 0, slots := 0, locals := 0 }) (As := [.int ((97 : Int32) + y3)]) (rest := []) ⟨hx, hb, hml, hown, hts⟩ (c_X8_write l D cy a ((97 : Int32) + y3) I26 F26 G26 _ h A) (cwV 1 hts gX8_writeEmpty_X8_write rfl rfl rfl (by decide +kernel) ⟨Nat.le_of_ble_eq_true rfl, Nat.le_of_ble_eq_true rfl⟩) (xw_preV hB hP hD (ci := 8) rfl xM_c0) rfl rfl hl.1 rfl (lv_room (Nat.le_of_ble_eq_true rfl)) dX8_writeEmpty_58 ⟨Nat.le_of_ble_eq_true rfl, Nat.le_of_ble_eq_true rfl⟩) hS (fun I27 F27 G27 H locs h hP hD hS => ?_)
              obtain ⟨v28, ev28⟩ : ∃ y : Int32, y = y3 + 1 := ⟨_, rfl⟩
              have h := h v28 ev28
              refine lv_iinc (v := v28) (lv' := [(3, .int v28), (0, .ref (a 0)), (1, .int x1), (2, .int x2)]) hx hb dX8_writeEmpty_61 hl (k := 3) rfl (by rw [ev28]; rfl) (by decide) rfl (fun ls hl => ?_)
              refine lv_goto (tgt := 2) hx hb dX8_writeEmpty_64 (by decide) ?_
              exact (hWW _ _ _).mp (el2 _ _ _ _ h _ _ ls hP hD hS (lv_sub hl [1, 2, 3, 0] rfl))
  have h := h k2 rl2
  unfold bd_X8_writeEmpty_0 at h
  refine lv_iconst (v := 0) hx hb dX8_writeEmpty_0 (by decide) ?_
  refine lv_istore_n (lv' := [(3, .int (0 : Int32)), (0, .ref (a 0)), (1, .int x1), (2, .int x2)]) hx hb dX8_writeEmpty_1 rfl hl (by decide) rfl (fun ls hl => ?_)
  exact (hWW _ _ _).mp (el2 _ _ _ _ h _ _ ls hP hD hS (lv_sub hl [1, 2, 3, 0] rfl))

theorem mX8_sign_1 : Cond.fieldLink RX8 159 "TagCarrierModel" "long1" "I" ∈ wsX8_sign := List.mem_of_getElem? (i := 1) rfl
theorem mX8_sign_inX8 : ∀ w ∈ u_ws RX8 TX8 22, w ∈ wsX8_sign := by decide +kernel
theorem mX8_sign_2 : Cond.fieldLink RX8 78 "TagCarrierModel" "target" "I" ∈ wsX8_sign := List.mem_of_getElem? (i := 2) rfl
theorem mX8_sign_6 : Cond.fieldLink RX8 47 "TagCarrierModel" "text" "[I" ∈ wsX8_sign := List.mem_of_getElem? (i := 6) rfl
theorem mX8_sign_3 : Cond.fieldLink RX8 72 "TagCarrierModel" "marks" "I" ∈ wsX8_sign := List.mem_of_getElem? (i := 3) rfl
theorem mX8_sign_4 : Cond.fieldLink RX8 44 "TagCarrierModel" "markAt" "[I" ∈ wsX8_sign := List.mem_of_getElem? (i := 4) rfl
theorem mX8_sign_5 : Cond.fieldLink RX8 22 "TagCarrierModel" "order" "[I" ∈ wsX8_sign := List.mem_of_getElem? (i := 5) rfl
set_option maxHeartbeats 4000000 in
set_option maxRecDepth 100000 in
theorem c_X8_sign (l : Launch) (D : va_G) (cy : Nat → ClassId) (a : Nat → Nat) (x1 : Int32) (I : xw_I) (F : xw_F) (G : xw_G) (post : Int32 → xw_I → xw_F → xw_G → Prop) (h : sm_X8_sign x1 I F G post) : xw_Wi l yX8_sign wsX8_sign ({ frames := 6, cells := 0, slots := 0, locals := 151 }) D cy [.ref (a 0), .int x1] (xM_w cy a I F G) (xM_w cy a) post := by
  intro A
  refine Met.ofW (cc := cX8_sign) (maxL := 4) (ret := (some .int)) (by decide) rfl ?_
  intro p e s m args below meth c s₁ B hml hv
  obtain ⟨rfl, hP, hB, hD⟩ := hv
  have hP : va_P D vwCl (xM_w cy a I F G) s.heap := hP
  have hx := B.exec
  have hb := B.bytes
  have hr := B.returns
  have hts := atoms_spec (ws := wsX8_sign) B.pre
  have hown : s.vm.findClass RX8 = some m.cls := findClass_of_methodNamed B.named
  have hlocks := B.notSynchronized
  have hS : va_S A s.heap s.heap [] := va_S.rf
  refine xw_go (fun WW hWW => ?_)
  have hl := lv_entry ([.ref (a 0), .int x1]) (n := 4) (Nat.le_of_ble_eq_true rfl)
  rw [lg_entry_eq]
  generalize (lg_sl ([.ref (a 0), .int x1]) ++ List.replicate (4 - (lg_sl ([.ref (a 0), .int x1])).length) Slot.unset).toArray = ls at hl ⊢
  have hl : lv_has ls 4 [(0, .ref (a 0)), (1, .int x1)] := hl
  obtain ⟨k11, mk11, el11⟩ : ∃ K : Int32 → xw_I → xw_F → xw_G → Prop, (∀ (y2 : Int32) (I : xw_I) (F : xw_F) (G : xw_G), (∀ (H : Heap) (locs : List Loc) (ls : Array Slot), va_P D vwCl (xM_w cy a I F G) H → va_D A (xM_w cy a I F G) → va_S A s.heap H locs → lv_has ls 4 [(0, .ref (a 0)), (1, .int x1), (2, .int y2)] → WW H locs (F0 m 11 ls [])) → K y2 I F G) ∧ (∀ (y2 : Int32) (I : xw_I) (F : xw_F) (G : xw_G), K y2 I F G → (∀ (H : Heap) (locs : List Loc) (ls : Array Slot), va_P D vwCl (xM_w cy a I F G) H → va_D A (xM_w cy a I F G) → va_S A s.heap H locs → lv_has ls 4 [(0, .ref (a 0)), (1, .int x1), (2, .int y2)] → WW H locs (F0 m 11 ls []))) := ⟨fun (y2 : Int32) (I : xw_I) (F : xw_F) (G : xw_G) => (∀ (H : Heap) (locs : List Loc) (ls : Array Slot), va_P D vwCl (xM_w cy a I F G) H → va_D A (xM_w cy a I F G) → va_S A s.heap H locs → lv_has ls 4 [(0, .ref (a 0)), (1, .int x1), (2, .int y2)] → WW H locs (F0 m 11 ls [])), fun _ _ _ _ h => h, fun _ _ _ _ h => h⟩
  obtain ⟨k32, mk32, el32⟩ : ∃ K : Int32 → Int32 → xw_I → xw_F → xw_G → Prop, (∀ (y2 : Int32) (y3 : Int32) (I : xw_I) (F : xw_F) (G : xw_G), (∀ (H : Heap) (locs : List Loc) (ls : Array Slot), va_P D vwCl (xM_w cy a I F G) H → va_D A (xM_w cy a I F G) → va_S A s.heap H locs → lv_has ls 4 [(0, .ref (a 0)), (1, .int x1), (2, .int y2), (3, .int y3)] → WW H locs (F0 m 32 ls [])) → K y2 y3 I F G) ∧ (∀ (y2 : Int32) (y3 : Int32) (I : xw_I) (F : xw_F) (G : xw_G), K y2 y3 I F G → (∀ (H : Heap) (locs : List Loc) (ls : Array Slot), va_P D vwCl (xM_w cy a I F G) H → va_D A (xM_w cy a I F G) → va_S A s.heap H locs → lv_has ls 4 [(0, .ref (a 0)), (1, .int x1), (2, .int y2), (3, .int y3)] → WW H locs (F0 m 32 ls []))) := ⟨fun (y2 : Int32) (y3 : Int32) (I : xw_I) (F : xw_F) (G : xw_G) => (∀ (H : Heap) (locs : List Loc) (ls : Array Slot), va_P D vwCl (xM_w cy a I F G) H → va_D A (xM_w cy a I F G) → va_S A s.heap H locs → lv_has ls 4 [(0, .ref (a 0)), (1, .int x1), (2, .int y2), (3, .int y3)] → WW H locs (F0 m 32 ls [])), fun _ _ _ _ _ h => h, fun _ _ _ _ _ h => h⟩
  have rl11 : ∀ (y2 : Int32) (I : xw_I) (F : xw_F) (G : xw_G), (bd_X8_sign_11 x1 post k11 k32 y2 I F G) → k11 y2 I F G := by
    intro y2 I F G h
    refine mk11 _ _ _ _ ?_
    intro H locs ls hP hD hS hl
    refine (hWW _ _ _).mpr ?_
    unfold bd_X8_sign_11 at h
    refine lv_iload_n hx hb dX8_sign_11 rfl (lv_at hl 2 rfl) ?_
    refine lv_aload_n hx hb dX8_sign_12 rfl (lv_at hl 0 rfl) ?_
    refine va_get (D := D) (ci := 8) (v := .int (I 2)) (C := RX8) (T := TX8) (N := 22) hx hb hts mX8_sign_inX8 hown hB.1 hP 0 xM_c0 rfl 7 (by decide) (hts _ mX8_sign_2) (fun _ h9 => h9) rfl dX8_sign_13 ?_
    refine lv_icmp_gt (tgt := 111) hx hb dX8_sign_16 (by decide) (fun c17 => ?_) (fun c17 => ?_)
    · have h := h.1 c17
      refine lv_iload_n hx hb dX8_sign_111 rfl (lv_at hl 1 rfl) ?_
      refine lv_iconst (v := -1) hx hb dX8_sign_112 (by decide) ?_
      refine lv_icmp_ne (tgt := 123) hx hb dX8_sign_113 (by decide) (fun c18 => ?_) (fun c18 => ?_)
      · have h := h.1 c18
        refine lv_iload_n hx hb dX8_sign_123 rfl (lv_at hl 1 rfl) ?_
        refine lv_iconst (v := 0) hx hb dX8_sign_124 (by decide) ?_
        refine lv_aload_n hx hb dX8_sign_125 rfl (lv_at hl 0 rfl) ?_
        refine va_get (D := D) (ci := 8) (v := .int (I 5)) (C := RX8) (T := TX8) (N := 22) hx hb hts mX8_sign_inX8 hown hB.1 hP 0 xM_c0 rfl 19 (by decide) (hts _ mX8_sign_1) (fun _ h9 => h9) rfl dX8_sign_126 ?_
        refine lv_iconst (v := 1) hx hb dX8_sign_129 (by decide) ?_
        refine lv_isub hx hb dX8_sign_130 ?_
        refine xw_ri (va_runS (rm := { frames := 0, cells := 0, slots := 0, locals := 0 }) (As := [.int x1, .int (0 : Int32), .int ((I 5) - (1 : Int32))]) (rest := []) ⟨hx, hb, hml, hown, hts⟩ (c_X8_in l D cy x1 (0 : Int32) ((I 5) - (1 : Int32)) _ h (fun _ => True)) (va_cwS 3 hts gX8_sign_X8_in rfl rfl rfl (by decide +kernel) ⟨Nat.le_of_ble_eq_true rfl, Nat.le_of_ble_eq_true rfl⟩) (xw_preS hB xw_P0 (xw_D0 (A := fun _ => True))) rfl rfl hl.1 rfl (lv_room (Nat.le_of_ble_eq_true rfl)) dX8_sign_131 ⟨Nat.le_of_ble_eq_true rfl, Nat.le_of_ble_eq_true rfl⟩) (fun r19 h => ?_)
        refine lv_if_eq (tgt := 146) hx hb dX8_sign_134 (by decide) (fun c20 => ?_) (fun c20 => ?_)
        · have h := h.1 c20
          refine lv_bipush (v := -6) hx hb dX8_sign_146 (by decide) ?_
          exact xw_wreti hx hb hr hlocks hP hD hS h dX8_sign_148
        · have h := h.2 c20
          refine lv_aload_n hx hb dX8_sign_137 rfl (lv_at hl 0 rfl) ?_
          refine va_get (D := D) (ci := 8) (v := .ref (a 13)) (C := RX8) (T := TX8) (N := 22) hx hb hts mX8_sign_inX8 hown hB.1 hP 0 xM_c0 rfl 18 (by decide) (hts _ mX8_sign_6) (fun _ h9 => h9) rfl dX8_sign_138 ?_
          refine lv_iload_n hx hb dX8_sign_141 rfl (lv_at hl 1 rfl) ?_
          refine xw_iald hx hb hB hP 13 xM_c13 h.1 dX8_sign_142 (fun v21 ev21 => ?_)
          have h := h.2 v21 ev21
          refine lv_goto (tgt := 148) hx hb dX8_sign_143 (by decide) ?_
          exact xw_wreti hx hb hr hlocks hP hD hS h dX8_sign_148
      · have h := h.2 c18
        refine lv_aload_n hx hb dX8_sign_116 rfl (lv_at hl 0 rfl) ?_
        refine va_get (D := D) (ci := 8) (v := .int (I 5)) (C := RX8) (T := TX8) (N := 22) hx hb hts mX8_sign_inX8 hown hB.1 hP 0 xM_c0 rfl 19 (by decide) (hts _ mX8_sign_1) (fun _ h9 => h9) rfl dX8_sign_117 ?_
        refine lv_goto (tgt := 148) hx hb dX8_sign_120 (by decide) ?_
        exact xw_wreti hx hb hr hlocks hP hD hS h dX8_sign_148
    · have h := h.2 c17
      refine lv_aload_n hx hb dX8_sign_19 rfl (lv_at hl 0 rfl) ?_
      refine lv_iload_n hx hb dX8_sign_20 rfl (lv_at hl 2 rfl) ?_
      refine lv_iconst (v := 0) hx hb dX8_sign_21 (by decide) ?_
      refine xw_wv (va_runV (rm := { frames := 3, cells := 0, slots := 0, locals := 68 }) (As := [.int y2, .int (0 : Int32)]) (rest := []) ⟨hx, hb, hml, hown, hts⟩ (c_X8_writeEmpty l D cy a y2 (0 : Int32) I F G _ h A) (cwV 2 hts gX8_sign_X8_writeEmpty rfl rfl rfl (by decide +kernel) ⟨Nat.le_of_ble_eq_true rfl, Nat.le_of_ble_eq_true rfl⟩) (xw_preV hB hP hD (ci := 8) rfl xM_c0) rfl rfl hl.1 rfl (lv_room (Nat.le_of_ble_eq_true rfl)) dX8_sign_22 ⟨Nat.le_of_ble_eq_true rfl, Nat.le_of_ble_eq_true rfl⟩) hS (fun I22 F22 G22 H locs h hP hD hS => ?_)
      refine lv_aload_n hx hb dX8_sign_25 rfl (lv_at hl 0 rfl) ?_
      refine lv_iload_n hx hb dX8_sign_26 rfl (lv_at hl 2 rfl) ?_
      refine xw_wv (va_runV (rm := { frames := 3, cells := 0, slots := 0, locals := 66 }) (As := [.int y2]) (rest := []) ⟨hx, hb, hml, hown, hts⟩ (c_X8_writeClosed l D cy a y2 I22 F22 G22 _ h A) (cwV 1 hts gX8_sign_X8_writeClosed rfl rfl rfl (by decide +kernel) ⟨Nat.le_of_ble_eq_true rfl, Nat.le_of_ble_eq_true rfl⟩) (xw_preV hB hP hD (ci := 8) rfl xM_c0) rfl rfl hl.1 rfl (lv_room (Nat.le_of_ble_eq_true rfl)) dX8_sign_27 ⟨Nat.le_of_ble_eq_true rfl, Nat.le_of_ble_eq_true rfl⟩) hS (fun I23 F23 G23 H locs h hP hD hS => ?_)
      refine lv_iconst (v := 0) hx hb dX8_sign_30 (by decide) ?_
      refine lv_istore_n (lv' := [(3, .int (0 : Int32)), (0, .ref (a 0)), (1, .int x1), (2, .int y2)]) hx hb dX8_sign_31 rfl hl (by decide) rfl (fun ls hl => ?_)
      exact (hWW _ _ _).mp (el32 _ _ _ _ _ h _ _ ls hP hD hS (lv_sub hl [1, 2, 3, 0] rfl))
  have rl32 : ∀ (y2 : Int32) (y3 : Int32) (I : xw_I) (F : xw_F) (G : xw_G), (bd_X8_sign_32 x1 post k11 k32 y2 y3 I F G) → k32 y2 y3 I F G := by
    intro y2 y3 I F G h
    refine mk32 _ _ _ _ _ ?_
    intro H locs ls hP hD hS hl
    refine (hWW _ _ _).mpr ?_
    unfold bd_X8_sign_32 at h
    refine lv_iload_n hx hb dX8_sign_32 rfl (lv_at hl 3 rfl) ?_
    refine lv_aload_n hx hb dX8_sign_33 rfl (lv_at hl 0 rfl) ?_
    refine va_get (D := D) (ci := 8) (v := .int (I 1)) (C := RX8) (T := TX8) (N := 22) hx hb hts mX8_sign_inX8 hown hB.1 hP 0 xM_c0 rfl 6 (by decide) (hts _ mX8_sign_3) (fun _ h9 => h9) rfl dX8_sign_34 ?_
    refine lv_icmp_ge (tgt := 74) hx hb dX8_sign_37 (by decide) (fun c24 => ?_) (fun c24 => ?_)
    · have h := h.1 c24
      refine lv_aload_n hx hb dX8_sign_74 rfl (lv_at hl 0 rfl) ?_
      refine lv_iload_n hx hb dX8_sign_75 rfl (lv_at hl 2 rfl) ?_
      refine lv_iconst (v := 1) hx hb dX8_sign_76 (by decide) ?_
      refine xw_wv (va_runV (rm := { frames := 3, cells := 0, slots := 0, locals := 68 }) (As := [.int y2, .int (1 : Int32)]) (rest := []) ⟨hx, hb, hml, hown, hts⟩ (c_X8_writeEmpty l D cy a y2 (1 : Int32) I F G _ h A) (cwV 2 hts gX8_sign_X8_writeEmpty rfl rfl rfl (by decide +kernel) ⟨Nat.le_of_ble_eq_true rfl, Nat.le_of_ble_eq_true rfl⟩) (xw_preV hB hP hD (ci := 8) rfl xM_c0) rfl rfl hl.1 rfl (lv_room (Nat.le_of_ble_eq_true rfl)) dX8_sign_77 ⟨Nat.le_of_ble_eq_true rfl, Nat.le_of_ble_eq_true rfl⟩) hS (fun I25 F25 G25 H locs h hP hD hS => ?_)
      refine lv_aload_n hx hb dX8_sign_80 rfl (lv_at hl 0 rfl) ?_
      refine lv_iload_n hx hb dX8_sign_81 rfl (lv_at hl 2 rfl) ?_
      refine xw_wv (va_runV (rm := { frames := 3, cells := 0, slots := 0, locals := 66 }) (As := [.int y2]) (rest := []) ⟨hx, hb, hml, hown, hts⟩ (c_X8_writeOpened l D cy a y2 I25 F25 G25 _ h A) (cwV 1 hts gX8_sign_X8_writeOpened rfl rfl rfl (by decide +kernel) ⟨Nat.le_of_ble_eq_true rfl, Nat.le_of_ble_eq_true rfl⟩) (xw_preV hB hP hD (ci := 8) rfl xM_c0) rfl rfl hl.1 rfl (lv_room (Nat.le_of_ble_eq_true rfl)) dX8_sign_82 ⟨Nat.le_of_ble_eq_true rfl, Nat.le_of_ble_eq_true rfl⟩) hS (fun I26 F26 G26 H locs h hP hD hS => ?_)
      refine lv_aload_n hx hb dX8_sign_85 rfl (lv_at hl 0 rfl) ?_
      refine lv_iload_n hx hb dX8_sign_86 rfl (lv_at hl 2 rfl) ?_
      refine lv_iconst (v := 2) hx hb dX8_sign_87 (by decide) ?_
      refine xw_wv (va_runV (rm := { frames := 3, cells := 0, slots := 0, locals := 68 }) (As := [.int y2, .int (2 : Int32)]) (rest := []) ⟨hx, hb, hml, hown, hts⟩ (c_X8_writeEmpty l D cy a y2 (2 : Int32) I26 F26 G26 _ h A) (cwV 2 hts gX8_sign_X8_writeEmpty rfl rfl rfl (by decide +kernel) ⟨Nat.le_of_ble_eq_true rfl, Nat.le_of_ble_eq_true rfl⟩) (xw_preV hB hP hD (ci := 8) rfl xM_c0) rfl rfl hl.1 rfl (lv_room (Nat.le_of_ble_eq_true rfl)) dX8_sign_88 ⟨Nat.le_of_ble_eq_true rfl, Nat.le_of_ble_eq_true rfl⟩) hS (fun I27 F27 G27 H locs h hP hD hS => ?_)
      refine lv_iload_n hx hb dX8_sign_91 rfl (lv_at hl 2 rfl) ?_
      refine lv_aload_n hx hb dX8_sign_92 rfl (lv_at hl 0 rfl) ?_
      refine va_get (D := D) (ci := 8) (v := .int (I27 2)) (C := RX8) (T := TX8) (N := 22) hx hb hts mX8_sign_inX8 hown hB.1 hP 0 xM_c0 rfl 7 (by decide) (hts _ mX8_sign_2) (fun _ h9 => h9) rfl dX8_sign_93 ?_
      refine lv_icmp_ge (tgt := 105) hx hb dX8_sign_96 (by decide) (fun c28 => ?_) (fun c28 => ?_)
      · have h := h.1 c28
        obtain ⟨v29, ev29⟩ : ∃ y : Int32, y = y2 + 1 := ⟨_, rfl⟩
        have h := h v29 ev29
        refine lv_iinc (v := v29) (lv' := [(2, .int v29), (0, .ref (a 0)), (1, .int x1), (3, .int y3)]) hx hb dX8_sign_105 hl (k := 2) rfl (by rw [ev29]; rfl) (by decide) rfl (fun ls hl => ?_)
        refine lv_goto (tgt := 11) hx hb dX8_sign_108 (by decide) ?_
        exact (hWW _ _ _).mp (el11 _ _ _ _ h _ _ ls hP hD hS (lv_sub hl [1, 2, 0] rfl))
      · have h := h.2 c28
        refine lv_aload_n hx hb dX8_sign_99 rfl (lv_at hl 0 rfl) ?_
        refine lv_bipush (v := 46) hx hb dX8_sign_100 (by decide) ?_
        refine xw_wv (va_runV (rm := { frames := 0, cells := 0, slots := 0, locals := 0 }) (As := [.int (46 : Int32)]) (rest := []) ⟨hx, hb, hml, hown, hts⟩ (c_X8_write l D cy a (46 : Int32) I27 F27 G27 _ h A) (cwV 1 hts gX8_sign_X8_write rfl rfl rfl (by decide +kernel) ⟨Nat.le_of_ble_eq_true rfl, Nat.le_of_ble_eq_true rfl⟩) (xw_preV hB hP hD (ci := 8) rfl xM_c0) rfl rfl hl.1 rfl (lv_room (Nat.le_of_ble_eq_true rfl)) dX8_sign_102 ⟨Nat.le_of_ble_eq_true rfl, Nat.le_of_ble_eq_true rfl⟩) hS (fun I30 F30 G30 H locs h hP hD hS => ?_)
        obtain ⟨v31, ev31⟩ : ∃ y : Int32, y = y2 + 1 := ⟨_, rfl⟩
        have h := h v31 ev31
        refine lv_iinc (v := v31) (lv' := [(2, .int v31), (0, .ref (a 0)), (1, .int x1), (3, .int y3)]) hx hb dX8_sign_105 hl (k := 2) rfl (by rw [ev31]; rfl) (by decide) rfl (fun ls hl => ?_)
        refine lv_goto (tgt := 11) hx hb dX8_sign_108 (by decide) ?_
        exact (hWW _ _ _).mp (el11 _ _ _ _ h _ _ ls hP hD hS (lv_sub hl [1, 2, 0] rfl))
    · have h := h.2 c24
      refine lv_aload_n hx hb dX8_sign_40 rfl (lv_at hl 0 rfl) ?_
      refine va_get (D := D) (ci := 8) (v := .ref (a 12)) (C := RX8) (T := TX8) (N := 22) hx hb hts mX8_sign_inX8 hown hB.1 hP 0 xM_c0 rfl 15 (by decide) (hts _ mX8_sign_4) (fun _ h9 => h9) rfl dX8_sign_41 ?_
      refine lv_aload_n hx hb dX8_sign_44 rfl (lv_at hl 0 rfl) ?_
      refine va_get (D := D) (ci := 8) (v := .ref (a 5)) (C := RX8) (T := TX8) (N := 22) hx hb hts mX8_sign_inX8 hown hB.1 hP 0 xM_c0 rfl 5 (by decide) (hts _ mX8_sign_5) (fun _ h9 => h9) rfl dX8_sign_45 ?_
      refine lv_iload_n hx hb dX8_sign_48 rfl (lv_at hl 3 rfl) ?_
      refine xw_iald hx hb hB hP 5 xM_c5 h.1 dX8_sign_49 (fun v32 ev32 => ?_)
      have h := h.2 v32 ev32
      refine xw_iald hx hb hB hP 12 xM_c12 h.1 dX8_sign_50 (fun v33 ev33 => ?_)
      have h := h.2 v33 ev33
      refine lv_iload_n hx hb dX8_sign_51 rfl (lv_at hl 2 rfl) ?_
      refine lv_icmp_ne (tgt := 68) hx hb dX8_sign_52 (by decide) (fun c34 => ?_) (fun c34 => ?_)
      · have h := h.1 c34
        obtain ⟨v35, ev35⟩ : ∃ y : Int32, y = y3 + 1 := ⟨_, rfl⟩
        have h := h v35 ev35
        refine lv_iinc (v := v35) (lv' := [(3, .int v35), (0, .ref (a 0)), (1, .int x1), (2, .int y2)]) hx hb dX8_sign_68 hl (k := 3) rfl (by rw [ev35]; rfl) (by decide) rfl (fun ls hl => ?_)
        refine lv_goto (tgt := 32) hx hb dX8_sign_71 (by decide) ?_
        exact (hWW _ _ _).mp (el32 _ _ _ _ _ h _ _ ls hP hD hS (lv_sub hl [1, 2, 3, 0] rfl))
      · have h := h.2 c34
        refine lv_aload_n hx hb dX8_sign_55 rfl (lv_at hl 0 rfl) ?_
        refine lv_bipush (v := 120) hx hb dX8_sign_56 (by decide) ?_
        refine lv_aload_n hx hb dX8_sign_58 rfl (lv_at hl 0 rfl) ?_
        refine va_get (D := D) (ci := 8) (v := .ref (a 5)) (C := RX8) (T := TX8) (N := 22) hx hb hts mX8_sign_inX8 hown hB.1 hP 0 xM_c0 rfl 5 (by decide) (hts _ mX8_sign_5) (fun _ h9 => h9) rfl dX8_sign_59 ?_
        refine lv_iload_n hx hb dX8_sign_62 rfl (lv_at hl 3 rfl) ?_
        refine xw_iald hx hb hB hP 5 xM_c5 h.1 dX8_sign_63 (fun v36 ev36 => ?_)
        have h := h.2 v36 ev36
        refine lv_iadd hx hb dX8_sign_64 ?_
        refine xw_wv (va_runV (rm := { frames := 0, cells := 0, slots := 0, locals := 0 }) (As := [.int ((120 : Int32) + v36)]) (rest := []) ⟨hx, hb, hml, hown, hts⟩ (c_X8_write l D cy a ((120 : Int32) + v36) I F G _ h A) (cwV 1 hts gX8_sign_X8_write rfl rfl rfl (by decide +kernel) ⟨Nat.le_of_ble_eq_true rfl, Nat.le_of_ble_eq_true rfl⟩) (xw_preV hB hP hD (ci := 8) rfl xM_c0) rfl rfl hl.1 rfl (lv_room (Nat.le_of_ble_eq_true rfl)) dX8_sign_65 ⟨Nat.le_of_ble_eq_true rfl, Nat.le_of_ble_eq_true rfl⟩) hS (fun I37 F37 G37 H locs h hP hD hS => ?_)
        obtain ⟨v38, ev38⟩ : ∃ y : Int32, y = y3 + 1 := ⟨_, rfl⟩
        have h := h v38 ev38
        refine lv_iinc (v := v38) (lv' := [(3, .int v38), (0, .ref (a 0)), (1, .int x1), (2, .int y2)]) hx hb dX8_sign_68 hl (k := 3) rfl (by rw [ev38]; rfl) (by decide) rfl (fun ls hl => ?_)
        refine lv_goto (tgt := 32) hx hb dX8_sign_71 (by decide) ?_
        exact (hWW _ _ _).mp (el32 _ _ _ _ _ h _ _ ls hP hD hS (lv_sub hl [1, 2, 3, 0] rfl))
  have h := h k11 k32 rl11 rl32
  unfold bd_X8_sign_0 at h
  refine lv_aload_n hx hb dX8_sign_0 rfl (lv_at hl 0 rfl) ?_
  refine xw_wv (va_runV (rm := { frames := 5, cells := 0, slots := 0, locals := 127 }) (As := []) (rest := []) ⟨hx, hb, hml, hown, hts⟩ (c_X8_place l D cy a I F G _ h A) (cwV 0 hts gX8_sign_X8_place rfl rfl rfl (by decide +kernel) ⟨Nat.le_of_ble_eq_true rfl, Nat.le_of_ble_eq_true rfl⟩) (xw_preV hB hP hD (ci := 8) rfl xM_c0) rfl rfl hl.1 rfl (lv_room (Nat.le_of_ble_eq_true rfl)) dX8_sign_1 ⟨Nat.le_of_ble_eq_true rfl, Nat.le_of_ble_eq_true rfl⟩) hS (fun I15 F15 G15 H locs h hP hD hS => ?_)
  refine lv_aload_n hx hb dX8_sign_4 rfl (lv_at hl 0 rfl) ?_
  refine lv_iconst (v := 0) hx hb dX8_sign_5 (by decide) ?_
  refine xw_put (D := D) (ci := 8) (v := .int (0 : Int32)) (ty := .int) (C := RX8) (T := TX8) (N := 22) hx hb hts mX8_sign_inX8 tyX8 tyX8_ok nmX8 hown hB hP hD hS 0 xM_c0 rfl 19 (by decide) (hts _ mX8_sign_1) (fun _ h9 => h9) rfl (by decide +kernel) rfl rfl (Nat.le_of_ble_eq_true rfl) xM_i5 dX8_sign_6 (fun H locs hP hD hS => ?_)
  obtain ⟨I16, eI16⟩ : ∃ f : xw_I, f = xw_up I15 5 (0 : Int32) := ⟨_, rfl⟩
  rw [← eI16] at hP hD
  have h := h I16 eI16
  refine lv_iconst (v := 0) hx hb dX8_sign_9 (by decide) ?_
  refine lv_istore_n (lv' := [(2, .int (0 : Int32)), (0, .ref (a 0)), (1, .int x1)]) hx hb dX8_sign_10 rfl hl (by decide) rfl (fun ls hl => ?_)
  exact (hWW _ _ _).mp (el11 _ _ _ _ h _ _ ls hP hD hS (lv_sub hl [1, 2, 0] rfl))

theorem mX8_image_1 : Cond.fieldLink RX8 50 "TagCarrierModel" "image" "[I" ∈ wsX8_image := List.mem_of_getElem? (i := 1) rfl
theorem mX8_image_inX8 : ∀ w ∈ u_ws RX8 TX8 22, w ∈ wsX8_image := by decide +kernel
theorem mX8_image_2 : Cond.fieldLink RX8 7 "TagCarrierModel" "opens" "[I" ∈ wsX8_image := List.mem_of_getElem? (i := 2) rfl
theorem mX8_image_3 : Cond.fieldLink RX8 13 "TagCarrierModel" "closes" "[I" ∈ wsX8_image := List.mem_of_getElem? (i := 3) rfl
theorem mX8_image_4 : Cond.fieldLink RX8 16 "TagCarrierModel" "holds" "[I" ∈ wsX8_image := List.mem_of_getElem? (i := 4) rfl
theorem mX8_image_5 : Cond.fieldLink RX8 19 "TagCarrierModel" "markGap" "[I" ∈ wsX8_image := List.mem_of_getElem? (i := 5) rfl
theorem mX8_image_6 : Cond.fieldLink RX8 22 "TagCarrierModel" "order" "[I" ∈ wsX8_image := List.mem_of_getElem? (i := 6) rfl
theorem mX8_image_8 : Cond.fieldLink RX8 69 "TagCarrierModel" "words" "I" ∈ wsX8_image := List.mem_of_getElem? (i := 8) rfl
theorem mX8_image_9 : Cond.fieldLink RX8 72 "TagCarrierModel" "marks" "I" ∈ wsX8_image := List.mem_of_getElem? (i := 9) rfl
theorem mX8_image_10 : Cond.fieldLink RX8 78 "TagCarrierModel" "target" "I" ∈ wsX8_image := List.mem_of_getElem? (i := 10) rfl
theorem mX8_image_11 : Cond.fieldLink RX8 53 "TagCarrierModel" "isKept" "[Z" ∈ wsX8_image := List.mem_of_getElem? (i := 11) rfl
theorem mX8_image_7 : Cond.fieldLink RX8 25 "TagCarrierModel" "links" "[I" ∈ wsX8_image := List.mem_of_getElem? (i := 7) rfl
set_option maxHeartbeats 4000000 in
set_option maxRecDepth 100000 in
theorem c_X8_image (l : Launch) (D : va_G) (cy : Nat → ClassId) (a : Nat → Nat) (x1 : Int32) (I : xw_I) (F : xw_F) (G : xw_G) (post : Int32 → xw_I → xw_F → xw_G → Prop) (h : sm_X8_image x1 I F G post) : xw_Wi l yX8_image wsX8_image ({ frames := 1, cells := 0, slots := 0, locals := 22 }) D cy [.ref (a 0), .int x1] (xM_w cy a I F G) (xM_w cy a) post := by
  intro A
  refine Met.ofW (cc := cX8_image) (maxL := 4) (ret := (some .int)) (by decide) rfl ?_
  intro p e s m args below meth c s₁ B hml hv
  obtain ⟨rfl, hP, hB, hD⟩ := hv
  have hP : va_P D vwCl (xM_w cy a I F G) s.heap := hP
  have hx := B.exec
  have hb := B.bytes
  have hr := B.returns
  have hts := atoms_spec (ws := wsX8_image) B.pre
  have hown : s.vm.findClass RX8 = some m.cls := findClass_of_methodNamed B.named
  have hlocks := B.notSynchronized
  have hS : va_S A s.heap s.heap [] := va_S.rf
  refine xw_go (fun WW hWW => ?_)
  have hl := lv_entry ([.ref (a 0), .int x1]) (n := 4) (Nat.le_of_ble_eq_true rfl)
  rw [lg_entry_eq]
  generalize (lg_sl ([.ref (a 0), .int x1]) ++ List.replicate (4 - (lg_sl ([.ref (a 0), .int x1])).length) Slot.unset).toArray = ls at hl ⊢
  have hl : lv_has ls 4 [(0, .ref (a 0)), (1, .int x1)] := hl
  obtain ⟨k19, mk19, el19⟩ : ∃ K : Int32 → Int32 → xw_I → xw_F → xw_G → Prop, (∀ (y2 : Int32) (y3 : Int32) (I : xw_I) (F : xw_F) (G : xw_G), (∀ (H : Heap) (locs : List Loc) (ls : Array Slot), va_P D vwCl (xM_w cy a I F G) H → va_D A (xM_w cy a I F G) → va_S A s.heap H locs → lv_has ls 4 [(0, .ref (a 0)), (1, .int x1), (2, .int y2), (3, .int y3)] → WW H locs (F0 m 19 ls [])) → K y2 y3 I F G) ∧ (∀ (y2 : Int32) (y3 : Int32) (I : xw_I) (F : xw_F) (G : xw_G), K y2 y3 I F G → (∀ (H : Heap) (locs : List Loc) (ls : Array Slot), va_P D vwCl (xM_w cy a I F G) H → va_D A (xM_w cy a I F G) → va_S A s.heap H locs → lv_has ls 4 [(0, .ref (a 0)), (1, .int x1), (2, .int y2), (3, .int y3)] → WW H locs (F0 m 19 ls []))) := ⟨fun (y2 : Int32) (y3 : Int32) (I : xw_I) (F : xw_F) (G : xw_G) => (∀ (H : Heap) (locs : List Loc) (ls : Array Slot), va_P D vwCl (xM_w cy a I F G) H → va_D A (xM_w cy a I F G) → va_S A s.heap H locs → lv_has ls 4 [(0, .ref (a 0)), (1, .int x1), (2, .int y2), (3, .int y3)] → WW H locs (F0 m 19 ls [])), fun _ _ _ _ _ h => h, fun _ _ _ _ _ h => h⟩
  obtain ⟨k79, mk79, el79⟩ : ∃ K : Int32 → Int32 → xw_I → xw_F → xw_G → Prop, (∀ (y2 : Int32) (y3 : Int32) (I : xw_I) (F : xw_F) (G : xw_G), (∀ (H : Heap) (locs : List Loc) (ls : Array Slot), va_P D vwCl (xM_w cy a I F G) H → va_D A (xM_w cy a I F G) → va_S A s.heap H locs → lv_has ls 4 [(0, .ref (a 0)), (1, .int x1), (2, .int y2), (3, .int y3)] → WW H locs (F0 m 79 ls [])) → K y2 y3 I F G) ∧ (∀ (y2 : Int32) (y3 : Int32) (I : xw_I) (F : xw_F) (G : xw_G), K y2 y3 I F G → (∀ (H : Heap) (locs : List Loc) (ls : Array Slot), va_P D vwCl (xM_w cy a I F G) H → va_D A (xM_w cy a I F G) → va_S A s.heap H locs → lv_has ls 4 [(0, .ref (a 0)), (1, .int x1), (2, .int y2), (3, .int y3)] → WW H locs (F0 m 79 ls []))) := ⟨fun (y2 : Int32) (y3 : Int32) (I : xw_I) (F : xw_F) (G : xw_G) => (∀ (H : Heap) (locs : List Loc) (ls : Array Slot), va_P D vwCl (xM_w cy a I F G) H → va_D A (xM_w cy a I F G) → va_S A s.heap H locs → lv_has ls 4 [(0, .ref (a 0)), (1, .int x1), (2, .int y2), (3, .int y3)] → WW H locs (F0 m 79 ls [])), fun _ _ _ _ _ h => h, fun _ _ _ _ _ h => h⟩
  obtain ⟨k126, mk126, el126⟩ : ∃ K : Int32 → Int32 → xw_I → xw_F → xw_G → Prop, (∀ (y2 : Int32) (y3 : Int32) (I : xw_I) (F : xw_F) (G : xw_G), (∀ (H : Heap) (locs : List Loc) (ls : Array Slot), va_P D vwCl (xM_w cy a I F G) H → va_D A (xM_w cy a I F G) → va_S A s.heap H locs → lv_has ls 4 [(0, .ref (a 0)), (1, .int x1), (2, .int y2), (3, .int y3)] → WW H locs (F0 m 126 ls [])) → K y2 y3 I F G) ∧ (∀ (y2 : Int32) (y3 : Int32) (I : xw_I) (F : xw_F) (G : xw_G), K y2 y3 I F G → (∀ (H : Heap) (locs : List Loc) (ls : Array Slot), va_P D vwCl (xM_w cy a I F G) H → va_D A (xM_w cy a I F G) → va_S A s.heap H locs → lv_has ls 4 [(0, .ref (a 0)), (1, .int x1), (2, .int y2), (3, .int y3)] → WW H locs (F0 m 126 ls []))) := ⟨fun (y2 : Int32) (y3 : Int32) (I : xw_I) (F : xw_F) (G : xw_G) => (∀ (H : Heap) (locs : List Loc) (ls : Array Slot), va_P D vwCl (xM_w cy a I F G) H → va_D A (xM_w cy a I F G) → va_S A s.heap H locs → lv_has ls 4 [(0, .ref (a 0)), (1, .int x1), (2, .int y2), (3, .int y3)] → WW H locs (F0 m 126 ls [])), fun _ _ _ _ _ h => h, fun _ _ _ _ _ h => h⟩
  have rl19 : ∀ (y2 : Int32) (y3 : Int32) (I : xw_I) (F : xw_F) (G : xw_G), (bd_X8_image_19 x1 post k19 k79 k126 y2 y3 I F G) → k19 y2 y3 I F G := by
    intro y2 y3 I F G h
    refine mk19 _ _ _ _ _ ?_
    intro H locs ls hP hD hS hl
    refine (hWW _ _ _).mpr ?_
    unfold bd_X8_image_19 at h
    refine lv_iload_n hx hb dX8_image_19 rfl (lv_at hl 3 rfl) ?_
    refine lv_iconst (v := 5) hx hb dX8_image_20 (by decide) ?_
    refine lv_icmp_ge (tgt := 77) hx hb dX8_image_21 (by decide) (fun c28 => ?_) (fun c28 => ?_)
    · have h := h.1 c28
      refine lv_iconst (v := 0) hx hb dX8_image_77 (by decide) ?_
      refine lv_istore_n (lv' := [(3, .int (0 : Int32)), (0, .ref (a 0)), (1, .int x1), (2, .int y2)]) hx hb dX8_image_78 rfl hl (by decide) rfl (fun ls hl => ?_)
      exact (hWW _ _ _).mp (el79 _ _ _ _ _ h _ _ ls hP hD hS (lv_sub hl [1, 2, 3, 0] rfl))
    · have h := h.2 c28
      refine lv_aload_n hx hb dX8_image_24 rfl (lv_at hl 0 rfl) ?_
      refine va_get (D := D) (ci := 8) (v := .ref (a 14)) (C := RX8) (T := TX8) (N := 22) hx hb hts mX8_image_inX8 hown hB.1 hP 0 xM_c0 rfl 20 (by decide) (hts _ mX8_image_1) (fun _ h9 => h9) rfl dX8_image_25 ?_
      refine lv_iload_n hx hb dX8_image_28 rfl (lv_at hl 2 rfl) ?_
      refine lv_iload_n hx hb dX8_image_29 rfl (lv_at hl 3 rfl) ?_
      refine lv_iadd hx hb dX8_image_30 ?_
      refine lv_aload_n hx hb dX8_image_31 rfl (lv_at hl 0 rfl) ?_
      refine va_get (D := D) (ci := 8) (v := .ref (a 1)) (C := RX8) (T := TX8) (N := 22) hx hb hts mX8_image_inX8 hown hB.1 hP 0 xM_c0 rfl 1 (by decide) (hts _ mX8_image_2) (fun _ h9 => h9) rfl dX8_image_32 ?_
      refine lv_iload_n hx hb dX8_image_35 rfl (lv_at hl 3 rfl) ?_
      refine xw_iald hx hb hB hP 1 xM_c1 h.1 dX8_image_36 (fun v29 ev29 => ?_)
      have h := h.2 v29 ev29
      refine xw_iast hx hb hB hP hD hS 14 xM_c14 h.1 xM_f14 dX8_image_37 (fun H locs hP hD hS => ?_)
      have h := h.2
      obtain ⟨F30, eF30⟩ : ∃ f : xw_F, f = xw_up F 14 (upd (F 14) (y2 + y3).toNatClampNeg v29) := ⟨_, rfl⟩
      rw [← eF30] at hP hD
      have h := h F30 eF30
      refine lv_aload_n hx hb dX8_image_38 rfl (lv_at hl 0 rfl) ?_
      refine va_get (D := D) (ci := 8) (v := .ref (a 14)) (C := RX8) (T := TX8) (N := 22) hx hb hts mX8_image_inX8 hown hB.1 hP 0 xM_c0 rfl 20 (by decide) (hts _ mX8_image_1) (fun _ h9 => h9) rfl dX8_image_39 ?_
      refine lv_iload_n hx hb dX8_image_42 rfl (lv_at hl 2 rfl) ?_
      refine lv_iconst (v := 5) hx hb dX8_image_43 (by decide) ?_
      refine lv_iadd hx hb dX8_image_44 ?_
      refine lv_iload_n hx hb dX8_image_45 rfl (lv_at hl 3 rfl) ?_
      refine lv_iadd hx hb dX8_image_46 ?_
      refine lv_aload_n hx hb dX8_image_47 rfl (lv_at hl 0 rfl) ?_
      refine va_get (D := D) (ci := 8) (v := .ref (a 2)) (C := RX8) (T := TX8) (N := 22) hx hb hts mX8_image_inX8 hown hB.1 hP 0 xM_c0 rfl 2 (by decide) (hts _ mX8_image_3) (fun _ h9 => h9) rfl dX8_image_48 ?_
      refine lv_iload_n hx hb dX8_image_51 rfl (lv_at hl 3 rfl) ?_
      refine xw_iald hx hb hB hP 2 xM_c2 h.1 dX8_image_52 (fun v31 ev31 => ?_)
      have h := h.2 v31 ev31
      refine xw_iast hx hb hB hP hD hS 14 xM_c14 h.1 xM_f14 dX8_image_53 (fun H locs hP hD hS => ?_)
      have h := h.2
      obtain ⟨F32, eF32⟩ : ∃ f : xw_F, f = xw_up F30 14 (upd (F30 14) ((y2 + (5 : Int32)) + y3).toNatClampNeg v31) := ⟨_, rfl⟩
      rw [← eF32] at hP hD
      have h := h F32 eF32
      refine lv_aload_n hx hb dX8_image_54 rfl (lv_at hl 0 rfl) ?_
      refine va_get (D := D) (ci := 8) (v := .ref (a 14)) (C := RX8) (T := TX8) (N := 22) hx hb hts mX8_image_inX8 hown hB.1 hP 0 xM_c0 rfl 20 (by decide) (hts _ mX8_image_1) (fun _ h9 => h9) rfl dX8_image_55 ?_
      refine lv_iload_n hx hb dX8_image_58 rfl (lv_at hl 2 rfl) ?_
      refine lv_bipush (v := 10) hx hb dX8_image_59 (by decide) ?_
      refine lv_iadd hx hb dX8_image_61 ?_
      refine lv_iload_n hx hb dX8_image_62 rfl (lv_at hl 3 rfl) ?_
      refine lv_iadd hx hb dX8_image_63 ?_
      refine lv_aload_n hx hb dX8_image_64 rfl (lv_at hl 0 rfl) ?_
      refine va_get (D := D) (ci := 8) (v := .ref (a 3)) (C := RX8) (T := TX8) (N := 22) hx hb hts mX8_image_inX8 hown hB.1 hP 0 xM_c0 rfl 3 (by decide) (hts _ mX8_image_4) (fun _ h9 => h9) rfl dX8_image_65 ?_
      refine lv_iload_n hx hb dX8_image_68 rfl (lv_at hl 3 rfl) ?_
      refine xw_iald hx hb hB hP 3 xM_c3 h.1 dX8_image_69 (fun v33 ev33 => ?_)
      have h := h.2 v33 ev33
      refine xw_iast hx hb hB hP hD hS 14 xM_c14 h.1 xM_f14 dX8_image_70 (fun H locs hP hD hS => ?_)
      have h := h.2
      obtain ⟨F34, eF34⟩ : ∃ f : xw_F, f = xw_up F32 14 (upd (F32 14) ((y2 + (10 : Int32)) + y3).toNatClampNeg v33) := ⟨_, rfl⟩
      rw [← eF34] at hP hD
      have h := h F34 eF34
      obtain ⟨v35, ev35⟩ : ∃ y : Int32, y = y3 + 1 := ⟨_, rfl⟩
      have h := h v35 ev35
      refine lv_iinc (v := v35) (lv' := [(3, .int v35), (0, .ref (a 0)), (1, .int x1), (2, .int y2)]) hx hb dX8_image_71 hl (k := 3) rfl (by rw [ev35]; rfl) (by decide) rfl (fun ls hl => ?_)
      refine lv_goto (tgt := 19) hx hb dX8_image_74 (by decide) ?_
      exact (hWW _ _ _).mp (el19 _ _ _ _ _ h _ _ ls hP hD hS (lv_sub hl [1, 2, 3, 0] rfl))
  have rl79 : ∀ (y2 : Int32) (y3 : Int32) (I : xw_I) (F : xw_F) (G : xw_G), (bd_X8_image_79 x1 post k19 k79 k126 y2 y3 I F G) → k79 y2 y3 I F G := by
    intro y2 y3 I F G h
    refine mk79 _ _ _ _ _ ?_
    intro H locs ls hP hD hS hl
    refine (hWW _ _ _).mpr ?_
    unfold bd_X8_image_79 at h
    refine lv_iload_n hx hb dX8_image_79 rfl (lv_at hl 3 rfl) ?_
    refine lv_iconst (v := 3) hx hb dX8_image_80 (by decide) ?_
    refine lv_icmp_ge (tgt := 124) hx hb dX8_image_81 (by decide) (fun c36 => ?_) (fun c36 => ?_)
    · have h := h.1 c36
      refine lv_iconst (v := 0) hx hb dX8_image_124 (by decide) ?_
      refine lv_istore_n (lv' := [(3, .int (0 : Int32)), (0, .ref (a 0)), (1, .int x1), (2, .int y2)]) hx hb dX8_image_125 rfl hl (by decide) rfl (fun ls hl => ?_)
      exact (hWW _ _ _).mp (el126 _ _ _ _ _ h _ _ ls hP hD hS (lv_sub hl [1, 2, 3, 0] rfl))
    · have h := h.2 c36
      refine lv_aload_n hx hb dX8_image_84 rfl (lv_at hl 0 rfl) ?_
      refine va_get (D := D) (ci := 8) (v := .ref (a 14)) (C := RX8) (T := TX8) (N := 22) hx hb hts mX8_image_inX8 hown hB.1 hP 0 xM_c0 rfl 20 (by decide) (hts _ mX8_image_1) (fun _ h9 => h9) rfl dX8_image_85 ?_
      refine lv_iload_n hx hb dX8_image_88 rfl (lv_at hl 2 rfl) ?_
      refine lv_bipush (v := 15) hx hb dX8_image_89 (by decide) ?_
      refine lv_iadd hx hb dX8_image_91 ?_
      refine lv_iload_n hx hb dX8_image_92 rfl (lv_at hl 3 rfl) ?_
      refine lv_iadd hx hb dX8_image_93 ?_
      refine lv_aload_n hx hb dX8_image_94 rfl (lv_at hl 0 rfl) ?_
      refine va_get (D := D) (ci := 8) (v := .ref (a 4)) (C := RX8) (T := TX8) (N := 22) hx hb hts mX8_image_inX8 hown hB.1 hP 0 xM_c0 rfl 4 (by decide) (hts _ mX8_image_5) (fun _ h9 => h9) rfl dX8_image_95 ?_
      refine lv_iload_n hx hb dX8_image_98 rfl (lv_at hl 3 rfl) ?_
      refine xw_iald hx hb hB hP 4 xM_c4 h.1 dX8_image_99 (fun v37 ev37 => ?_)
      have h := h.2 v37 ev37
      refine xw_iast hx hb hB hP hD hS 14 xM_c14 h.1 xM_f14 dX8_image_100 (fun H locs hP hD hS => ?_)
      have h := h.2
      obtain ⟨F38, eF38⟩ : ∃ f : xw_F, f = xw_up F 14 (upd (F 14) ((y2 + (15 : Int32)) + y3).toNatClampNeg v37) := ⟨_, rfl⟩
      rw [← eF38] at hP hD
      have h := h F38 eF38
      refine lv_aload_n hx hb dX8_image_101 rfl (lv_at hl 0 rfl) ?_
      refine va_get (D := D) (ci := 8) (v := .ref (a 14)) (C := RX8) (T := TX8) (N := 22) hx hb hts mX8_image_inX8 hown hB.1 hP 0 xM_c0 rfl 20 (by decide) (hts _ mX8_image_1) (fun _ h9 => h9) rfl dX8_image_102 ?_
      refine lv_iload_n hx hb dX8_image_105 rfl (lv_at hl 2 rfl) ?_
      refine lv_bipush (v := 18) hx hb dX8_image_106 (by decide) ?_
      refine lv_iadd hx hb dX8_image_108 ?_
      refine lv_iload_n hx hb dX8_image_109 rfl (lv_at hl 3 rfl) ?_
      refine lv_iadd hx hb dX8_image_110 ?_
      refine lv_aload_n hx hb dX8_image_111 rfl (lv_at hl 0 rfl) ?_
      refine va_get (D := D) (ci := 8) (v := .ref (a 5)) (C := RX8) (T := TX8) (N := 22) hx hb hts mX8_image_inX8 hown hB.1 hP 0 xM_c0 rfl 5 (by decide) (hts _ mX8_image_6) (fun _ h9 => h9) rfl dX8_image_112 ?_
      refine lv_iload_n hx hb dX8_image_115 rfl (lv_at hl 3 rfl) ?_
      refine xw_iald hx hb hB hP 5 xM_c5 h.1 dX8_image_116 (fun v39 ev39 => ?_)
      have h := h.2 v39 ev39
      refine xw_iast hx hb hB hP hD hS 14 xM_c14 h.1 xM_f14 dX8_image_117 (fun H locs hP hD hS => ?_)
      have h := h.2
      obtain ⟨F40, eF40⟩ : ∃ f : xw_F, f = xw_up F38 14 (upd (F38 14) ((y2 + (18 : Int32)) + y3).toNatClampNeg v39) := ⟨_, rfl⟩
      rw [← eF40] at hP hD
      have h := h F40 eF40
      obtain ⟨v41, ev41⟩ : ∃ y : Int32, y = y3 + 1 := ⟨_, rfl⟩
      have h := h v41 ev41
      refine lv_iinc (v := v41) (lv' := [(3, .int v41), (0, .ref (a 0)), (1, .int x1), (2, .int y2)]) hx hb dX8_image_118 hl (k := 3) rfl (by rw [ev41]; rfl) (by decide) rfl (fun ls hl => ?_)
      refine lv_goto (tgt := 79) hx hb dX8_image_121 (by decide) ?_
      exact (hWW _ _ _).mp (el79 _ _ _ _ _ h _ _ ls hP hD hS (lv_sub hl [1, 2, 3, 0] rfl))
  have rl126 : ∀ (y2 : Int32) (y3 : Int32) (I : xw_I) (F : xw_F) (G : xw_G), (bd_X8_image_126 x1 post k19 k79 k126 y2 y3 I F G) → k126 y2 y3 I F G := by
    intro y2 y3 I F G h
    refine mk126 _ _ _ _ _ ?_
    intro H locs ls hP hD hS hl
    refine (hWW _ _ _).mpr ?_
    unfold bd_X8_image_126 at h
    refine lv_iload_n hx hb dX8_image_126 rfl (lv_at hl 3 rfl) ?_
    refine lv_bipush (v := 12) hx hb dX8_image_127 (by decide) ?_
    refine lv_icmp_ge (tgt := 155) hx hb dX8_image_129 (by decide) (fun c42 => ?_) (fun c42 => ?_)
    · have h := h.1 c42
      refine lv_aload_n hx hb dX8_image_155 rfl (lv_at hl 0 rfl) ?_
      refine va_get (D := D) (ci := 8) (v := .ref (a 14)) (C := RX8) (T := TX8) (N := 22) hx hb hts mX8_image_inX8 hown hB.1 hP 0 xM_c0 rfl 20 (by decide) (hts _ mX8_image_1) (fun _ h9 => h9) rfl dX8_image_156 ?_
      refine lv_iload_n hx hb dX8_image_159 rfl (lv_at hl 2 rfl) ?_
      refine lv_bipush (v := 33) hx hb dX8_image_160 (by decide) ?_
      refine lv_iadd hx hb dX8_image_162 ?_
      refine lv_aload_n hx hb dX8_image_163 rfl (lv_at hl 0 rfl) ?_
      refine va_get (D := D) (ci := 8) (v := .int (I 0)) (C := RX8) (T := TX8) (N := 22) hx hb hts mX8_image_inX8 hown hB.1 hP 0 xM_c0 rfl 0 (by decide) (hts _ mX8_image_8) (fun _ h9 => h9) rfl dX8_image_164 ?_
      refine xw_iast hx hb hB hP hD hS 14 xM_c14 h.1 xM_f14 dX8_image_167 (fun H locs hP hD hS => ?_)
      have h := h.2
      obtain ⟨F43, eF43⟩ : ∃ f : xw_F, f = xw_up F 14 (upd (F 14) (y2 + (33 : Int32)).toNatClampNeg (I 0)) := ⟨_, rfl⟩
      rw [← eF43] at hP hD
      have h := h F43 eF43
      refine lv_aload_n hx hb dX8_image_168 rfl (lv_at hl 0 rfl) ?_
      refine va_get (D := D) (ci := 8) (v := .ref (a 14)) (C := RX8) (T := TX8) (N := 22) hx hb hts mX8_image_inX8 hown hB.1 hP 0 xM_c0 rfl 20 (by decide) (hts _ mX8_image_1) (fun _ h9 => h9) rfl dX8_image_169 ?_
      refine lv_iload_n hx hb dX8_image_172 rfl (lv_at hl 2 rfl) ?_
      refine lv_bipush (v := 34) hx hb dX8_image_173 (by decide) ?_
      refine lv_iadd hx hb dX8_image_175 ?_
      refine lv_aload_n hx hb dX8_image_176 rfl (lv_at hl 0 rfl) ?_
      refine va_get (D := D) (ci := 8) (v := .int (I 1)) (C := RX8) (T := TX8) (N := 22) hx hb hts mX8_image_inX8 hown hB.1 hP 0 xM_c0 rfl 6 (by decide) (hts _ mX8_image_9) (fun _ h9 => h9) rfl dX8_image_177 ?_
      refine xw_iast hx hb hB hP hD hS 14 xM_c14 h.1 xM_f14 dX8_image_180 (fun H locs hP hD hS => ?_)
      have h := h.2
      obtain ⟨F44, eF44⟩ : ∃ f : xw_F, f = xw_up F43 14 (upd (F43 14) (y2 + (34 : Int32)).toNatClampNeg (I 1)) := ⟨_, rfl⟩
      rw [← eF44] at hP hD
      have h := h F44 eF44
      refine lv_aload_n hx hb dX8_image_181 rfl (lv_at hl 0 rfl) ?_
      refine va_get (D := D) (ci := 8) (v := .ref (a 14)) (C := RX8) (T := TX8) (N := 22) hx hb hts mX8_image_inX8 hown hB.1 hP 0 xM_c0 rfl 20 (by decide) (hts _ mX8_image_1) (fun _ h9 => h9) rfl dX8_image_182 ?_
      refine lv_iload_n hx hb dX8_image_185 rfl (lv_at hl 2 rfl) ?_
      refine lv_bipush (v := 35) hx hb dX8_image_186 (by decide) ?_
      refine lv_iadd hx hb dX8_image_188 ?_
      refine lv_aload_n hx hb dX8_image_189 rfl (lv_at hl 0 rfl) ?_
      refine va_get (D := D) (ci := 8) (v := .int (I 2)) (C := RX8) (T := TX8) (N := 22) hx hb hts mX8_image_inX8 hown hB.1 hP 0 xM_c0 rfl 7 (by decide) (hts _ mX8_image_10) (fun _ h9 => h9) rfl dX8_image_190 ?_
      refine xw_iast hx hb hB hP hD hS 14 xM_c14 h.1 xM_f14 dX8_image_193 (fun H locs hP hD hS => ?_)
      have h := h.2
      obtain ⟨F45, eF45⟩ : ∃ f : xw_F, f = xw_up F44 14 (upd (F44 14) (y2 + (35 : Int32)).toNatClampNeg (I 2)) := ⟨_, rfl⟩
      rw [← eF45] at hP hD
      have h := h F45 eF45
      refine lv_aload_n hx hb dX8_image_194 rfl (lv_at hl 0 rfl) ?_
      refine va_get (D := D) (ci := 8) (v := .ref (a 15)) (C := RX8) (T := TX8) (N := 22) hx hb hts mX8_image_inX8 hown hB.1 hP 0 xM_c0 rfl 21 (by decide) (hts _ mX8_image_11) (fun _ h9 => h9) rfl dX8_image_195 ?_
      refine lv_iload_n hx hb dX8_image_198 rfl (lv_at hl 1 rfl) ?_
      refine lv_iconst (v := 1) hx hb dX8_image_199 (by decide) ?_
      refine xw_zast hx hb hB hP hD hS 15 xM_c15 h.1 xM_f15 dX8_image_200 (fun H locs hP hD hS => ?_)
      have h := h.2
      obtain ⟨F46, eF46⟩ : ∃ f : xw_F, f = xw_up F45 15 (upd (F45 15) x1.toNatClampNeg (1 : Int32)) := ⟨_, rfl⟩
      rw [← eF46] at hP hD
      have h := h F46 eF46
      refine lv_iconst (v := 1) hx hb dX8_image_201 (by decide) ?_
      exact xw_wreti hx hb hr hlocks hP hD hS h dX8_image_202
    · have h := h.2 c42
      refine lv_aload_n hx hb dX8_image_132 rfl (lv_at hl 0 rfl) ?_
      refine va_get (D := D) (ci := 8) (v := .ref (a 14)) (C := RX8) (T := TX8) (N := 22) hx hb hts mX8_image_inX8 hown hB.1 hP 0 xM_c0 rfl 20 (by decide) (hts _ mX8_image_1) (fun _ h9 => h9) rfl dX8_image_133 ?_
      refine lv_iload_n hx hb dX8_image_136 rfl (lv_at hl 2 rfl) ?_
      refine lv_bipush (v := 21) hx hb dX8_image_137 (by decide) ?_
      refine lv_iadd hx hb dX8_image_139 ?_
      refine lv_iload_n hx hb dX8_image_140 rfl (lv_at hl 3 rfl) ?_
      refine lv_iadd hx hb dX8_image_141 ?_
      refine lv_aload_n hx hb dX8_image_142 rfl (lv_at hl 0 rfl) ?_
      refine va_get (D := D) (ci := 8) (v := .ref (a 6)) (C := RX8) (T := TX8) (N := 22) hx hb hts mX8_image_inX8 hown hB.1 hP 0 xM_c0 rfl 8 (by decide) (hts _ mX8_image_7) (fun _ h9 => h9) rfl dX8_image_143 ?_
      refine lv_iload_n hx hb dX8_image_146 rfl (lv_at hl 3 rfl) ?_
      refine xw_iald hx hb hB hP 6 xM_c6 h.1 dX8_image_147 (fun v47 ev47 => ?_)
      have h := h.2 v47 ev47
      refine xw_iast hx hb hB hP hD hS 14 xM_c14 h.1 xM_f14 dX8_image_148 (fun H locs hP hD hS => ?_)
      have h := h.2
      obtain ⟨F48, eF48⟩ : ∃ f : xw_F, f = xw_up F 14 (upd (F 14) ((y2 + (21 : Int32)) + y3).toNatClampNeg v47) := ⟨_, rfl⟩
      rw [← eF48] at hP hD
      have h := h F48 eF48
      obtain ⟨v49, ev49⟩ : ∃ y : Int32, y = y3 + 1 := ⟨_, rfl⟩
      have h := h v49 ev49
      refine lv_iinc (v := v49) (lv' := [(3, .int v49), (0, .ref (a 0)), (1, .int x1), (2, .int y2)]) hx hb dX8_image_149 hl (k := 3) rfl (by rw [ev49]; rfl) (by decide) rfl (fun ls hl => ?_)
      refine lv_goto (tgt := 126) hx hb dX8_image_152 (by decide) ?_
      exact (hWW _ _ _).mp (el126 _ _ _ _ _ h _ _ ls hP hD hS (lv_sub hl [1, 2, 3, 0] rfl))
  have h := h k19 k79 k126 rl19 rl79 rl126
  unfold bd_X8_image_0 at h
  refine lv_iload_n hx hb dX8_image_0 rfl (lv_at hl 1 rfl) ?_
  refine lv_iconst (v := 0) hx hb dX8_image_1 (by decide) ?_
  refine lv_iconst (v := 1) hx hb dX8_image_2 (by decide) ?_
  refine xw_ri (va_runS (rm := { frames := 0, cells := 0, slots := 0, locals := 0 }) (As := [.int x1, .int (0 : Int32), .int (1 : Int32)]) (rest := []) ⟨hx, hb, hml, hown, hts⟩ (c_X8_in l D cy x1 (0 : Int32) (1 : Int32) _ h (fun _ => True)) (va_cwS 3 hts gX8_image_X8_in rfl rfl rfl (by decide +kernel) ⟨Nat.le_of_ble_eq_true rfl, Nat.le_of_ble_eq_true rfl⟩) (xw_preS hB xw_P0 (xw_D0 (A := fun _ => True))) rfl rfl hl.1 rfl (lv_room (Nat.le_of_ble_eq_true rfl)) dX8_image_3 ⟨Nat.le_of_ble_eq_true rfl, Nat.le_of_ble_eq_true rfl⟩) (fun r25 h => ?_)
  refine lv_if_ne (tgt := 12) hx hb dX8_image_6 (by decide) (fun c26 => ?_) (fun c26 => ?_)
  · have h := h.1 c26
    refine lv_bipush (v := 40) hx hb dX8_image_12 (by decide) ?_
    refine lv_iload_n hx hb dX8_image_14 rfl (lv_at hl 1 rfl) ?_
    refine lv_imul hx hb dX8_image_15 ?_
    refine lv_topi (fun v27 ev27 => ?_)
    have h := h v27 ev27
    refine lv_istore_n (lv' := [(2, .int v27), (0, .ref (a 0)), (1, .int x1)]) hx hb dX8_image_16 rfl hl (by decide) rfl (fun ls hl => ?_)
    refine lv_iconst (v := 0) hx hb dX8_image_17 (by decide) ?_
    refine lv_istore_n (lv' := [(3, .int (0 : Int32)), (2, .int v27), (0, .ref (a 0)), (1, .int x1)]) hx hb dX8_image_18 rfl hl (by decide) rfl (fun ls hl => ?_)
    exact (hWW _ _ _).mp (el19 _ _ _ _ _ h _ _ ls hP hD hS (lv_sub hl [2, 3, 1, 0] rfl))
  · have h := h.2 c26
    refine lv_bipush (v := -2) hx hb dX8_image_9 (by decide) ?_
    exact xw_wreti hx hb hr hlocks hP hD hS h dX8_image_11

theorem mX8_restore_1 : Cond.fieldLink RX8 53 "TagCarrierModel" "isKept" "[Z" ∈ wsX8_restore := List.mem_of_getElem? (i := 1) rfl
theorem mX8_restore_inX8 : ∀ w ∈ u_ws RX8 TX8 22, w ∈ wsX8_restore := by decide +kernel
theorem mX8_restore_2 : Cond.fieldLink RX8 7 "TagCarrierModel" "opens" "[I" ∈ wsX8_restore := List.mem_of_getElem? (i := 2) rfl
theorem mX8_restore_3 : Cond.fieldLink RX8 50 "TagCarrierModel" "image" "[I" ∈ wsX8_restore := List.mem_of_getElem? (i := 3) rfl
theorem mX8_restore_4 : Cond.fieldLink RX8 13 "TagCarrierModel" "closes" "[I" ∈ wsX8_restore := List.mem_of_getElem? (i := 4) rfl
theorem mX8_restore_5 : Cond.fieldLink RX8 16 "TagCarrierModel" "holds" "[I" ∈ wsX8_restore := List.mem_of_getElem? (i := 5) rfl
theorem mX8_restore_6 : Cond.fieldLink RX8 19 "TagCarrierModel" "markGap" "[I" ∈ wsX8_restore := List.mem_of_getElem? (i := 6) rfl
theorem mX8_restore_7 : Cond.fieldLink RX8 22 "TagCarrierModel" "order" "[I" ∈ wsX8_restore := List.mem_of_getElem? (i := 7) rfl
theorem mX8_restore_9 : Cond.fieldLink RX8 69 "TagCarrierModel" "words" "I" ∈ wsX8_restore := List.mem_of_getElem? (i := 9) rfl
theorem mX8_restore_10 : Cond.fieldLink RX8 72 "TagCarrierModel" "marks" "I" ∈ wsX8_restore := List.mem_of_getElem? (i := 10) rfl
theorem mX8_restore_11 : Cond.fieldLink RX8 78 "TagCarrierModel" "target" "I" ∈ wsX8_restore := List.mem_of_getElem? (i := 11) rfl
theorem mX8_restore_8 : Cond.fieldLink RX8 25 "TagCarrierModel" "links" "[I" ∈ wsX8_restore := List.mem_of_getElem? (i := 8) rfl
set_option maxHeartbeats 4000000 in
set_option maxRecDepth 100000 in
theorem c_X8_restore (l : Launch) (D : va_G) (cy : Nat → ClassId) (a : Nat → Nat) (x1 : Int32) (I : xw_I) (F : xw_F) (G : xw_G) (post : Int32 → xw_I → xw_F → xw_G → Prop) (h : sm_X8_restore x1 I F G post) : xw_Wi l yX8_restore wsX8_restore ({ frames := 1, cells := 0, slots := 0, locals := 22 }) D cy [.ref (a 0), .int x1] (xM_w cy a I F G) (xM_w cy a) post := by
  intro A
  refine Met.ofW (cc := cX8_restore) (maxL := 4) (ret := (some .int)) (by decide) rfl ?_
  intro p e s m args below meth c s₁ B hml hv
  obtain ⟨rfl, hP, hB, hD⟩ := hv
  have hP : va_P D vwCl (xM_w cy a I F G) s.heap := hP
  have hx := B.exec
  have hb := B.bytes
  have hr := B.returns
  have hts := atoms_spec (ws := wsX8_restore) B.pre
  have hown : s.vm.findClass RX8 = some m.cls := findClass_of_methodNamed B.named
  have hlocks := B.notSynchronized
  have hS : va_S A s.heap s.heap [] := va_S.rf
  refine xw_go (fun WW hWW => ?_)
  have hl := lv_entry ([.ref (a 0), .int x1]) (n := 4) (Nat.le_of_ble_eq_true rfl)
  rw [lg_entry_eq]
  generalize (lg_sl ([.ref (a 0), .int x1]) ++ List.replicate (4 - (lg_sl ([.ref (a 0), .int x1])).length) Slot.unset).toArray = ls at hl ⊢
  have hl : lv_has ls 4 [(0, .ref (a 0)), (1, .int x1)] := hl
  obtain ⟨k31, mk31, el31⟩ : ∃ K : Int32 → Int32 → xw_I → xw_F → xw_G → Prop, (∀ (y2 : Int32) (y3 : Int32) (I : xw_I) (F : xw_F) (G : xw_G), (∀ (H : Heap) (locs : List Loc) (ls : Array Slot), va_P D vwCl (xM_w cy a I F G) H → va_D A (xM_w cy a I F G) → va_S A s.heap H locs → lv_has ls 4 [(0, .ref (a 0)), (2, .int y2), (3, .int y3)] → WW H locs (F0 m 31 ls [])) → K y2 y3 I F G) ∧ (∀ (y2 : Int32) (y3 : Int32) (I : xw_I) (F : xw_F) (G : xw_G), K y2 y3 I F G → (∀ (H : Heap) (locs : List Loc) (ls : Array Slot), va_P D vwCl (xM_w cy a I F G) H → va_D A (xM_w cy a I F G) → va_S A s.heap H locs → lv_has ls 4 [(0, .ref (a 0)), (2, .int y2), (3, .int y3)] → WW H locs (F0 m 31 ls []))) := ⟨fun (y2 : Int32) (y3 : Int32) (I : xw_I) (F : xw_F) (G : xw_G) => (∀ (H : Heap) (locs : List Loc) (ls : Array Slot), va_P D vwCl (xM_w cy a I F G) H → va_D A (xM_w cy a I F G) → va_S A s.heap H locs → lv_has ls 4 [(0, .ref (a 0)), (2, .int y2), (3, .int y3)] → WW H locs (F0 m 31 ls [])), fun _ _ _ _ _ h => h, fun _ _ _ _ _ h => h⟩
  obtain ⟨k91, mk91, el91⟩ : ∃ K : Int32 → Int32 → xw_I → xw_F → xw_G → Prop, (∀ (y2 : Int32) (y3 : Int32) (I : xw_I) (F : xw_F) (G : xw_G), (∀ (H : Heap) (locs : List Loc) (ls : Array Slot), va_P D vwCl (xM_w cy a I F G) H → va_D A (xM_w cy a I F G) → va_S A s.heap H locs → lv_has ls 4 [(0, .ref (a 0)), (2, .int y2), (3, .int y3)] → WW H locs (F0 m 91 ls [])) → K y2 y3 I F G) ∧ (∀ (y2 : Int32) (y3 : Int32) (I : xw_I) (F : xw_F) (G : xw_G), K y2 y3 I F G → (∀ (H : Heap) (locs : List Loc) (ls : Array Slot), va_P D vwCl (xM_w cy a I F G) H → va_D A (xM_w cy a I F G) → va_S A s.heap H locs → lv_has ls 4 [(0, .ref (a 0)), (2, .int y2), (3, .int y3)] → WW H locs (F0 m 91 ls []))) := ⟨fun (y2 : Int32) (y3 : Int32) (I : xw_I) (F : xw_F) (G : xw_G) => (∀ (H : Heap) (locs : List Loc) (ls : Array Slot), va_P D vwCl (xM_w cy a I F G) H → va_D A (xM_w cy a I F G) → va_S A s.heap H locs → lv_has ls 4 [(0, .ref (a 0)), (2, .int y2), (3, .int y3)] → WW H locs (F0 m 91 ls [])), fun _ _ _ _ _ h => h, fun _ _ _ _ _ h => h⟩
  obtain ⟨k138, mk138, el138⟩ : ∃ K : Int32 → Int32 → xw_I → xw_F → xw_G → Prop, (∀ (y2 : Int32) (y3 : Int32) (I : xw_I) (F : xw_F) (G : xw_G), (∀ (H : Heap) (locs : List Loc) (ls : Array Slot), va_P D vwCl (xM_w cy a I F G) H → va_D A (xM_w cy a I F G) → va_S A s.heap H locs → lv_has ls 4 [(0, .ref (a 0)), (2, .int y2), (3, .int y3)] → WW H locs (F0 m 138 ls [])) → K y2 y3 I F G) ∧ (∀ (y2 : Int32) (y3 : Int32) (I : xw_I) (F : xw_F) (G : xw_G), K y2 y3 I F G → (∀ (H : Heap) (locs : List Loc) (ls : Array Slot), va_P D vwCl (xM_w cy a I F G) H → va_D A (xM_w cy a I F G) → va_S A s.heap H locs → lv_has ls 4 [(0, .ref (a 0)), (2, .int y2), (3, .int y3)] → WW H locs (F0 m 138 ls []))) := ⟨fun (y2 : Int32) (y3 : Int32) (I : xw_I) (F : xw_F) (G : xw_G) => (∀ (H : Heap) (locs : List Loc) (ls : Array Slot), va_P D vwCl (xM_w cy a I F G) H → va_D A (xM_w cy a I F G) → va_S A s.heap H locs → lv_has ls 4 [(0, .ref (a 0)), (2, .int y2), (3, .int y3)] → WW H locs (F0 m 138 ls [])), fun _ _ _ _ _ h => h, fun _ _ _ _ _ h => h⟩
  have rl31 : ∀ (y2 : Int32) (y3 : Int32) (I : xw_I) (F : xw_F) (G : xw_G), (bd_X8_restore_31 x1 post k31 k91 k138 y2 y3 I F G) → k31 y2 y3 I F G := by
    intro y2 y3 I F G h
    refine mk31 _ _ _ _ _ ?_
    intro H locs ls hP hD hS hl
    refine (hWW _ _ _).mpr ?_
    unfold bd_X8_restore_31 at h
    refine lv_iload_n hx hb dX8_restore_31 rfl (lv_at hl 2 rfl) ?_
    refine lv_iconst (v := 5) hx hb dX8_restore_32 (by decide) ?_
    refine lv_icmp_ge (tgt := 89) hx hb dX8_restore_33 (by decide) (fun c31 => ?_) (fun c31 => ?_)
    · have h := h.1 c31
      refine lv_iconst (v := 0) hx hb dX8_restore_89 (by decide) ?_
      refine lv_istore_n (lv' := [(3, .int (0 : Int32)), (0, .ref (a 0)), (2, .int y2)]) hx hb dX8_restore_90 rfl hl (by decide) rfl (fun ls hl => ?_)
      exact (hWW _ _ _).mp (el91 _ _ _ _ _ h _ _ ls hP hD hS (lv_sub hl [1, 2, 0] rfl))
    · have h := h.2 c31
      refine lv_aload_n hx hb dX8_restore_36 rfl (lv_at hl 0 rfl) ?_
      refine va_get (D := D) (ci := 8) (v := .ref (a 1)) (C := RX8) (T := TX8) (N := 22) hx hb hts mX8_restore_inX8 hown hB.1 hP 0 xM_c0 rfl 1 (by decide) (hts _ mX8_restore_2) (fun _ h9 => h9) rfl dX8_restore_37 ?_
      refine lv_iload_n hx hb dX8_restore_40 rfl (lv_at hl 2 rfl) ?_
      refine lv_aload_n hx hb dX8_restore_41 rfl (lv_at hl 0 rfl) ?_
      refine va_get (D := D) (ci := 8) (v := .ref (a 14)) (C := RX8) (T := TX8) (N := 22) hx hb hts mX8_restore_inX8 hown hB.1 hP 0 xM_c0 rfl 20 (by decide) (hts _ mX8_restore_3) (fun _ h9 => h9) rfl dX8_restore_42 ?_
      refine lv_iload_n hx hb dX8_restore_45 rfl (lv_at hl 1 rfl) ?_
      refine lv_iload_n hx hb dX8_restore_46 rfl (lv_at hl 2 rfl) ?_
      refine lv_iadd hx hb dX8_restore_47 ?_
      refine xw_iald hx hb hB hP 14 xM_c14 h.1 dX8_restore_48 (fun v32 ev32 => ?_)
      have h := h.2 v32 ev32
      refine xw_iast hx hb hB hP hD hS 1 xM_c1 h.1 xM_f1 dX8_restore_49 (fun H locs hP hD hS => ?_)
      have h := h.2
      obtain ⟨F33, eF33⟩ : ∃ f : xw_F, f = xw_up F 1 (upd (F 1) y3.toNatClampNeg v32) := ⟨_, rfl⟩
      rw [← eF33] at hP hD
      have h := h F33 eF33
      refine lv_aload_n hx hb dX8_restore_50 rfl (lv_at hl 0 rfl) ?_
      refine va_get (D := D) (ci := 8) (v := .ref (a 2)) (C := RX8) (T := TX8) (N := 22) hx hb hts mX8_restore_inX8 hown hB.1 hP 0 xM_c0 rfl 2 (by decide) (hts _ mX8_restore_4) (fun _ h9 => h9) rfl dX8_restore_51 ?_
      refine lv_iload_n hx hb dX8_restore_54 rfl (lv_at hl 2 rfl) ?_
      refine lv_aload_n hx hb dX8_restore_55 rfl (lv_at hl 0 rfl) ?_
      refine va_get (D := D) (ci := 8) (v := .ref (a 14)) (C := RX8) (T := TX8) (N := 22) hx hb hts mX8_restore_inX8 hown hB.1 hP 0 xM_c0 rfl 20 (by decide) (hts _ mX8_restore_3) (fun _ h9 => h9) rfl dX8_restore_56 ?_
      refine lv_iload_n hx hb dX8_restore_59 rfl (lv_at hl 1 rfl) ?_
      refine lv_iconst (v := 5) hx hb dX8_restore_60 (by decide) ?_
      refine lv_iadd hx hb dX8_restore_61 ?_
      refine lv_iload_n hx hb dX8_restore_62 rfl (lv_at hl 2 rfl) ?_
      refine lv_iadd hx hb dX8_restore_63 ?_
      refine xw_iald hx hb hB hP 14 xM_c14 h.1 dX8_restore_64 (fun v34 ev34 => ?_)
      have h := h.2 v34 ev34
      refine xw_iast hx hb hB hP hD hS 2 xM_c2 h.1 xM_f2 dX8_restore_65 (fun H locs hP hD hS => ?_)
      have h := h.2
      obtain ⟨F35, eF35⟩ : ∃ f : xw_F, f = xw_up F33 2 (upd (F33 2) y3.toNatClampNeg v34) := ⟨_, rfl⟩
      rw [← eF35] at hP hD
      have h := h F35 eF35
      refine lv_aload_n hx hb dX8_restore_66 rfl (lv_at hl 0 rfl) ?_
      refine va_get (D := D) (ci := 8) (v := .ref (a 3)) (C := RX8) (T := TX8) (N := 22) hx hb hts mX8_restore_inX8 hown hB.1 hP 0 xM_c0 rfl 3 (by decide) (hts _ mX8_restore_5) (fun _ h9 => h9) rfl dX8_restore_67 ?_
      refine lv_iload_n hx hb dX8_restore_70 rfl (lv_at hl 2 rfl) ?_
      refine lv_aload_n hx hb dX8_restore_71 rfl (lv_at hl 0 rfl) ?_
      refine va_get (D := D) (ci := 8) (v := .ref (a 14)) (C := RX8) (T := TX8) (N := 22) hx hb hts mX8_restore_inX8 hown hB.1 hP 0 xM_c0 rfl 20 (by decide) (hts _ mX8_restore_3) (fun _ h9 => h9) rfl dX8_restore_72 ?_
      refine lv_iload_n hx hb dX8_restore_75 rfl (lv_at hl 1 rfl) ?_
      refine lv_bipush (v := 10) hx hb dX8_restore_76 (by decide) ?_
      refine lv_iadd hx hb dX8_restore_78 ?_
      refine lv_iload_n hx hb dX8_restore_79 rfl (lv_at hl 2 rfl) ?_
      refine lv_iadd hx hb dX8_restore_80 ?_
      refine xw_iald hx hb hB hP 14 xM_c14 h.1 dX8_restore_81 (fun v36 ev36 => ?_)
      have h := h.2 v36 ev36
      refine xw_iast hx hb hB hP hD hS 3 xM_c3 h.1 xM_f3 dX8_restore_82 (fun H locs hP hD hS => ?_)
      have h := h.2
      obtain ⟨F37, eF37⟩ : ∃ f : xw_F, f = xw_up F35 3 (upd (F35 3) y3.toNatClampNeg v36) := ⟨_, rfl⟩
      rw [← eF37] at hP hD
      have h := h F37 eF37
      obtain ⟨v38, ev38⟩ : ∃ y : Int32, y = y3 + 1 := ⟨_, rfl⟩
      have h := h v38 ev38
      refine lv_iinc (v := v38) (lv' := [(3, .int v38), (0, .ref (a 0)), (2, .int y2)]) hx hb dX8_restore_83 hl (k := 2) rfl (by rw [ev38]; rfl) (by decide) rfl (fun ls hl => ?_)
      refine lv_goto (tgt := 31) hx hb dX8_restore_86 (by decide) ?_
      exact (hWW _ _ _).mp (el31 _ _ _ _ _ h _ _ ls hP hD hS (lv_sub hl [1, 2, 0] rfl))
  have rl91 : ∀ (y2 : Int32) (y3 : Int32) (I : xw_I) (F : xw_F) (G : xw_G), (bd_X8_restore_91 x1 post k31 k91 k138 y2 y3 I F G) → k91 y2 y3 I F G := by
    intro y2 y3 I F G h
    refine mk91 _ _ _ _ _ ?_
    intro H locs ls hP hD hS hl
    refine (hWW _ _ _).mpr ?_
    unfold bd_X8_restore_91 at h
    refine lv_iload_n hx hb dX8_restore_91 rfl (lv_at hl 2 rfl) ?_
    refine lv_iconst (v := 3) hx hb dX8_restore_92 (by decide) ?_
    refine lv_icmp_ge (tgt := 136) hx hb dX8_restore_93 (by decide) (fun c39 => ?_) (fun c39 => ?_)
    · have h := h.1 c39
      refine lv_iconst (v := 0) hx hb dX8_restore_136 (by decide) ?_
      refine lv_istore_n (lv' := [(3, .int (0 : Int32)), (0, .ref (a 0)), (2, .int y2)]) hx hb dX8_restore_137 rfl hl (by decide) rfl (fun ls hl => ?_)
      exact (hWW _ _ _).mp (el138 _ _ _ _ _ h _ _ ls hP hD hS (lv_sub hl [1, 2, 0] rfl))
    · have h := h.2 c39
      refine lv_aload_n hx hb dX8_restore_96 rfl (lv_at hl 0 rfl) ?_
      refine va_get (D := D) (ci := 8) (v := .ref (a 4)) (C := RX8) (T := TX8) (N := 22) hx hb hts mX8_restore_inX8 hown hB.1 hP 0 xM_c0 rfl 4 (by decide) (hts _ mX8_restore_6) (fun _ h9 => h9) rfl dX8_restore_97 ?_
      refine lv_iload_n hx hb dX8_restore_100 rfl (lv_at hl 2 rfl) ?_
      refine lv_aload_n hx hb dX8_restore_101 rfl (lv_at hl 0 rfl) ?_
      refine va_get (D := D) (ci := 8) (v := .ref (a 14)) (C := RX8) (T := TX8) (N := 22) hx hb hts mX8_restore_inX8 hown hB.1 hP 0 xM_c0 rfl 20 (by decide) (hts _ mX8_restore_3) (fun _ h9 => h9) rfl dX8_restore_102 ?_
      refine lv_iload_n hx hb dX8_restore_105 rfl (lv_at hl 1 rfl) ?_
      refine lv_bipush (v := 15) hx hb dX8_restore_106 (by decide) ?_
      refine lv_iadd hx hb dX8_restore_108 ?_
      refine lv_iload_n hx hb dX8_restore_109 rfl (lv_at hl 2 rfl) ?_
      refine lv_iadd hx hb dX8_restore_110 ?_
      refine xw_iald hx hb hB hP 14 xM_c14 h.1 dX8_restore_111 (fun v40 ev40 => ?_)
      have h := h.2 v40 ev40
      refine xw_iast hx hb hB hP hD hS 4 xM_c4 h.1 xM_f4 dX8_restore_112 (fun H locs hP hD hS => ?_)
      have h := h.2
      obtain ⟨F41, eF41⟩ : ∃ f : xw_F, f = xw_up F 4 (upd (F 4) y3.toNatClampNeg v40) := ⟨_, rfl⟩
      rw [← eF41] at hP hD
      have h := h F41 eF41
      refine lv_aload_n hx hb dX8_restore_113 rfl (lv_at hl 0 rfl) ?_
      refine va_get (D := D) (ci := 8) (v := .ref (a 5)) (C := RX8) (T := TX8) (N := 22) hx hb hts mX8_restore_inX8 hown hB.1 hP 0 xM_c0 rfl 5 (by decide) (hts _ mX8_restore_7) (fun _ h9 => h9) rfl dX8_restore_114 ?_
      refine lv_iload_n hx hb dX8_restore_117 rfl (lv_at hl 2 rfl) ?_
      refine lv_aload_n hx hb dX8_restore_118 rfl (lv_at hl 0 rfl) ?_
      refine va_get (D := D) (ci := 8) (v := .ref (a 14)) (C := RX8) (T := TX8) (N := 22) hx hb hts mX8_restore_inX8 hown hB.1 hP 0 xM_c0 rfl 20 (by decide) (hts _ mX8_restore_3) (fun _ h9 => h9) rfl dX8_restore_119 ?_
      refine lv_iload_n hx hb dX8_restore_122 rfl (lv_at hl 1 rfl) ?_
      refine lv_bipush (v := 18) hx hb dX8_restore_123 (by decide) ?_
      refine lv_iadd hx hb dX8_restore_125 ?_
      refine lv_iload_n hx hb dX8_restore_126 rfl (lv_at hl 2 rfl) ?_
      refine lv_iadd hx hb dX8_restore_127 ?_
      refine xw_iald hx hb hB hP 14 xM_c14 h.1 dX8_restore_128 (fun v42 ev42 => ?_)
      have h := h.2 v42 ev42
      refine xw_iast hx hb hB hP hD hS 5 xM_c5 h.1 xM_f5 dX8_restore_129 (fun H locs hP hD hS => ?_)
      have h := h.2
      obtain ⟨F43, eF43⟩ : ∃ f : xw_F, f = xw_up F41 5 (upd (F41 5) y3.toNatClampNeg v42) := ⟨_, rfl⟩
      rw [← eF43] at hP hD
      have h := h F43 eF43
      obtain ⟨v44, ev44⟩ : ∃ y : Int32, y = y3 + 1 := ⟨_, rfl⟩
      have h := h v44 ev44
      refine lv_iinc (v := v44) (lv' := [(3, .int v44), (0, .ref (a 0)), (2, .int y2)]) hx hb dX8_restore_130 hl (k := 2) rfl (by rw [ev44]; rfl) (by decide) rfl (fun ls hl => ?_)
      refine lv_goto (tgt := 91) hx hb dX8_restore_133 (by decide) ?_
      exact (hWW _ _ _).mp (el91 _ _ _ _ _ h _ _ ls hP hD hS (lv_sub hl [1, 2, 0] rfl))
  have rl138 : ∀ (y2 : Int32) (y3 : Int32) (I : xw_I) (F : xw_F) (G : xw_G), (bd_X8_restore_138 x1 post k31 k91 k138 y2 y3 I F G) → k138 y2 y3 I F G := by
    intro y2 y3 I F G h
    refine mk138 _ _ _ _ _ ?_
    intro H locs ls hP hD hS hl
    refine (hWW _ _ _).mpr ?_
    unfold bd_X8_restore_138 at h
    refine lv_iload_n hx hb dX8_restore_138 rfl (lv_at hl 2 rfl) ?_
    refine lv_bipush (v := 12) hx hb dX8_restore_139 (by decide) ?_
    refine lv_icmp_ge (tgt := 167) hx hb dX8_restore_141 (by decide) (fun c45 => ?_) (fun c45 => ?_)
    · have h := h.1 c45
      refine lv_aload_n hx hb dX8_restore_167 rfl (lv_at hl 0 rfl) ?_
      refine lv_aload_n hx hb dX8_restore_168 rfl (lv_at hl 0 rfl) ?_
      refine va_get (D := D) (ci := 8) (v := .ref (a 14)) (C := RX8) (T := TX8) (N := 22) hx hb hts mX8_restore_inX8 hown hB.1 hP 0 xM_c0 rfl 20 (by decide) (hts _ mX8_restore_3) (fun _ h9 => h9) rfl dX8_restore_169 ?_
      refine lv_iload_n hx hb dX8_restore_172 rfl (lv_at hl 1 rfl) ?_
      refine lv_bipush (v := 33) hx hb dX8_restore_173 (by decide) ?_
      refine lv_iadd hx hb dX8_restore_175 ?_
      refine xw_iald hx hb hB hP 14 xM_c14 h.1 dX8_restore_176 (fun v46 ev46 => ?_)
      have h := h.2 v46 ev46
      refine xw_put (D := D) (ci := 8) (v := .int v46) (ty := .int) (C := RX8) (T := TX8) (N := 22) hx hb hts mX8_restore_inX8 tyX8 tyX8_ok nmX8 hown hB hP hD hS 0 xM_c0 rfl 0 (by decide) (hts _ mX8_restore_9) (fun _ h9 => h9) rfl (by decide +kernel) rfl rfl (Nat.le_of_ble_eq_true rfl) xM_i0 dX8_restore_177 (fun H locs hP hD hS => ?_)
      obtain ⟨I47, eI47⟩ : ∃ f : xw_I, f = xw_up I 0 v46 := ⟨_, rfl⟩
      rw [← eI47] at hP hD
      have h := h I47 eI47
      refine lv_aload_n hx hb dX8_restore_180 rfl (lv_at hl 0 rfl) ?_
      refine lv_aload_n hx hb dX8_restore_181 rfl (lv_at hl 0 rfl) ?_
      refine va_get (D := D) (ci := 8) (v := .ref (a 14)) (C := RX8) (T := TX8) (N := 22) hx hb hts mX8_restore_inX8 hown hB.1 hP 0 xM_c0 rfl 20 (by decide) (hts _ mX8_restore_3) (fun _ h9 => h9) rfl dX8_restore_182 ?_
      refine lv_iload_n hx hb dX8_restore_185 rfl (lv_at hl 1 rfl) ?_
      refine lv_bipush (v := 34) hx hb dX8_restore_186 (by decide) ?_
      refine lv_iadd hx hb dX8_restore_188 ?_
      refine xw_iald hx hb hB hP 14 xM_c14 h.1 dX8_restore_189 (fun v48 ev48 => ?_)
      have h := h.2 v48 ev48
      refine xw_put (D := D) (ci := 8) (v := .int v48) (ty := .int) (C := RX8) (T := TX8) (N := 22) hx hb hts mX8_restore_inX8 tyX8 tyX8_ok nmX8 hown hB hP hD hS 0 xM_c0 rfl 6 (by decide) (hts _ mX8_restore_10) (fun _ h9 => h9) rfl (by decide +kernel) rfl rfl (Nat.le_of_ble_eq_true rfl) xM_i1 dX8_restore_190 (fun H locs hP hD hS => ?_)
      obtain ⟨I49, eI49⟩ : ∃ f : xw_I, f = xw_up I47 1 v48 := ⟨_, rfl⟩
      rw [← eI49] at hP hD
      have h := h I49 eI49
      refine lv_aload_n hx hb dX8_restore_193 rfl (lv_at hl 0 rfl) ?_
      refine lv_aload_n hx hb dX8_restore_194 rfl (lv_at hl 0 rfl) ?_
      refine va_get (D := D) (ci := 8) (v := .ref (a 14)) (C := RX8) (T := TX8) (N := 22) hx hb hts mX8_restore_inX8 hown hB.1 hP 0 xM_c0 rfl 20 (by decide) (hts _ mX8_restore_3) (fun _ h9 => h9) rfl dX8_restore_195 ?_
      refine lv_iload_n hx hb dX8_restore_198 rfl (lv_at hl 1 rfl) ?_
      refine lv_bipush (v := 35) hx hb dX8_restore_199 (by decide) ?_
      refine lv_iadd hx hb dX8_restore_201 ?_
      refine xw_iald hx hb hB hP 14 xM_c14 h.1 dX8_restore_202 (fun v50 ev50 => ?_)
      have h := h.2 v50 ev50
      refine xw_put (D := D) (ci := 8) (v := .int v50) (ty := .int) (C := RX8) (T := TX8) (N := 22) hx hb hts mX8_restore_inX8 tyX8 tyX8_ok nmX8 hown hB hP hD hS 0 xM_c0 rfl 7 (by decide) (hts _ mX8_restore_11) (fun _ h9 => h9) rfl (by decide +kernel) rfl rfl (Nat.le_of_ble_eq_true rfl) xM_i2 dX8_restore_203 (fun H locs hP hD hS => ?_)
      obtain ⟨I51, eI51⟩ : ∃ f : xw_I, f = xw_up I49 2 v50 := ⟨_, rfl⟩
      rw [← eI51] at hP hD
      have h := h I51 eI51
      refine lv_iconst (v := 1) hx hb dX8_restore_206 (by decide) ?_
      exact xw_wreti hx hb hr hlocks hP hD hS h dX8_restore_207
    · have h := h.2 c45
      refine lv_aload_n hx hb dX8_restore_144 rfl (lv_at hl 0 rfl) ?_
      refine va_get (D := D) (ci := 8) (v := .ref (a 6)) (C := RX8) (T := TX8) (N := 22) hx hb hts mX8_restore_inX8 hown hB.1 hP 0 xM_c0 rfl 8 (by decide) (hts _ mX8_restore_8) (fun _ h9 => h9) rfl dX8_restore_145 ?_
      refine lv_iload_n hx hb dX8_restore_148 rfl (lv_at hl 2 rfl) ?_
      refine lv_aload_n hx hb dX8_restore_149 rfl (lv_at hl 0 rfl) ?_
      refine va_get (D := D) (ci := 8) (v := .ref (a 14)) (C := RX8) (T := TX8) (N := 22) hx hb hts mX8_restore_inX8 hown hB.1 hP 0 xM_c0 rfl 20 (by decide) (hts _ mX8_restore_3) (fun _ h9 => h9) rfl dX8_restore_150 ?_
      refine lv_iload_n hx hb dX8_restore_153 rfl (lv_at hl 1 rfl) ?_
      refine lv_bipush (v := 21) hx hb dX8_restore_154 (by decide) ?_
      refine lv_iadd hx hb dX8_restore_156 ?_
      refine lv_iload_n hx hb dX8_restore_157 rfl (lv_at hl 2 rfl) ?_
      refine lv_iadd hx hb dX8_restore_158 ?_
      refine xw_iald hx hb hB hP 14 xM_c14 h.1 dX8_restore_159 (fun v52 ev52 => ?_)
      have h := h.2 v52 ev52
      refine xw_iast hx hb hB hP hD hS 6 xM_c6 h.1 xM_f6 dX8_restore_160 (fun H locs hP hD hS => ?_)
      have h := h.2
      obtain ⟨F53, eF53⟩ : ∃ f : xw_F, f = xw_up F 6 (upd (F 6) y3.toNatClampNeg v52) := ⟨_, rfl⟩
      rw [← eF53] at hP hD
      have h := h F53 eF53
      obtain ⟨v54, ev54⟩ : ∃ y : Int32, y = y3 + 1 := ⟨_, rfl⟩
      have h := h v54 ev54
      refine lv_iinc (v := v54) (lv' := [(3, .int v54), (0, .ref (a 0)), (2, .int y2)]) hx hb dX8_restore_161 hl (k := 2) rfl (by rw [ev54]; rfl) (by decide) rfl (fun ls hl => ?_)
      refine lv_goto (tgt := 138) hx hb dX8_restore_164 (by decide) ?_
      exact (hWW _ _ _).mp (el138 _ _ _ _ _ h _ _ ls hP hD hS (lv_sub hl [1, 2, 0] rfl))
  have h := h k31 k91 k138 rl31 rl91 rl138
  unfold bd_X8_restore_0 at h
  refine lv_iload_n hx hb dX8_restore_0 rfl (lv_at hl 1 rfl) ?_
  refine lv_iconst (v := 0) hx hb dX8_restore_1 (by decide) ?_
  refine lv_iconst (v := 1) hx hb dX8_restore_2 (by decide) ?_
  refine xw_ri (va_runS (rm := { frames := 0, cells := 0, slots := 0, locals := 0 }) (As := [.int x1, .int (0 : Int32), .int (1 : Int32)]) (rest := []) ⟨hx, hb, hml, hown, hts⟩ (c_X8_in l D cy x1 (0 : Int32) (1 : Int32) _ h (fun _ => True)) (va_cwS 3 hts gX8_restore_X8_in rfl rfl rfl (by decide +kernel) ⟨Nat.le_of_ble_eq_true rfl, Nat.le_of_ble_eq_true rfl⟩) (xw_preS hB xw_P0 (xw_D0 (A := fun _ => True))) rfl rfl hl.1 rfl (lv_room (Nat.le_of_ble_eq_true rfl)) dX8_restore_3 ⟨Nat.le_of_ble_eq_true rfl, Nat.le_of_ble_eq_true rfl⟩) (fun r26 h => ?_)
  refine lv_if_ne (tgt := 12) hx hb dX8_restore_6 (by decide) (fun c27 => ?_) (fun c27 => ?_)
  · have h := h.1 c27
    refine lv_aload_n hx hb dX8_restore_12 rfl (lv_at hl 0 rfl) ?_
    refine va_get (D := D) (ci := 8) (v := .ref (a 15)) (C := RX8) (T := TX8) (N := 22) hx hb hts mX8_restore_inX8 hown hB.1 hP 0 xM_c0 rfl 21 (by decide) (hts _ mX8_restore_1) (fun _ h9 => h9) rfl dX8_restore_13 ?_
    refine lv_iload_n hx hb dX8_restore_16 rfl (lv_at hl 1 rfl) ?_
    refine xw_zald hx hb hB hP 15 xM_c15 h.1 dX8_restore_17 (fun v28 ev28 => ?_)
    have h := h.2 v28 ev28
    refine lv_if_ne (tgt := 24) hx hb dX8_restore_18 (by decide) (fun c29 => ?_) (fun c29 => ?_)
    · have h := h.1 c29
      refine lv_bipush (v := 40) hx hb dX8_restore_24 (by decide) ?_
      refine lv_iload_n hx hb dX8_restore_26 rfl (lv_at hl 1 rfl) ?_
      refine lv_imul hx hb dX8_restore_27 ?_
      refine lv_topi (fun v30 ev30 => ?_)
      have h := h v30 ev30
      refine lv_istore_n (lv' := [(2, .int v30), (0, .ref (a 0)), (1, .int x1)]) hx hb dX8_restore_28 rfl hl (by decide) rfl (fun ls hl => ?_)
      refine lv_iconst (v := 0) hx hb dX8_restore_29 (by decide) ?_
      refine lv_istore_n (lv' := [(3, .int (0 : Int32)), (2, .int v30), (0, .ref (a 0)), (1, .int x1)]) hx hb dX8_restore_30 rfl hl (by decide) rfl (fun ls hl => ?_)
      exact (hWW _ _ _).mp (el31 _ _ _ _ _ h _ _ ls hP hD hS (lv_sub hl [2, 1, 0] rfl))
    · have h := h.2 c29
      refine lv_bipush (v := -3) hx hb dX8_restore_21 (by decide) ?_
      exact xw_wreti hx hb hr hlocks hP hD hS h dX8_restore_23
  · have h := h.2 c27
    refine lv_bipush (v := -2) hx hb dX8_restore_9 (by decide) ?_
    exact xw_wreti hx hb hr hlocks hP hD hS h dX8_restore_11

theorem mX8_told_1 : Cond.fieldLink RX8 61 "TagCarrierModel" "signs" "I" ∈ wsX8_told := List.mem_of_getElem? (i := 1) rfl
theorem mX8_told_inX8 : ∀ w ∈ u_ws RX8 TX8 22, w ∈ wsX8_told := by decide +kernel
theorem mX8_told_2 : Cond.fieldLink RX8 69 "TagCarrierModel" "words" "I" ∈ wsX8_told := List.mem_of_getElem? (i := 2) rfl
theorem mX8_told_3 : Cond.fieldLink RX8 78 "TagCarrierModel" "target" "I" ∈ wsX8_told := List.mem_of_getElem? (i := 3) rfl
theorem mX8_told_4 : Cond.fieldLink RX8 25 "TagCarrierModel" "links" "[I" ∈ wsX8_told := List.mem_of_getElem? (i := 4) rfl
set_option maxHeartbeats 4000000 in
set_option maxRecDepth 100000 in
theorem c_X8_told (l : Launch) (D : va_G) (cy : Nat → ClassId) (a : Nat → Nat) (x1 : Int32) (I : xw_I) (F : xw_F) (G : xw_G) (post : Int32 → Prop) (h : sm_X8_told x1 I F G post) : xw_Ri l yX8_told wsX8_told ({ frames := 1, cells := 0, slots := 0, locals := 22 }) D cy [.ref (a 0), .int x1] (xM_w cy a I F G) post := by
  intro A
  refine Met.ofW (cc := cX8_told) (maxL := 2) (ret := (some .int)) (by decide) rfl ?_
  intro p e s m args below meth c s₁ B hml hv
  obtain ⟨rfl, hP, hB, hD⟩ := hv
  have hP : va_P D vwCl (xM_w cy a I F G) s.heap := hP
  have hx := B.exec
  have hb := B.bytes
  have hr := B.returns
  have hts := atoms_spec (ws := wsX8_told) B.pre
  have hown : s.vm.findClass RX8 = some m.cls := findClass_of_methodNamed B.named
  have hlocks := B.notSynchronized
  refine xw_go (fun WW hWW => ?_)
  have hl := lv_entry ([.ref (a 0), .int x1]) (n := 2) (Nat.le_of_ble_eq_true rfl)
  rw [lg_entry_eq]
  generalize (lg_sl ([.ref (a 0), .int x1]) ++ List.replicate (2 - (lg_sl ([.ref (a 0), .int x1])).length) Slot.unset).toArray = ls at hl ⊢
  have hl : lv_has ls 2 [(0, .ref (a 0)), (1, .int x1)] := hl
  unfold sm_X8_told at h
  refine lv_iload_n hx hb dX8_told_0 rfl (lv_at hl 1 rfl) ?_
  by_cases c4 : x1 = 0
  · have h := h.1 c4
    refine lv_tableIn (tgt := 28) hx hb dX8_told_1 (by rw [c4]; decide) (by rw [c4]; decide) (by rw [c4]; rfl) (by decide) ?_
    refine lv_aload_n hx hb dX8_told_28 rfl (lv_at hl 0 rfl) ?_
    refine va_get (D := D) (ci := 8) (v := .int (I 3)) (C := RX8) (T := TX8) (N := 22) hx hb hts mX8_told_inX8 hown hB.1 hP 0 xM_c0 rfl 9 (by decide) (hts _ mX8_told_1) (fun _ h9 => h9) rfl dX8_told_29 ?_
    exact xw_ireti hx hb hr hlocks h dX8_told_32
  have h := h.2
  have c4_0 := c4
  clear c4
  by_cases c4 : x1 = 1
  · have h := h.1 c4
    refine lv_tableIn (tgt := 33) hx hb dX8_told_1 (by rw [c4]; decide) (by rw [c4]; decide) (by rw [c4]; rfl) (by decide) ?_
    refine lv_aload_n hx hb dX8_told_33 rfl (lv_at hl 0 rfl) ?_
    refine va_get (D := D) (ci := 8) (v := .int (I 0)) (C := RX8) (T := TX8) (N := 22) hx hb hts mX8_told_inX8 hown hB.1 hP 0 xM_c0 rfl 0 (by decide) (hts _ mX8_told_2) (fun _ h9 => h9) rfl dX8_told_34 ?_
    exact xw_ireti hx hb hr hlocks h dX8_told_37
  have h := h.2
  have c4_1 := c4
  clear c4
  by_cases c4 : x1 = 2
  · have h := h.1 c4
    refine lv_tableIn (tgt := 38) hx hb dX8_told_1 (by rw [c4]; decide) (by rw [c4]; decide) (by rw [c4]; rfl) (by decide) ?_
    refine lv_aload_n hx hb dX8_told_38 rfl (lv_at hl 0 rfl) ?_
    refine va_get (D := D) (ci := 8) (v := .int (I 2)) (C := RX8) (T := TX8) (N := 22) hx hb hts mX8_told_inX8 hown hB.1 hP 0 xM_c0 rfl 7 (by decide) (hts _ mX8_told_3) (fun _ h9 => h9) rfl dX8_told_39 ?_
    exact xw_ireti hx hb hr hlocks h dX8_told_42
  have h := h.2
  have c4_2 := c4
  clear c4
  have h := h c4_0 c4_1 c4_2
  refine lv_tableOut (tgt := 43) hx hb dX8_told_1 (xw_tab2 c4_0 c4_1 c4_2) (by decide) ?_
  refine lv_iload_n hx hb dX8_told_43 rfl (lv_at hl 1 rfl) ?_
  refine lv_bipush (v := 10) hx hb dX8_told_44 (by decide) ?_
  refine lv_bipush (v := 9) hx hb dX8_told_46 (by decide) ?_
  refine lv_aload_n hx hb dX8_told_48 rfl (lv_at hl 0 rfl) ?_
  refine va_get (D := D) (ci := 8) (v := .int (I 0)) (C := RX8) (T := TX8) (N := 22) hx hb hts mX8_told_inX8 hown hB.1 hP 0 xM_c0 rfl 0 (by decide) (hts _ mX8_told_2) (fun _ h9 => h9) rfl dX8_told_49 ?_
  refine lv_iadd hx hb dX8_told_52 ?_
  refine xw_ri (va_runS (rm := { frames := 0, cells := 0, slots := 0, locals := 0 }) (As := [.int x1, .int (10 : Int32), .int ((9 : Int32) + (I 0))]) (rest := []) ⟨hx, hb, hml, hown, hts⟩ (c_X8_in l D cy x1 (10 : Int32) ((9 : Int32) + (I 0)) _ h (fun _ => True)) (va_cwS 3 hts gX8_told_X8_in rfl rfl rfl (by decide +kernel) ⟨Nat.le_of_ble_eq_true rfl, Nat.le_of_ble_eq_true rfl⟩) (xw_preS hB xw_P0 (xw_D0 (A := fun _ => True))) rfl rfl hl.1 rfl (lv_room (Nat.le_of_ble_eq_true rfl)) dX8_told_53 ⟨Nat.le_of_ble_eq_true rfl, Nat.le_of_ble_eq_true rfl⟩) (fun r5 h => ?_)
  refine lv_if_eq (tgt := 71) hx hb dX8_told_56 (by decide) (fun c6 => ?_) (fun c6 => ?_)
  · have h := h.1 c6
    refine lv_bipush (v := -2) hx hb dX8_told_71 (by decide) ?_
    exact xw_ireti hx hb hr hlocks h dX8_told_73
  · have h := h.2 c6
    refine lv_aload_n hx hb dX8_told_59 rfl (lv_at hl 0 rfl) ?_
    refine va_get (D := D) (ci := 8) (v := .ref (a 6)) (C := RX8) (T := TX8) (N := 22) hx hb hts mX8_told_inX8 hown hB.1 hP 0 xM_c0 rfl 8 (by decide) (hts _ mX8_told_4) (fun _ h9 => h9) rfl dX8_told_60 ?_
    refine lv_iload_n hx hb dX8_told_63 rfl (lv_at hl 1 rfl) ?_
    refine lv_bipush (v := 10) hx hb dX8_told_64 (by decide) ?_
    refine lv_isub hx hb dX8_told_66 ?_
    refine xw_iald hx hb hB hP 6 xM_c6 h.1 dX8_told_67 (fun v7 ev7 => ?_)
    have h := h.2 v7 ev7
    refine lv_goto (tgt := 73) hx hb dX8_told_68 (by decide) ?_
    exact xw_ireti hx hb hr hlocks h dX8_told_73
