theorem xw_tab6 {x : Int32} (h0 : ¬ x = 0) (h1 : ¬ x = 1) (h2 : ¬ x = 2) (h3 : ¬ x = 3) (h4 : ¬ x = 4) (h5 : ¬ x = 5) (h6 : ¬ x = 6) : x.toInt < 0 ∨ 6 < x.toInt := by
  have g0 := xw_ne (a := 0) h0 (by decide)
  have g1 := xw_ne (a := 1) h1 (by decide)
  have g2 := xw_ne (a := 2) h2 (by decide)
  have g3 := xw_ne (a := 3) h3 (by decide)
  have g4 := xw_ne (a := 4) h4 (by decide)
  have g5 := xw_ne (a := 5) h5 (by decide)
  have g6 := xw_ne (a := 6) h6 (by decide)
  omega
theorem xw_tab8 {x : Int32} (h0 : ¬ x = 0) (h1 : ¬ x = 1) (h2 : ¬ x = 2) (h3 : ¬ x = 3) (h4 : ¬ x = 4) (h5 : ¬ x = 5) (h6 : ¬ x = 6) (h7 : ¬ x = 7) (h8 : ¬ x = 8) : x.toInt < 0 ∨ 8 < x.toInt := by
  have g0 := xw_ne (a := 0) h0 (by decide)
  have g1 := xw_ne (a := 1) h1 (by decide)
  have g2 := xw_ne (a := 2) h2 (by decide)
  have g3 := xw_ne (a := 3) h3 (by decide)
  have g4 := xw_ne (a := 4) h4 (by decide)
  have g5 := xw_ne (a := 5) h5 (by decide)
  have g6 := xw_ne (a := 6) h6 (by decide)
  have g7 := xw_ne (a := 7) h7 (by decide)
  have g8 := xw_ne (a := 8) h8 (by decide)
  omega
theorem mX8_placeMarks_1 : Cond.fieldLink RX8 78 "TagCarrierModel" "target" "I" ∈ wsX8_placeMarks := List.mem_of_getElem? (i := 1) rfl
theorem mX8_placeMarks_inX8 : ∀ w ∈ u_ws RX8 TX8 22, w ∈ wsX8_placeMarks := by decide +kernel
theorem mX8_placeMarks_2 : Cond.fieldLink RX8 72 "TagCarrierModel" "marks" "I" ∈ wsX8_placeMarks := List.mem_of_getElem? (i := 2) rfl
theorem mX8_placeMarks_3 : Cond.fieldLink RX8 144 "TagCarrierModel" "moved" "I" ∈ wsX8_placeMarks := List.mem_of_getElem? (i := 3) rfl
theorem mX8_placeMarks_4 : Cond.fieldLink RX8 19 "TagCarrierModel" "markGap" "[I" ∈ wsX8_placeMarks := List.mem_of_getElem? (i := 4) rfl
theorem mX8_placeMarks_5 : Cond.fieldLink RX8 22 "TagCarrierModel" "order" "[I" ∈ wsX8_placeMarks := List.mem_of_getElem? (i := 5) rfl
theorem mX8_placeMarks_6 : Cond.fieldLink RX8 44 "TagCarrierModel" "markAt" "[I" ∈ wsX8_placeMarks := List.mem_of_getElem? (i := 6) rfl
set_option maxHeartbeats 4000000 in
set_option maxRecDepth 100000 in
theorem c_X8_placeMarks (l : Launch) (D : va_G) (cy : Nat → ClassId) (a : Nat → Nat) (I : xw_I) (F : xw_F) (G : xw_G) (post : xw_I → xw_F → xw_G → Prop) (h : sm_X8_placeMarks I F G post) : xw_Wv l yX8_placeMarks wsX8_placeMarks ({ frames := 1, cells := 0, slots := 0, locals := 23 }) D cy [.ref (a 0)] (xM_w cy a I F G) (xM_w cy a) post := by
  intro A
  refine Met.ofW (cc := cX8_placeMarks) (maxL := 10) (ret := none) (by decide) rfl ?_
  intro p e s m args below meth c s₁ B hml hv
  obtain ⟨rfl, hP, hB, hD⟩ := hv
  have hP : va_P D vwCl (xM_w cy a I F G) s.heap := hP
  have hx := B.exec
  have hb := B.bytes
  have hr := B.returns
  have hts := atoms_spec (ws := wsX8_placeMarks) B.pre
  have hown : s.vm.findClass RX8 = some m.cls := findClass_of_methodNamed B.named
  have hlocks := B.notSynchronized
  have hS : va_S A s.heap s.heap [] := va_S.rf
  refine xw_go (fun WW hWW => ?_)
  have hl := lv_entry ([.ref (a 0)]) (n := 10) (Nat.le_of_ble_eq_true rfl)
  rw [lg_entry_eq]
  generalize (lg_sl ([.ref (a 0)]) ++ List.replicate (10 - (lg_sl ([.ref (a 0)])).length) Slot.unset).toArray = ls at hl ⊢
  have hl : lv_has ls 10 [(0, .ref (a 0))] := hl
  obtain ⟨k11, mk11, el11⟩ : ∃ K : Int32 → Int32 → Int32 → xw_I → xw_F → xw_G → Prop, (∀ (y1 : Int32) (y2 : Int32) (y3 : Int32) (I : xw_I) (F : xw_F) (G : xw_G), (∀ (H : Heap) (locs : List Loc) (ls : Array Slot), va_P D vwCl (xM_w cy a I F G) H → va_D A (xM_w cy a I F G) → va_S A s.heap H locs → lv_has ls 10 [(0, .ref (a 0)), (1, .int y1), (2, .int y2), (3, .int y3)] → WW H locs (F0 m 11 ls [])) → K y1 y2 y3 I F G) ∧ (∀ (y1 : Int32) (y2 : Int32) (y3 : Int32) (I : xw_I) (F : xw_F) (G : xw_G), K y1 y2 y3 I F G → (∀ (H : Heap) (locs : List Loc) (ls : Array Slot), va_P D vwCl (xM_w cy a I F G) H → va_D A (xM_w cy a I F G) → va_S A s.heap H locs → lv_has ls 10 [(0, .ref (a 0)), (1, .int y1), (2, .int y2), (3, .int y3)] → WW H locs (F0 m 11 ls []))) := ⟨fun (y1 : Int32) (y2 : Int32) (y3 : Int32) (I : xw_I) (F : xw_F) (G : xw_G) => (∀ (H : Heap) (locs : List Loc) (ls : Array Slot), va_P D vwCl (xM_w cy a I F G) H → va_D A (xM_w cy a I F G) → va_S A s.heap H locs → lv_has ls 10 [(0, .ref (a 0)), (1, .int y1), (2, .int y2), (3, .int y3)] → WW H locs (F0 m 11 ls [])), fun _ _ _ _ _ _ h => h, fun _ _ _ _ _ _ h => h⟩
  obtain ⟨k37, mk37, el37⟩ : ∃ K : Int32 → Int32 → Int32 → xw_I → xw_F → xw_G → Prop, (∀ (y1 : Int32) (y2 : Int32) (y3 : Int32) (I : xw_I) (F : xw_F) (G : xw_G), (∀ (H : Heap) (locs : List Loc) (ls : Array Slot), va_P D vwCl (xM_w cy a I F G) H → va_D A (xM_w cy a I F G) → va_S A s.heap H locs → lv_has ls 10 [(0, .ref (a 0)), (1, .int y1), (2, .int y2), (3, .int y3)] → WW H locs (F0 m 37 ls [])) → K y1 y2 y3 I F G) ∧ (∀ (y1 : Int32) (y2 : Int32) (y3 : Int32) (I : xw_I) (F : xw_F) (G : xw_G), K y1 y2 y3 I F G → (∀ (H : Heap) (locs : List Loc) (ls : Array Slot), va_P D vwCl (xM_w cy a I F G) H → va_D A (xM_w cy a I F G) → va_S A s.heap H locs → lv_has ls 10 [(0, .ref (a 0)), (1, .int y1), (2, .int y2), (3, .int y3)] → WW H locs (F0 m 37 ls []))) := ⟨fun (y1 : Int32) (y2 : Int32) (y3 : Int32) (I : xw_I) (F : xw_F) (G : xw_G) => (∀ (H : Heap) (locs : List Loc) (ls : Array Slot), va_P D vwCl (xM_w cy a I F G) H → va_D A (xM_w cy a I F G) → va_S A s.heap H locs → lv_has ls 10 [(0, .ref (a 0)), (1, .int y1), (2, .int y2), (3, .int y3)] → WW H locs (F0 m 37 ls [])), fun _ _ _ _ _ _ h => h, fun _ _ _ _ _ _ h => h⟩
  obtain ⟨k59, mk59, el59⟩ : ∃ K : Int32 → Int32 → Int32 → Int32 → Int32 → Int32 → Int32 → Int32 → xw_I → xw_F → xw_G → Prop, (∀ (y1 : Int32) (y2 : Int32) (y3 : Int32) (y4 : Int32) (y5 : Int32) (y6 : Int32) (y7 : Int32) (y8 : Int32) (I : xw_I) (F : xw_F) (G : xw_G), (∀ (H : Heap) (locs : List Loc) (ls : Array Slot), va_P D vwCl (xM_w cy a I F G) H → va_D A (xM_w cy a I F G) → va_S A s.heap H locs → lv_has ls 10 [(0, .ref (a 0)), (1, .int y1), (2, .int y2), (3, .int y3), (4, .int y4), (5, .int y5), (6, .int y6), (7, .int y7), (8, .int y8)] → WW H locs (F0 m 59 ls [])) → K y1 y2 y3 y4 y5 y6 y7 y8 I F G) ∧ (∀ (y1 : Int32) (y2 : Int32) (y3 : Int32) (y4 : Int32) (y5 : Int32) (y6 : Int32) (y7 : Int32) (y8 : Int32) (I : xw_I) (F : xw_F) (G : xw_G), K y1 y2 y3 y4 y5 y6 y7 y8 I F G → (∀ (H : Heap) (locs : List Loc) (ls : Array Slot), va_P D vwCl (xM_w cy a I F G) H → va_D A (xM_w cy a I F G) → va_S A s.heap H locs → lv_has ls 10 [(0, .ref (a 0)), (1, .int y1), (2, .int y2), (3, .int y3), (4, .int y4), (5, .int y5), (6, .int y6), (7, .int y7), (8, .int y8)] → WW H locs (F0 m 59 ls []))) := ⟨fun (y1 : Int32) (y2 : Int32) (y3 : Int32) (y4 : Int32) (y5 : Int32) (y6 : Int32) (y7 : Int32) (y8 : Int32) (I : xw_I) (F : xw_F) (G : xw_G) => (∀ (H : Heap) (locs : List Loc) (ls : Array Slot), va_P D vwCl (xM_w cy a I F G) H → va_D A (xM_w cy a I F G) → va_S A s.heap H locs → lv_has ls 10 [(0, .ref (a 0)), (1, .int y1), (2, .int y2), (3, .int y3), (4, .int y4), (5, .int y5), (6, .int y6), (7, .int y7), (8, .int y8)] → WW H locs (F0 m 59 ls [])), fun _ _ _ _ _ _ _ _ _ _ _ h => h, fun _ _ _ _ _ _ _ _ _ _ _ h => h⟩
  obtain ⟨k93, mk93, el93⟩ : ∃ K : Int32 → Int32 → Int32 → Int32 → Int32 → Int32 → Int32 → Int32 → xw_I → xw_F → xw_G → Prop, (∀ (y1 : Int32) (y2 : Int32) (y3 : Int32) (y4 : Int32) (y6 : Int32) (y8 : Int32) (y9 : Int32) (t0 : Int32) (I : xw_I) (F : xw_F) (G : xw_G), (∀ (H : Heap) (locs : List Loc) (ls : Array Slot), va_P D vwCl (xM_w cy a I F G) H → va_D A (xM_w cy a I F G) → va_S A s.heap H locs → lv_has ls 10 [(0, .ref (a 0)), (1, .int y1), (2, .int y2), (3, .int y3), (4, .int y4), (6, .int y6), (8, .int y8), (9, .int y9)] → WW H locs (F0 m 93 ls [.int t0])) → K y1 y2 y3 y4 y6 y8 y9 t0 I F G) ∧ (∀ (y1 : Int32) (y2 : Int32) (y3 : Int32) (y4 : Int32) (y6 : Int32) (y8 : Int32) (y9 : Int32) (t0 : Int32) (I : xw_I) (F : xw_F) (G : xw_G), K y1 y2 y3 y4 y6 y8 y9 t0 I F G → (∀ (H : Heap) (locs : List Loc) (ls : Array Slot), va_P D vwCl (xM_w cy a I F G) H → va_D A (xM_w cy a I F G) → va_S A s.heap H locs → lv_has ls 10 [(0, .ref (a 0)), (1, .int y1), (2, .int y2), (3, .int y3), (4, .int y4), (6, .int y6), (8, .int y8), (9, .int y9)] → WW H locs (F0 m 93 ls [.int t0]))) := ⟨fun (y1 : Int32) (y2 : Int32) (y3 : Int32) (y4 : Int32) (y6 : Int32) (y8 : Int32) (y9 : Int32) (t0 : Int32) (I : xw_I) (F : xw_F) (G : xw_G) => (∀ (H : Heap) (locs : List Loc) (ls : Array Slot), va_P D vwCl (xM_w cy a I F G) H → va_D A (xM_w cy a I F G) → va_S A s.heap H locs → lv_has ls 10 [(0, .ref (a 0)), (1, .int y1), (2, .int y2), (3, .int y3), (4, .int y4), (6, .int y6), (8, .int y8), (9, .int y9)] → WW H locs (F0 m 93 ls [.int t0])), fun _ _ _ _ _ _ _ _ _ _ _ h => h, fun _ _ _ _ _ _ _ _ _ _ _ h => h⟩
  obtain ⟨k158, mk158, el158⟩ : ∃ K : Int32 → Int32 → Int32 → Int32 → xw_I → xw_F → xw_G → Prop, (∀ (y1 : Int32) (y2 : Int32) (y3 : Int32) (y4 : Int32) (I : xw_I) (F : xw_F) (G : xw_G), (∀ (H : Heap) (locs : List Loc) (ls : Array Slot), va_P D vwCl (xM_w cy a I F G) H → va_D A (xM_w cy a I F G) → va_S A s.heap H locs → lv_has ls 10 [(0, .ref (a 0)), (1, .int y1), (2, .int y2), (3, .int y3), (4, .int y4)] → WW H locs (F0 m 158 ls [])) → K y1 y2 y3 y4 I F G) ∧ (∀ (y1 : Int32) (y2 : Int32) (y3 : Int32) (y4 : Int32) (I : xw_I) (F : xw_F) (G : xw_G), K y1 y2 y3 y4 I F G → (∀ (H : Heap) (locs : List Loc) (ls : Array Slot), va_P D vwCl (xM_w cy a I F G) H → va_D A (xM_w cy a I F G) → va_S A s.heap H locs → lv_has ls 10 [(0, .ref (a 0)), (1, .int y1), (2, .int y2), (3, .int y3), (4, .int y4)] → WW H locs (F0 m 158 ls []))) := ⟨fun (y1 : Int32) (y2 : Int32) (y3 : Int32) (y4 : Int32) (I : xw_I) (F : xw_F) (G : xw_G) => (∀ (H : Heap) (locs : List Loc) (ls : Array Slot), va_P D vwCl (xM_w cy a I F G) H → va_D A (xM_w cy a I F G) → va_S A s.heap H locs → lv_has ls 10 [(0, .ref (a 0)), (1, .int y1), (2, .int y2), (3, .int y3), (4, .int y4)] → WW H locs (F0 m 158 ls [])), fun _ _ _ _ _ _ _ h => h, fun _ _ _ _ _ _ _ h => h⟩
  obtain ⟨k172, mk172, el172⟩ : ∃ K : Int32 → Int32 → Int32 → Int32 → Int32 → xw_I → xw_F → xw_G → Prop, (∀ (y1 : Int32) (y2 : Int32) (y3 : Int32) (y6 : Int32) (y8 : Int32) (I : xw_I) (F : xw_F) (G : xw_G), (∀ (H : Heap) (locs : List Loc) (ls : Array Slot), va_P D vwCl (xM_w cy a I F G) H → va_D A (xM_w cy a I F G) → va_S A s.heap H locs → lv_has ls 10 [(0, .ref (a 0)), (1, .int y1), (2, .int y2), (3, .int y3), (6, .int y6), (8, .int y8)] → WW H locs (F0 m 172 ls [])) → K y1 y2 y3 y6 y8 I F G) ∧ (∀ (y1 : Int32) (y2 : Int32) (y3 : Int32) (y6 : Int32) (y8 : Int32) (I : xw_I) (F : xw_F) (G : xw_G), K y1 y2 y3 y6 y8 I F G → (∀ (H : Heap) (locs : List Loc) (ls : Array Slot), va_P D vwCl (xM_w cy a I F G) H → va_D A (xM_w cy a I F G) → va_S A s.heap H locs → lv_has ls 10 [(0, .ref (a 0)), (1, .int y1), (2, .int y2), (3, .int y3), (6, .int y6), (8, .int y8)] → WW H locs (F0 m 172 ls []))) := ⟨fun (y1 : Int32) (y2 : Int32) (y3 : Int32) (y6 : Int32) (y8 : Int32) (I : xw_I) (F : xw_F) (G : xw_G) => (∀ (H : Heap) (locs : List Loc) (ls : Array Slot), va_P D vwCl (xM_w cy a I F G) H → va_D A (xM_w cy a I F G) → va_S A s.heap H locs → lv_has ls 10 [(0, .ref (a 0)), (1, .int y1), (2, .int y2), (3, .int y3), (6, .int y6), (8, .int y8)] → WW H locs (F0 m 172 ls [])), fun _ _ _ _ _ _ _ _ h => h, fun _ _ _ _ _ _ _ _ h => h⟩
  have rl11 : ∀ (y1 : Int32) (y2 : Int32) (y3 : Int32) (I : xw_I) (F : xw_F) (G : xw_G), (bd_X8_placeMarks_11 post k11 k37 k59 k93 k158 k172 y1 y2 y3 I F G) → k11 y1 y2 y3 I F G := by
    intro y1 y2 y3 I F G h
    refine mk11 _ _ _ _ _ _ ?_
    intro H locs ls hP hD hS hl
    refine (hWW _ _ _).mpr ?_
    unfold bd_X8_placeMarks_11 at h
    refine lv_iload_n hx hb dX8_placeMarks_11 rfl (lv_at hl 3 rfl) ?_
    refine lv_aload_n hx hb dX8_placeMarks_12 rfl (lv_at hl 0 rfl) ?_
    refine va_get (D := D) (ci := 8) (v := .int (I 1)) (C := RX8) (T := TX8) (N := 22) hx hb hts mX8_placeMarks_inX8 hown hB.1 hP 0 xM_c0 rfl 6 (by decide) (hts _ mX8_placeMarks_2) (fun _ h9 => h9) rfl dX8_placeMarks_13 ?_
    refine lv_icmp_ge (tgt := 29) hx hb dX8_placeMarks_16 (by decide) (fun c29 => ?_) (fun c29 => ?_)
    · have h := h.1 c29
      refine lv_aload_n hx hb dX8_placeMarks_29 rfl (lv_at hl 0 rfl) ?_
      refine lv_bipush (v := -6) hx hb dX8_placeMarks_30 (by decide) ?_
      refine xw_put (D := D) (ci := 8) (v := .int (-6 : Int32)) (ty := .int) (C := RX8) (T := TX8) (N := 22) hx hb hts mX8_placeMarks_inX8 tyX8 tyX8_ok nmX8 hown hB hP hD hS 0 xM_c0 rfl 17 (by decide) (hts _ mX8_placeMarks_3) (fun _ h9 => h9) rfl (by decide +kernel) rfl rfl (Nat.le_of_ble_eq_true rfl) xM_i4 dX8_placeMarks_32 (fun H locs hP hD hS => ?_)
      obtain ⟨I30, eI30⟩ : ∃ f : xw_I, f = xw_up I 4 (-6 : Int32) := ⟨_, rfl⟩
      rw [← eI30] at hP hD
      have h := h I30 eI30
      refine lv_iconst (v := 0) hx hb dX8_placeMarks_35 (by decide) ?_
      refine lv_istore_n (lv' := [(3, .int (0 : Int32)), (0, .ref (a 0)), (1, .int y1), (2, .int y2)]) hx hb dX8_placeMarks_36 rfl hl (by decide) rfl (fun ls hl => ?_)
      exact (hWW _ _ _).mp (el37 _ _ _ _ _ _ h _ _ ls hP hD hS (lv_sub hl [1, 2, 3, 0] rfl))
    · have h := h.2 c29
      refine lv_iload_n hx hb dX8_placeMarks_19 rfl (lv_at hl 2 rfl) ?_
      refine lv_iload_n hx hb dX8_placeMarks_20 rfl (lv_at hl 1 rfl) ?_
      refine lv_imul hx hb dX8_placeMarks_21 ?_
      refine lv_topi (fun v31 ev31 => ?_)
      have h := h v31 ev31
      refine lv_istore_n (lv' := [(2, .int v31), (0, .ref (a 0)), (1, .int y1), (3, .int y3)]) hx hb dX8_placeMarks_22 rfl hl (by decide) rfl (fun ls hl => ?_)
      obtain ⟨v32, ev32⟩ : ∃ y : Int32, y = y3 + 1 := ⟨_, rfl⟩
      have h := h v32 ev32
      refine lv_iinc (v := v32) (lv' := [(3, .int v32), (2, .int v31), (0, .ref (a 0)), (1, .int y1)]) hx hb dX8_placeMarks_23 hl (k := 3) rfl (by rw [ev32]; rfl) (by decide) rfl (fun ls hl => ?_)
      refine lv_goto (tgt := 11) hx hb dX8_placeMarks_26 (by decide) ?_
      exact (hWW _ _ _).mp (el11 _ _ _ _ _ _ h _ _ ls hP hD hS (lv_sub hl [2, 3, 1, 0] rfl))
  have rl37 : ∀ (y1 : Int32) (y2 : Int32) (y3 : Int32) (I : xw_I) (F : xw_F) (G : xw_G), (bd_X8_placeMarks_37 post k11 k37 k59 k93 k158 k172 y1 y2 y3 I F G) → k37 y1 y2 y3 I F G := by
    intro y1 y2 y3 I F G h
    refine mk37 _ _ _ _ _ _ ?_
    intro H locs ls hP hD hS hl
    refine (hWW _ _ _).mpr ?_
    unfold bd_X8_placeMarks_37 at h
    refine lv_iload_n hx hb dX8_placeMarks_37 rfl (lv_at hl 3 rfl) ?_
    refine lv_iload_n hx hb dX8_placeMarks_38 rfl (lv_at hl 2 rfl) ?_
    refine lv_icmp_ge (tgt := 217) hx hb dX8_placeMarks_39 (by decide) (fun c33 => ?_) (fun c33 => ?_)
    · have h := h.1 c33
      exact xw_wretv hx hb hr hlocks hP hD hS h dX8_placeMarks_217
    · have h := h.2 c33
      refine lv_iconst (v := 0) hx hb dX8_placeMarks_42 (by decide) ?_
      refine lv_istore (lv' := [(4, .int (0 : Int32)), (0, .ref (a 0)), (1, .int y1), (2, .int y2), (3, .int y3)]) hx hb dX8_placeMarks_43 hl (by decide) rfl (fun ls hl => ?_)
      refine lv_iconst (v := 0) hx hb dX8_placeMarks_45 (by decide) ?_
      refine lv_istore (lv' := [(5, .int (0 : Int32)), (4, .int (0 : Int32)), (0, .ref (a 0)), (1, .int y1), (2, .int y2), (3, .int y3)]) hx hb dX8_placeMarks_46 hl (by decide) rfl (fun ls hl => ?_)
      refine lv_iload_n hx hb dX8_placeMarks_48 rfl (lv_at hl 4 rfl) ?_
      refine lv_iload_n hx hb dX8_placeMarks_49 rfl (lv_at hl 3 rfl) ?_
      refine lv_idiv hx hb dX8_placeMarks_50 h.1 ?_
      have h := h.2
      refine lv_topi (fun v34 ev34 => ?_)
      have h := h v34 ev34
      refine lv_istore (lv' := [(6, .int v34), (5, .int (0 : Int32)), (4, .int (0 : Int32)), (0, .ref (a 0)), (1, .int y1), (2, .int y2), (3, .int y3)]) hx hb dX8_placeMarks_51 hl (by decide) rfl (fun ls hl => ?_)
      refine lv_iconst (v := 1) hx hb dX8_placeMarks_53 (by decide) ?_
      refine lv_istore (lv' := [(7, .int (1 : Int32)), (6, .int v34), (5, .int (0 : Int32)), (4, .int (0 : Int32)), (0, .ref (a 0)), (1, .int y1), (2, .int y2), (3, .int y3)]) hx hb dX8_placeMarks_54 hl (by decide) rfl (fun ls hl => ?_)
      refine lv_iconst (v := 0) hx hb dX8_placeMarks_56 (by decide) ?_
      refine lv_istore (lv' := [(8, .int (0 : Int32)), (7, .int (1 : Int32)), (6, .int v34), (5, .int (0 : Int32)), (4, .int (0 : Int32)), (0, .ref (a 0)), (1, .int y1), (2, .int y2), (3, .int y3)]) hx hb dX8_placeMarks_57 hl (by decide) rfl (fun ls hl => ?_)
      exact (hWW _ _ _).mp (el59 _ _ _ _ _ _ _ _ _ _ _ h _ _ ls hP hD hS (lv_sub hl [5, 6, 7, 8, 4, 3, 2, 1, 0] rfl))
  have rl59 : ∀ (y1 : Int32) (y2 : Int32) (y3 : Int32) (y4 : Int32) (y5 : Int32) (y6 : Int32) (y7 : Int32) (y8 : Int32) (I : xw_I) (F : xw_F) (G : xw_G), (bd_X8_placeMarks_59 post k11 k37 k59 k93 k158 k172 y1 y2 y3 y4 y5 y6 y7 y8 I F G) → k59 y1 y2 y3 y4 y5 y6 y7 y8 I F G := by
    intro y1 y2 y3 y4 y5 y6 y7 y8 I F G h
    refine mk59 _ _ _ _ _ _ _ _ _ _ _ ?_
    intro H locs ls hP hD hS hl
    refine (hWW _ _ _).mpr ?_
    unfold bd_X8_placeMarks_59 at h
    refine lv_iload hx hb dX8_placeMarks_59 (lv_at hl 8 rfl) ?_
    refine lv_aload_n hx hb dX8_placeMarks_61 rfl (lv_at hl 0 rfl) ?_
    refine va_get (D := D) (ci := 8) (v := .int (I 1)) (C := RX8) (T := TX8) (N := 22) hx hb hts mX8_placeMarks_inX8 hown hB.1 hP 0 xM_c0 rfl 6 (by decide) (hts _ mX8_placeMarks_2) (fun _ h9 => h9) rfl dX8_placeMarks_62 ?_
    refine lv_icmp_ge (tgt := 137) hx hb dX8_placeMarks_65 (by decide) (fun c35 => ?_) (fun c35 => ?_)
    · have h := h.1 c35
      refine lv_iload hx hb dX8_placeMarks_137 (lv_at hl 7 rfl) ?_
      refine lv_if_eq (tgt := 211) hx hb dX8_placeMarks_139 (by decide) (fun c36 => ?_) (fun c36 => ?_)
      · have h := h.1 c36
        obtain ⟨v37, ev37⟩ : ∃ y : Int32, y = y3 + 1 := ⟨_, rfl⟩
        have h := h v37 ev37
        refine lv_iinc (v := v37) (lv' := [(3, .int v37), (0, .ref (a 0)), (1, .int y1), (2, .int y2), (4, .int y4), (5, .int y5), (6, .int y6), (7, .int y7), (8, .int y8)]) hx hb dX8_placeMarks_211 hl (k := 3) rfl (by rw [ev37]; rfl) (by decide) rfl (fun ls hl => ?_)
        refine lv_goto (tgt := 37) hx hb dX8_placeMarks_214 (by decide) ?_
        exact (hWW _ _ _).mp (el37 _ _ _ _ _ _ h _ _ ls hP hD hS (lv_sub hl [1, 2, 3, 0] rfl))
      · have h := h.2 c36
        refine lv_aload_n hx hb dX8_placeMarks_142 rfl (lv_at hl 0 rfl) ?_
        refine va_get (D := D) (ci := 8) (v := .int (I 4)) (C := RX8) (T := TX8) (N := 22) hx hb hts mX8_placeMarks_inX8 hown hB.1 hP 0 xM_c0 rfl 17 (by decide) (hts _ mX8_placeMarks_3) (fun _ h9 => h9) rfl dX8_placeMarks_143 ?_
        refine lv_if_lt (tgt := 158) hx hb dX8_placeMarks_146 (by decide) (fun c38 => ?_) (fun c38 => ?_)
        · have h := h.1 c38
          exact (hWW _ _ _).mp (el158 _ _ _ _ _ _ _ h _ _ ls hP hD hS (lv_sub hl [0, 1, 2, 3, 4] rfl))
        · have h := h.2 c38
          refine lv_iload hx hb dX8_placeMarks_149 (lv_at hl 4 rfl) ?_
          refine lv_aload_n hx hb dX8_placeMarks_151 rfl (lv_at hl 0 rfl) ?_
          refine va_get (D := D) (ci := 8) (v := .int (I 4)) (C := RX8) (T := TX8) (N := 22) hx hb hts mX8_placeMarks_inX8 hown hB.1 hP 0 xM_c0 rfl 17 (by decide) (hts _ mX8_placeMarks_3) (fun _ h9 => h9) rfl dX8_placeMarks_152 ?_
          refine lv_icmp_ge (tgt := 211) hx hb dX8_placeMarks_155 (by decide) (fun c39 => ?_) (fun c39 => ?_)
          · have h := h.1 c39
            obtain ⟨v40, ev40⟩ : ∃ y : Int32, y = y3 + 1 := ⟨_, rfl⟩
            have h := h v40 ev40
            refine lv_iinc (v := v40) (lv' := [(3, .int v40), (0, .ref (a 0)), (1, .int y1), (2, .int y2), (4, .int y4), (5, .int y5), (6, .int y6), (7, .int y7), (8, .int y8)]) hx hb dX8_placeMarks_211 hl (k := 3) rfl (by rw [ev40]; rfl) (by decide) rfl (fun ls hl => ?_)
            refine lv_goto (tgt := 37) hx hb dX8_placeMarks_214 (by decide) ?_
            exact (hWW _ _ _).mp (el37 _ _ _ _ _ _ h _ _ ls hP hD hS (lv_sub hl [1, 2, 3, 0] rfl))
          · have h := h.2 c39
            exact (hWW _ _ _).mp (el158 _ _ _ _ _ _ _ h _ _ ls hP hD hS (lv_sub hl [0, 1, 2, 3, 4] rfl))
    · have h := h.2 c35
      refine lv_iload_n hx hb dX8_placeMarks_68 rfl (lv_at hl 3 rfl) ?_
      refine lv_iload hx hb dX8_placeMarks_69 (lv_at hl 6 rfl) ?_
      refine lv_idiv hx hb dX8_placeMarks_71 h.1 ?_
      have h := h.2
      refine lv_iload_n hx hb dX8_placeMarks_72 rfl (lv_at hl 1 rfl) ?_
      refine lv_irem hx hb dX8_placeMarks_73 h.1 ?_
      have h := h.2
      refine lv_topi (fun v41 ev41 => ?_)
      have h := h v41 ev41
      refine lv_istore (lv' := [(9, .int v41), (0, .ref (a 0)), (1, .int y1), (2, .int y2), (3, .int y3), (4, .int y4), (5, .int y5), (6, .int y6), (7, .int y7), (8, .int y8)]) hx hb dX8_placeMarks_74 hl (by decide) rfl (fun ls hl => ?_)
      refine lv_iload hx hb dX8_placeMarks_76 (lv_at hl 8 rfl) ?_
      refine lv_if_eq (tgt := 92) hx hb dX8_placeMarks_78 (by decide) (fun c42 => ?_) (fun c42 => ?_)
      · have h := h.1 c42
        refine lv_iconst (v := 0) hx hb dX8_placeMarks_92 (by decide) ?_
        exact (hWW _ _ _).mp (el93 _ _ _ _ _ _ _ _ _ _ _ h _ _ ls hP hD hS (lv_sub hl [1, 2, 3, 4, 5, 7, 9, 0] rfl))
      · have h := h.2 c42
        refine lv_iload hx hb dX8_placeMarks_81 (lv_at hl 0 rfl) ?_
        refine lv_iload hx hb dX8_placeMarks_83 (lv_at hl 6 rfl) ?_
        refine lv_icmp_lt (tgt := 92) hx hb dX8_placeMarks_85 (by decide) (fun c43 => ?_) (fun c43 => ?_)
        · have h := h.1 c43
          refine lv_iconst (v := 0) hx hb dX8_placeMarks_92 (by decide) ?_
          exact (hWW _ _ _).mp (el93 _ _ _ _ _ _ _ _ _ _ _ h _ _ ls hP hD hS (lv_sub hl [1, 2, 3, 4, 5, 7, 9, 0] rfl))
        · have h := h.2 c43
          refine lv_iconst (v := 1) hx hb dX8_placeMarks_88 (by decide) ?_
          refine lv_goto (tgt := 93) hx hb dX8_placeMarks_89 (by decide) ?_
          exact (hWW _ _ _).mp (el93 _ _ _ _ _ _ _ _ _ _ _ h _ _ ls hP hD hS (lv_sub hl [1, 2, 3, 4, 5, 7, 9, 0] rfl))
  have rl93 : ∀ (y1 : Int32) (y2 : Int32) (y3 : Int32) (y4 : Int32) (y6 : Int32) (y8 : Int32) (y9 : Int32) (t0 : Int32) (I : xw_I) (F : xw_F) (G : xw_G), (bd_X8_placeMarks_93 post k11 k37 k59 k93 k158 k172 y1 y2 y3 y4 y6 y8 y9 t0 I F G) → k93 y1 y2 y3 y4 y6 y8 y9 t0 I F G := by
    intro y1 y2 y3 y4 y6 y8 y9 t0 I F G h
    refine mk93 _ _ _ _ _ _ _ _ _ _ _ ?_
    intro H locs ls hP hD hS hl
    refine (hWW _ _ _).mpr ?_
    unfold bd_X8_placeMarks_93 at h
    refine lv_istore (lv' := [(7, .int t0), (0, .ref (a 0)), (1, .int y1), (2, .int y2), (3, .int y3), (4, .int y4), (6, .int y6), (8, .int y8), (9, .int y9)]) hx hb dX8_placeMarks_93 hl (by decide) rfl (fun ls hl => ?_)
    refine lv_iload hx hb dX8_placeMarks_95 (lv_at hl 8 rfl) ?_
    refine lv_istore (lv' := [(5, .int y9), (7, .int t0), (0, .ref (a 0)), (1, .int y1), (2, .int y2), (3, .int y3), (4, .int y4), (6, .int y6), (8, .int y8), (9, .int y9)]) hx hb dX8_placeMarks_97 hl (by decide) rfl (fun ls hl => ?_)
    refine lv_iload hx hb dX8_placeMarks_99 (lv_at hl 6 rfl) ?_
    refine lv_iload hx hb dX8_placeMarks_101 (lv_at hl 9 rfl) ?_
    refine lv_aload_n hx hb dX8_placeMarks_103 rfl (lv_at hl 2 rfl) ?_
    refine lv_aload_n hx hb dX8_placeMarks_104 rfl (lv_at hl 2 rfl) ?_
    refine va_get (D := D) (ci := 8) (v := .ref (a 4)) (C := RX8) (T := TX8) (N := 22) hx hb hts mX8_placeMarks_inX8 hown hB.1 hP 0 xM_c0 rfl 4 (by decide) (hts _ mX8_placeMarks_4) (fun _ h9 => h9) rfl dX8_placeMarks_105 ?_
    refine lv_aload_n hx hb dX8_placeMarks_108 rfl (lv_at hl 2 rfl) ?_
    refine va_get (D := D) (ci := 8) (v := .ref (a 5)) (C := RX8) (T := TX8) (N := 22) hx hb hts mX8_placeMarks_inX8 hown hB.1 hP 0 xM_c0 rfl 5 (by decide) (hts _ mX8_placeMarks_5) (fun _ h9 => h9) rfl dX8_placeMarks_109 ?_
    refine lv_iload hx hb dX8_placeMarks_112 (lv_at hl 8 rfl) ?_
    refine xw_iald hx hb hB hP 5 xM_c5 h.1 dX8_placeMarks_114 (fun v44 ev44 => ?_)
    have h := h.2 v44 ev44
    refine xw_iald hx hb hB hP 4 xM_c4 h.1 dX8_placeMarks_115 (fun v45 ev45 => ?_)
    have h := h.2 v45 ev45
    refine xw_ri (va_runV (rm := { frames := 0, cells := 0, slots := 0, locals := 0 }) (As := [.int v45]) (rest := [.int y9, .int y4]) ⟨hx, hb, hml, hown, hts⟩ (c_X8_anchor l D cy a v45 I F G _ h A) (cwV 1 hts gX8_placeMarks_X8_anchor rfl rfl rfl (by decide +kernel) ⟨Nat.le_of_ble_eq_true rfl, Nat.le_of_ble_eq_true rfl⟩) (xw_preV hB hP hD (ci := 8) rfl xM_c0) rfl rfl hl.1 rfl (lv_room (Nat.le_of_ble_eq_true rfl)) dX8_placeMarks_116 ⟨Nat.le_of_ble_eq_true rfl, Nat.le_of_ble_eq_true rfl⟩) (fun r46 h => ?_)
    refine xw_ri (va_runS (rm := { frames := 0, cells := 0, slots := 0, locals := 0 }) (As := [.int y9, .int r46]) (rest := [.int y4]) ⟨hx, hb, hml, hown, hts⟩ (c_X8_off l D cy y9 r46 _ h (fun _ => True)) (va_cwS 2 hts gX8_placeMarks_X8_off rfl rfl rfl (by decide +kernel) ⟨Nat.le_of_ble_eq_true rfl, Nat.le_of_ble_eq_true rfl⟩) (xw_preS hB xw_P0 (xw_D0 (A := fun _ => True))) rfl rfl hl.1 rfl (lv_room (Nat.le_of_ble_eq_true rfl)) dX8_placeMarks_119 ⟨Nat.le_of_ble_eq_true rfl, Nat.le_of_ble_eq_true rfl⟩) (fun r47 h => ?_)
    refine lv_iadd hx hb dX8_placeMarks_122 ?_
    refine lv_topi (fun v48 ev48 => ?_)
    have h := h v48 ev48
    refine lv_istore (lv' := [(4, .int v48), (5, .int y9), (7, .int t0), (0, .ref (a 0)), (1, .int y1), (2, .int y2), (3, .int y3), (6, .int y6), (8, .int y8), (9, .int y9)]) hx hb dX8_placeMarks_123 hl (by decide) rfl (fun ls hl => ?_)
    refine lv_iload hx hb dX8_placeMarks_125 (lv_at hl 7 rfl) ?_
    refine lv_iload_n hx hb dX8_placeMarks_127 rfl (lv_at hl 4 rfl) ?_
    refine lv_idiv hx hb dX8_placeMarks_128 h.1 ?_
    have h := h.2
    refine lv_topi (fun v49 ev49 => ?_)
    have h := h v49 ev49
    refine lv_istore (lv' := [(6, .int v49), (4, .int v48), (5, .int y9), (7, .int t0), (0, .ref (a 0)), (1, .int y1), (2, .int y2), (3, .int y3), (8, .int y8), (9, .int y9)]) hx hb dX8_placeMarks_129 hl (by decide) rfl (fun ls hl => ?_)
    obtain ⟨v50, ev50⟩ : ∃ y : Int32, y = y8 + 1 := ⟨_, rfl⟩
    have h := h v50 ev50
    refine lv_iinc (v := v50) (lv' := [(8, .int v50), (6, .int v49), (4, .int v48), (5, .int y9), (7, .int t0), (0, .ref (a 0)), (1, .int y1), (2, .int y2), (3, .int y3), (9, .int y9)]) hx hb dX8_placeMarks_131 hl (k := 8) rfl (by rw [ev50]; rfl) (by decide) rfl (fun ls hl => ?_)
    refine lv_goto (tgt := 59) hx hb dX8_placeMarks_134 (by decide) ?_
    exact (hWW _ _ _).mp (el59 _ _ _ _ _ _ _ _ _ _ _ h _ _ ls hP hD hS (lv_sub hl [5, 6, 7, 8, 2, 3, 1, 4, 0] rfl))
  have rl158 : ∀ (y1 : Int32) (y2 : Int32) (y3 : Int32) (y4 : Int32) (I : xw_I) (F : xw_F) (G : xw_G), (bd_X8_placeMarks_158 post k11 k37 k59 k93 k158 k172 y1 y2 y3 y4 I F G) → k158 y1 y2 y3 y4 I F G := by
    intro y1 y2 y3 y4 I F G h
    refine mk158 _ _ _ _ _ _ _ ?_
    intro H locs ls hP hD hS hl
    refine (hWW _ _ _).mpr ?_
    unfold bd_X8_placeMarks_158 at h
    refine lv_aload_n hx hb dX8_placeMarks_158 rfl (lv_at hl 0 rfl) ?_
    refine lv_iload hx hb dX8_placeMarks_159 (lv_at hl 4 rfl) ?_
    refine xw_put (D := D) (ci := 8) (v := .int y4) (ty := .int) (C := RX8) (T := TX8) (N := 22) hx hb hts mX8_placeMarks_inX8 tyX8 tyX8_ok nmX8 hown hB hP hD hS 0 xM_c0 rfl 17 (by decide) (hts _ mX8_placeMarks_3) (fun _ h9 => h9) rfl (by decide +kernel) rfl rfl (Nat.le_of_ble_eq_true rfl) xM_i4 dX8_placeMarks_161 (fun H locs hP hD hS => ?_)
    obtain ⟨I51, eI51⟩ : ∃ f : xw_I, f = xw_up I 4 y4 := ⟨_, rfl⟩
    rw [← eI51] at hP hD
    have h := h I51 eI51
    refine lv_iload_n hx hb dX8_placeMarks_164 rfl (lv_at hl 2 rfl) ?_
    refine lv_iload_n hx hb dX8_placeMarks_165 rfl (lv_at hl 1 rfl) ?_
    refine lv_idiv hx hb dX8_placeMarks_166 h.1 ?_
    have h := h.2
    refine lv_topi (fun v52 ev52 => ?_)
    have h := h v52 ev52
    refine lv_istore (lv' := [(6, .int v52), (0, .ref (a 0)), (1, .int y1), (2, .int y2), (3, .int y3), (4, .int y4)]) hx hb dX8_placeMarks_167 hl (by decide) rfl (fun ls hl => ?_)
    refine lv_iconst (v := 0) hx hb dX8_placeMarks_169 (by decide) ?_
    refine lv_istore (lv' := [(8, .int (0 : Int32)), (6, .int v52), (0, .ref (a 0)), (1, .int y1), (2, .int y2), (3, .int y3), (4, .int y4)]) hx hb dX8_placeMarks_170 hl (by decide) rfl (fun ls hl => ?_)
    exact (hWW _ _ _).mp (el172 _ _ _ _ _ _ _ _ h _ _ ls hP hD hS (lv_sub hl [2, 3, 4, 5, 1, 0] rfl))
  have rl172 : ∀ (y1 : Int32) (y2 : Int32) (y3 : Int32) (y6 : Int32) (y8 : Int32) (I : xw_I) (F : xw_F) (G : xw_G), (bd_X8_placeMarks_172 post k11 k37 k59 k93 k158 k172 y1 y2 y3 y6 y8 I F G) → k172 y1 y2 y3 y6 y8 I F G := by
    intro y1 y2 y3 y6 y8 I F G h
    refine mk172 _ _ _ _ _ _ _ _ ?_
    intro H locs ls hP hD hS hl
    refine (hWW _ _ _).mpr ?_
    unfold bd_X8_placeMarks_172 at h
    refine lv_iload hx hb dX8_placeMarks_172 (lv_at hl 5 rfl) ?_
    refine lv_aload_n hx hb dX8_placeMarks_174 rfl (lv_at hl 0 rfl) ?_
    refine va_get (D := D) (ci := 8) (v := .int (I 1)) (C := RX8) (T := TX8) (N := 22) hx hb hts mX8_placeMarks_inX8 hown hB.1 hP 0 xM_c0 rfl 6 (by decide) (hts _ mX8_placeMarks_2) (fun _ h9 => h9) rfl dX8_placeMarks_175 ?_
    refine lv_icmp_ge (tgt := 211) hx hb dX8_placeMarks_178 (by decide) (fun c53 => ?_) (fun c53 => ?_)
    · have h := h.1 c53
      obtain ⟨v54, ev54⟩ : ∃ y : Int32, y = y3 + 1 := ⟨_, rfl⟩
      have h := h v54 ev54
      refine lv_iinc (v := v54) (lv' := [(3, .int v54), (0, .ref (a 0)), (1, .int y1), (2, .int y2), (6, .int y6), (8, .int y8)]) hx hb dX8_placeMarks_211 hl (k := 3) rfl (by rw [ev54]; rfl) (by decide) rfl (fun ls hl => ?_)
      refine lv_goto (tgt := 37) hx hb dX8_placeMarks_214 (by decide) ?_
      exact (hWW _ _ _).mp (el37 _ _ _ _ _ _ h _ _ ls hP hD hS (lv_sub hl [1, 2, 3, 0] rfl))
    · have h := h.2 c53
      refine lv_aload_n hx hb dX8_placeMarks_181 rfl (lv_at hl 0 rfl) ?_
      refine va_get (D := D) (ci := 8) (v := .ref (a 12)) (C := RX8) (T := TX8) (N := 22) hx hb hts mX8_placeMarks_inX8 hown hB.1 hP 0 xM_c0 rfl 15 (by decide) (hts _ mX8_placeMarks_6) (fun _ h9 => h9) rfl dX8_placeMarks_182 ?_
      refine lv_aload_n hx hb dX8_placeMarks_185 rfl (lv_at hl 0 rfl) ?_
      refine va_get (D := D) (ci := 8) (v := .ref (a 5)) (C := RX8) (T := TX8) (N := 22) hx hb hts mX8_placeMarks_inX8 hown hB.1 hP 0 xM_c0 rfl 5 (by decide) (hts _ mX8_placeMarks_5) (fun _ h9 => h9) rfl dX8_placeMarks_186 ?_
      refine lv_iload hx hb dX8_placeMarks_189 (lv_at hl 5 rfl) ?_
      refine xw_iald hx hb hB hP 5 xM_c5 h.1 dX8_placeMarks_191 (fun v55 ev55 => ?_)
      have h := h.2 v55 ev55
      refine lv_iload_n hx hb dX8_placeMarks_192 rfl (lv_at hl 3 rfl) ?_
      refine lv_iload hx hb dX8_placeMarks_193 (lv_at hl 4 rfl) ?_
      refine lv_idiv hx hb dX8_placeMarks_195 h.1 ?_
      have h := h.2
      refine lv_iload_n hx hb dX8_placeMarks_196 rfl (lv_at hl 1 rfl) ?_
      refine lv_irem hx hb dX8_placeMarks_197 h.1 ?_
      have h := h.2
      refine xw_iast hx hb hB hP hD hS 12 xM_c12 h.1 xM_f12 dX8_placeMarks_198 (fun H locs hP hD hS => ?_)
      have h := h.2
      obtain ⟨F56, eF56⟩ : ∃ f : xw_F, f = xw_up F 12 (upd (F 12) v55.toNatClampNeg ((y3 / y6) - (y3 / y6) / y1 * y1)) := ⟨_, rfl⟩
      rw [← eF56] at hP hD
      have h := h F56 eF56
      refine lv_iload hx hb dX8_placeMarks_199 (lv_at hl 4 rfl) ?_
      refine lv_iload_n hx hb dX8_placeMarks_201 rfl (lv_at hl 1 rfl) ?_
      refine lv_idiv hx hb dX8_placeMarks_202 h.1 ?_
      have h := h.2
      refine lv_topi (fun v57 ev57 => ?_)
      have h := h v57 ev57
      refine lv_istore (lv' := [(6, .int v57), (0, .ref (a 0)), (1, .int y1), (2, .int y2), (3, .int y3), (8, .int y8)]) hx hb dX8_placeMarks_203 hl (by decide) rfl (fun ls hl => ?_)
      obtain ⟨v58, ev58⟩ : ∃ y : Int32, y = y8 + 1 := ⟨_, rfl⟩
      have h := h v58 ev58
      refine lv_iinc (v := v58) (lv' := [(8, .int v58), (6, .int v57), (0, .ref (a 0)), (1, .int y1), (2, .int y2), (3, .int y3)]) hx hb dX8_placeMarks_205 hl (k := 5) rfl (by rw [ev58]; rfl) (by decide) rfl (fun ls hl => ?_)
      refine lv_goto (tgt := 172) hx hb dX8_placeMarks_208 (by decide) ?_
      exact (hWW _ _ _).mp (el172 _ _ _ _ _ _ _ _ h _ _ ls hP hD hS (lv_sub hl [2, 3, 4, 5, 1, 0] rfl))
  have h := h k11 k37 k59 k93 k158 k172 rl11 rl37 rl59 rl93 rl158 rl172
  unfold bd_X8_placeMarks_0 at h
  refine lv_aload_n hx hb dX8_placeMarks_0 rfl (lv_at hl 0 rfl) ?_
  refine va_get (D := D) (ci := 8) (v := .int (I 2)) (C := RX8) (T := TX8) (N := 22) hx hb hts mX8_placeMarks_inX8 hown hB.1 hP 0 xM_c0 rfl 7 (by decide) (hts _ mX8_placeMarks_1) (fun _ h9 => h9) rfl dX8_placeMarks_1 ?_
  refine lv_iconst (v := 1) hx hb dX8_placeMarks_4 (by decide) ?_
  refine lv_iadd hx hb dX8_placeMarks_5 ?_
  refine lv_topi (fun v28 ev28 => ?_)
  have h := h v28 ev28
  refine lv_istore_n (lv' := [(1, .int v28), (0, .ref (a 0))]) hx hb dX8_placeMarks_6 rfl hl (by decide) rfl (fun ls hl => ?_)
  refine lv_iconst (v := 1) hx hb dX8_placeMarks_7 (by decide) ?_
  refine lv_istore_n (lv' := [(2, .int (1 : Int32)), (1, .int v28), (0, .ref (a 0))]) hx hb dX8_placeMarks_8 rfl hl (by decide) rfl (fun ls hl => ?_)
  refine lv_iconst (v := 0) hx hb dX8_placeMarks_9 (by decide) ?_
  refine lv_istore_n (lv' := [(3, .int (0 : Int32)), (2, .int (1 : Int32)), (1, .int v28), (0, .ref (a 0))]) hx hb dX8_placeMarks_10 rfl hl (by decide) rfl (fun ls hl => ?_)
  exact (hWW _ _ _).mp (el11 _ _ _ _ _ _ h _ _ ls hP hD hS (lv_sub hl [3, 2, 1, 0] rfl))

theorem mX8_place_2 : Cond.fieldLink RX8 34 "TagCarrierModel" "best" "[J" ∈ wsX8_place := List.mem_of_getElem? (i := 2) rfl
theorem mX8_place_inX8 : ∀ w ∈ u_ws RX8 TX8 22, w ∈ wsX8_place := by decide +kernel
theorem mX8_place_1 : Cond.fieldLink RX8 78 "TagCarrierModel" "target" "I" ∈ wsX8_place := List.mem_of_getElem? (i := 1) rfl
theorem mX8_place_4 : Cond.fieldLink RX8 135 "TagCarrierModel" "whole" "J" ∈ wsX8_place := List.mem_of_getElem? (i := 4) rfl
theorem mX8_place_3 : Cond.constantLong RX8 105 (4611686018427387904) ∈ wsX8_place := List.mem_of_getElem? (i := 3) rfl
theorem mX8_place_5 : Cond.constantLong RX8 139 (255) ∈ wsX8_place := List.mem_of_getElem? (i := 5) rfl
theorem mX8_place_6 : Cond.fieldLink RX8 38 "TagCarrierModel" "begins" "[I" ∈ wsX8_place := List.mem_of_getElem? (i := 6) rfl
theorem mX8_place_7 : Cond.fieldLink RX8 41 "TagCarrierModel" "ends" "[I" ∈ wsX8_place := List.mem_of_getElem? (i := 7) rfl
set_option maxHeartbeats 4000000 in
set_option maxRecDepth 100000 in
theorem c_X8_place (l : Launch) (D : va_G) (cy : Nat → ClassId) (a : Nat → Nat) (I : xw_I) (F : xw_F) (G : xw_G) (post : xw_I → xw_F → xw_G → Prop) (h : sm_X8_place I F G post) : xw_Wv l yX8_place wsX8_place ({ frames := 5, cells := 0, slots := 0, locals := 127 }) D cy [.ref (a 0)] (xM_w cy a I F G) (xM_w cy a) post := by
  intro A
  refine Met.ofW (cc := cX8_place) (maxL := 5) (ret := none) (by decide) rfl ?_
  intro p e s m args below meth c s₁ B hml hv
  obtain ⟨rfl, hP, hB, hD⟩ := hv
  have hP : va_P D vwCl (xM_w cy a I F G) s.heap := hP
  have hx := B.exec
  have hb := B.bytes
  have hr := B.returns
  have hts := atoms_spec (ws := wsX8_place) B.pre
  have hown : s.vm.findClass RX8 = some m.cls := findClass_of_methodNamed B.named
  have hlocks := B.notSynchronized
  have hS : va_S A s.heap s.heap [] := va_S.rf
  refine xw_go (fun WW hWW => ?_)
  have hl := lv_entry ([.ref (a 0)]) (n := 5) (Nat.le_of_ble_eq_true rfl)
  rw [lg_entry_eq]
  generalize (lg_sl ([.ref (a 0)]) ++ List.replicate (5 - (lg_sl ([.ref (a 0)])).length) Slot.unset).toArray = ls at hl ⊢
  have hl : lv_has ls 5 [(0, .ref (a 0))] := hl
  obtain ⟨k7, mk7, el7⟩ : ∃ K : Int32 → Int32 → xw_I → xw_F → xw_G → Prop, (∀ (y1 : Int32) (y2 : Int32) (I : xw_I) (F : xw_F) (G : xw_G), (∀ (H : Heap) (locs : List Loc) (ls : Array Slot), va_P D vwCl (xM_w cy a I F G) H → va_D A (xM_w cy a I F G) → va_S A s.heap H locs → lv_has ls 5 [(0, .ref (a 0)), (1, .int y1), (2, .int y2)] → WW H locs (F0 m 7 ls [])) → K y1 y2 I F G) ∧ (∀ (y1 : Int32) (y2 : Int32) (I : xw_I) (F : xw_F) (G : xw_G), K y1 y2 I F G → (∀ (H : Heap) (locs : List Loc) (ls : Array Slot), va_P D vwCl (xM_w cy a I F G) H → va_D A (xM_w cy a I F G) → va_S A s.heap H locs → lv_has ls 5 [(0, .ref (a 0)), (1, .int y1), (2, .int y2)] → WW H locs (F0 m 7 ls []))) := ⟨fun (y1 : Int32) (y2 : Int32) (I : xw_I) (F : xw_F) (G : xw_G) => (∀ (H : Heap) (locs : List Loc) (ls : Array Slot), va_P D vwCl (xM_w cy a I F G) H → va_D A (xM_w cy a I F G) → va_S A s.heap H locs → lv_has ls 5 [(0, .ref (a 0)), (1, .int y1), (2, .int y2)] → WW H locs (F0 m 7 ls [])), fun _ _ _ _ _ h => h, fun _ _ _ _ _ h => h⟩
  obtain ⟨k14, mk14, el14⟩ : ∃ K : Int32 → Int32 → Int32 → xw_I → xw_F → xw_G → Prop, (∀ (y1 : Int32) (y2 : Int32) (y3 : Int32) (I : xw_I) (F : xw_F) (G : xw_G), (∀ (H : Heap) (locs : List Loc) (ls : Array Slot), va_P D vwCl (xM_w cy a I F G) H → va_D A (xM_w cy a I F G) → va_S A s.heap H locs → lv_has ls 5 [(0, .ref (a 0)), (1, .int y1), (2, .int y2), (3, .int y3)] → WW H locs (F0 m 14 ls [])) → K y1 y2 y3 I F G) ∧ (∀ (y1 : Int32) (y2 : Int32) (y3 : Int32) (I : xw_I) (F : xw_F) (G : xw_G), K y1 y2 y3 I F G → (∀ (H : Heap) (locs : List Loc) (ls : Array Slot), va_P D vwCl (xM_w cy a I F G) H → va_D A (xM_w cy a I F G) → va_S A s.heap H locs → lv_has ls 5 [(0, .ref (a 0)), (1, .int y1), (2, .int y2), (3, .int y3)] → WW H locs (F0 m 14 ls []))) := ⟨fun (y1 : Int32) (y2 : Int32) (y3 : Int32) (I : xw_I) (F : xw_F) (G : xw_G) => (∀ (H : Heap) (locs : List Loc) (ls : Array Slot), va_P D vwCl (xM_w cy a I F G) H → va_D A (xM_w cy a I F G) → va_S A s.heap H locs → lv_has ls 5 [(0, .ref (a 0)), (1, .int y1), (2, .int y2), (3, .int y3)] → WW H locs (F0 m 14 ls [])), fun _ _ _ _ _ _ h => h, fun _ _ _ _ _ _ h => h⟩
  obtain ⟨k25, mk25, el25⟩ : ∃ K : Int32 → Int32 → Int32 → Int32 → xw_I → xw_F → xw_G → Prop, (∀ (y1 : Int32) (y2 : Int32) (y3 : Int32) (y4 : Int32) (I : xw_I) (F : xw_F) (G : xw_G), (∀ (H : Heap) (locs : List Loc) (ls : Array Slot), va_P D vwCl (xM_w cy a I F G) H → va_D A (xM_w cy a I F G) → va_S A s.heap H locs → lv_has ls 5 [(0, .ref (a 0)), (1, .int y1), (2, .int y2), (3, .int y3), (4, .int y4)] → WW H locs (F0 m 25 ls [])) → K y1 y2 y3 y4 I F G) ∧ (∀ (y1 : Int32) (y2 : Int32) (y3 : Int32) (y4 : Int32) (I : xw_I) (F : xw_F) (G : xw_G), K y1 y2 y3 y4 I F G → (∀ (H : Heap) (locs : List Loc) (ls : Array Slot), va_P D vwCl (xM_w cy a I F G) H → va_D A (xM_w cy a I F G) → va_S A s.heap H locs → lv_has ls 5 [(0, .ref (a 0)), (1, .int y1), (2, .int y2), (3, .int y3), (4, .int y4)] → WW H locs (F0 m 25 ls []))) := ⟨fun (y1 : Int32) (y2 : Int32) (y3 : Int32) (y4 : Int32) (I : xw_I) (F : xw_F) (G : xw_G) => (∀ (H : Heap) (locs : List Loc) (ls : Array Slot), va_P D vwCl (xM_w cy a I F G) H → va_D A (xM_w cy a I F G) → va_S A s.heap H locs → lv_has ls 5 [(0, .ref (a 0)), (1, .int y1), (2, .int y2), (3, .int y3), (4, .int y4)] → WW H locs (F0 m 25 ls [])), fun _ _ _ _ _ _ _ h => h, fun _ _ _ _ _ _ _ h => h⟩
  obtain ⟨k74, mk74, el74⟩ : ∃ K : Int32 → Int32 → Int32 → Int32 → Int32 → Int64 → xw_I → xw_F → xw_G → Prop, (∀ (y1 : Int32) (y2 : Int32) (y3 : Int32) (y4 : Int32) (t1 : Int32) (t2 : Int64) (I : xw_I) (F : xw_F) (G : xw_G), (∀ (H : Heap) (locs : List Loc) (ls : Array Slot), va_P D vwCl (xM_w cy a I F G) H → va_D A (xM_w cy a I F G) → va_S A s.heap H locs → lv_has ls 5 [(0, .ref (a 0)), (1, .int y1), (2, .int y2), (3, .int y3), (4, .int y4)] → WW H locs (F0 m 74 ls [.long t2, .int t1, .ref (a 9)])) → K y1 y2 y3 y4 t1 t2 I F G) ∧ (∀ (y1 : Int32) (y2 : Int32) (y3 : Int32) (y4 : Int32) (t1 : Int32) (t2 : Int64) (I : xw_I) (F : xw_F) (G : xw_G), K y1 y2 y3 y4 t1 t2 I F G → (∀ (H : Heap) (locs : List Loc) (ls : Array Slot), va_P D vwCl (xM_w cy a I F G) H → va_D A (xM_w cy a I F G) → va_S A s.heap H locs → lv_has ls 5 [(0, .ref (a 0)), (1, .int y1), (2, .int y2), (3, .int y3), (4, .int y4)] → WW H locs (F0 m 74 ls [.long t2, .int t1, .ref (a 9)]))) := ⟨fun (y1 : Int32) (y2 : Int32) (y3 : Int32) (y4 : Int32) (t1 : Int32) (t2 : Int64) (I : xw_I) (F : xw_F) (G : xw_G) => (∀ (H : Heap) (locs : List Loc) (ls : Array Slot), va_P D vwCl (xM_w cy a I F G) H → va_D A (xM_w cy a I F G) → va_S A s.heap H locs → lv_has ls 5 [(0, .ref (a 0)), (1, .int y1), (2, .int y2), (3, .int y3), (4, .int y4)] → WW H locs (F0 m 74 ls [.long t2, .int t1, .ref (a 9)])), fun _ _ _ _ _ _ _ _ _ h => h, fun _ _ _ _ _ _ _ _ _ h => h⟩
  obtain ⟨k113, mk113, el113⟩ : ∃ K : Int32 → xw_I → xw_F → xw_G → Prop, (∀ (y2 : Int32) (I : xw_I) (F : xw_F) (G : xw_G), (∀ (H : Heap) (locs : List Loc) (ls : Array Slot), va_P D vwCl (xM_w cy a I F G) H → va_D A (xM_w cy a I F G) → va_S A s.heap H locs → lv_has ls 5 [(0, .ref (a 0)), (2, .int y2)] → WW H locs (F0 m 113 ls [])) → K y2 I F G) ∧ (∀ (y2 : Int32) (I : xw_I) (F : xw_F) (G : xw_G), K y2 I F G → (∀ (H : Heap) (locs : List Loc) (ls : Array Slot), va_P D vwCl (xM_w cy a I F G) H → va_D A (xM_w cy a I F G) → va_S A s.heap H locs → lv_has ls 5 [(0, .ref (a 0)), (2, .int y2)] → WW H locs (F0 m 113 ls []))) := ⟨fun (y2 : Int32) (I : xw_I) (F : xw_F) (G : xw_G) => (∀ (H : Heap) (locs : List Loc) (ls : Array Slot), va_P D vwCl (xM_w cy a I F G) H → va_D A (xM_w cy a I F G) → va_S A s.heap H locs → lv_has ls 5 [(0, .ref (a 0)), (2, .int y2)] → WW H locs (F0 m 113 ls [])), fun _ _ _ _ h => h, fun _ _ _ _ h => h⟩
  have rl7 : ∀ (y1 : Int32) (y2 : Int32) (I : xw_I) (F : xw_F) (G : xw_G), (bd_X8_place_7 post k7 k14 k25 k74 k113 y1 y2 I F G) → k7 y1 y2 I F G := by
    intro y1 y2 I F G h
    refine mk7 _ _ _ _ _ ?_
    intro H locs ls hP hD hS hl
    refine (hWW _ _ _).mpr ?_
    unfold bd_X8_place_7 at h
    refine lv_iload_n hx hb dX8_place_7 rfl (lv_at hl 2 rfl) ?_
    refine lv_iload_n hx hb dX8_place_8 rfl (lv_at hl 1 rfl) ?_
    refine lv_icmp_gt (tgt := 93) hx hb dX8_place_9 (by decide) (fun c17 => ?_) (fun c17 => ?_)
    · have h := h.1 c17
      refine lv_aload_n hx hb dX8_place_93 rfl (lv_at hl 0 rfl) ?_
      refine lv_aload_n hx hb dX8_place_94 rfl (lv_at hl 0 rfl) ?_
      refine va_get (D := D) (ci := 8) (v := .ref (a 9)) (C := RX8) (T := TX8) (N := 22) hx hb hts mX8_place_inX8 hown hB.1 hP 0 xM_c0 rfl 12 (by decide) (hts _ mX8_place_2) (fun _ h9 => h9) rfl dX8_place_95 ?_
      refine lv_iload_n hx hb dX8_place_98 rfl (lv_at hl 1 rfl) ?_
      refine lv_iconst (v := 0) hx hb dX8_place_99 (by decide) ?_
      refine lv_aload_n hx hb dX8_place_100 rfl (lv_at hl 0 rfl) ?_
      refine va_get (D := D) (ci := 8) (v := .int (I 2)) (C := RX8) (T := TX8) (N := 22) hx hb hts mX8_place_inX8 hown hB.1 hP 0 xM_c0 rfl 7 (by decide) (hts _ mX8_place_1) (fun _ h9 => h9) rfl dX8_place_101 ?_
      refine xw_ri (va_runS (rm := { frames := 0, cells := 0, slots := 0, locals := 0 }) (As := [.int y1, .int (0 : Int32), .int (I 2)]) (rest := [.ref (a 9), .ref (a 0)]) ⟨hx, hb, hml, hown, hts⟩ (c_X8_at l D cy y1 (0 : Int32) (I 2) _ h (fun _ => True)) (va_cwS 3 hts gX8_place_X8_at rfl rfl rfl (by decide +kernel) ⟨Nat.le_of_ble_eq_true rfl, Nat.le_of_ble_eq_true rfl⟩) (xw_preS hB xw_P0 (xw_D0 (A := fun _ => True))) rfl rfl hl.1 rfl (lv_room (Nat.le_of_ble_eq_true rfl)) dX8_place_104 ⟨Nat.le_of_ble_eq_true rfl, Nat.le_of_ble_eq_true rfl⟩) (fun r18 h => ?_)
      refine xw_lald hx hb hB hP 9 xM_c9 h.1 dX8_place_107 (fun v19 ev19 => ?_)
      have h := h.2 v19 ev19
      refine xw_put (D := D) (ci := 8) (v := .long v19) (ty := .long) (C := RX8) (T := TX8) (N := 22) hx hb hts mX8_place_inX8 tyX8 tyX8_ok nmX8 hown hB hP hD hS 0 xM_c0 rfl 16 (by decide) (hts _ mX8_place_4) (fun _ h9 => h9) rfl (by decide +kernel) rfl rfl (Nat.le_of_ble_eq_true rfl) xM_l0 dX8_place_108 (fun H locs hP hD hS => ?_)
      obtain ⟨G20, eG20⟩ : ∃ f : xw_G, f = xw_up G 0 (fun _ => v19) := ⟨_, rfl⟩
      rw [← eG20] at hP hD
      have h := h G20 eG20
      refine lv_iconst (v := 0) hx hb dX8_place_111 (by decide) ?_
      refine lv_istore_n (lv' := [(2, .int (0 : Int32)), (0, .ref (a 0)), (1, .int y1)]) hx hb dX8_place_112 rfl hl (by decide) rfl (fun ls hl => ?_)
      exact (hWW _ _ _).mp (el113 _ _ _ _ h _ _ ls hP hD hS (lv_sub hl [1, 0] rfl))
    · have h := h.2 c17
      refine lv_iconst (v := 0) hx hb dX8_place_12 (by decide) ?_
      refine lv_istore_n (lv' := [(3, .int (0 : Int32)), (0, .ref (a 0)), (1, .int y1), (2, .int y2)]) hx hb dX8_place_13 rfl hl (by decide) rfl (fun ls hl => ?_)
      exact (hWW _ _ _).mp (el14 _ _ _ _ _ _ h _ _ ls hP hD hS (lv_sub hl [1, 2, 3, 0] rfl))
  have rl14 : ∀ (y1 : Int32) (y2 : Int32) (y3 : Int32) (I : xw_I) (F : xw_F) (G : xw_G), (bd_X8_place_14 post k7 k14 k25 k74 k113 y1 y2 y3 I F G) → k14 y1 y2 y3 I F G := by
    intro y1 y2 y3 I F G h
    refine mk14 _ _ _ _ _ _ ?_
    intro H locs ls hP hD hS hl
    refine (hWW _ _ _).mpr ?_
    unfold bd_X8_place_14 at h
    refine lv_iload_n hx hb dX8_place_14 rfl (lv_at hl 3 rfl) ?_
    refine lv_aload_n hx hb dX8_place_15 rfl (lv_at hl 0 rfl) ?_
    refine va_get (D := D) (ci := 8) (v := .int (I 2)) (C := RX8) (T := TX8) (N := 22) hx hb hts mX8_place_inX8 hown hB.1 hP 0 xM_c0 rfl 7 (by decide) (hts _ mX8_place_1) (fun _ h9 => h9) rfl dX8_place_16 ?_
    refine lv_icmp_gt (tgt := 87) hx hb dX8_place_19 (by decide) (fun c21 => ?_) (fun c21 => ?_)
    · have h := h.1 c21
      obtain ⟨v22, ev22⟩ : ∃ y : Int32, y = y2 + 1 := ⟨_, rfl⟩
      have h := h v22 ev22
      refine lv_iinc (v := v22) (lv' := [(2, .int v22), (0, .ref (a 0)), (1, .int y1), (3, .int y3)]) hx hb dX8_place_87 hl (k := 2) rfl (by rw [ev22]; rfl) (by decide) rfl (fun ls hl => ?_)
      refine lv_goto (tgt := 7) hx hb dX8_place_90 (by decide) ?_
      exact (hWW _ _ _).mp (el7 _ _ _ _ _ h _ _ ls hP hD hS (lv_sub hl [1, 2, 0] rfl))
    · have h := h.2 c21
      refine lv_iload_n hx hb dX8_place_22 rfl (lv_at hl 3 rfl) ?_
      refine lv_istore (lv' := [(4, .int y3), (0, .ref (a 0)), (1, .int y1), (2, .int y2), (3, .int y3)]) hx hb dX8_place_23 hl (by decide) rfl (fun ls hl => ?_)
      exact (hWW _ _ _).mp (el25 _ _ _ _ _ _ _ h _ _ ls hP hD hS (lv_sub hl [1, 2, 3, 4, 0] rfl))
  have rl25 : ∀ (y1 : Int32) (y2 : Int32) (y3 : Int32) (y4 : Int32) (I : xw_I) (F : xw_F) (G : xw_G), (bd_X8_place_25 post k7 k14 k25 k74 k113 y1 y2 y3 y4 I F G) → k25 y1 y2 y3 y4 I F G := by
    intro y1 y2 y3 y4 I F G h
    refine mk25 _ _ _ _ _ _ _ ?_
    intro H locs ls hP hD hS hl
    refine (hWW _ _ _).mpr ?_
    unfold bd_X8_place_25 at h
    refine lv_iload hx hb dX8_place_25 (lv_at hl 4 rfl) ?_
    refine lv_aload_n hx hb dX8_place_27 rfl (lv_at hl 0 rfl) ?_
    refine va_get (D := D) (ci := 8) (v := .int (I 2)) (C := RX8) (T := TX8) (N := 22) hx hb hts mX8_place_inX8 hown hB.1 hP 0 xM_c0 rfl 7 (by decide) (hts _ mX8_place_1) (fun _ h9 => h9) rfl dX8_place_28 ?_
    refine lv_icmp_gt (tgt := 81) hx hb dX8_place_31 (by decide) (fun c23 => ?_) (fun c23 => ?_)
    · have h := h.1 c23
      obtain ⟨v24, ev24⟩ : ∃ y : Int32, y = y3 + 1 := ⟨_, rfl⟩
      have h := h v24 ev24
      refine lv_iinc (v := v24) (lv' := [(3, .int v24), (0, .ref (a 0)), (1, .int y1), (2, .int y2), (4, .int y4)]) hx hb dX8_place_81 hl (k := 3) rfl (by rw [ev24]; rfl) (by decide) rfl (fun ls hl => ?_)
      refine lv_goto (tgt := 14) hx hb dX8_place_84 (by decide) ?_
      exact (hWW _ _ _).mp (el14 _ _ _ _ _ _ h _ _ ls hP hD hS (lv_sub hl [1, 2, 3, 0] rfl))
    · have h := h.2 c23
      refine lv_aload_n hx hb dX8_place_34 rfl (lv_at hl 0 rfl) ?_
      refine va_get (D := D) (ci := 8) (v := .ref (a 9)) (C := RX8) (T := TX8) (N := 22) hx hb hts mX8_place_inX8 hown hB.1 hP 0 xM_c0 rfl 12 (by decide) (hts _ mX8_place_2) (fun _ h9 => h9) rfl dX8_place_35 ?_
      refine lv_iload_n hx hb dX8_place_38 rfl (lv_at hl 2 rfl) ?_
      refine lv_iload_n hx hb dX8_place_39 rfl (lv_at hl 3 rfl) ?_
      refine lv_iload hx hb dX8_place_40 (lv_at hl 4 rfl) ?_
      refine xw_ri (va_runS (rm := { frames := 0, cells := 0, slots := 0, locals := 0 }) (As := [.int y2, .int y3, .int y4]) (rest := [.ref (a 9)]) ⟨hx, hb, hml, hown, hts⟩ (c_X8_at l D cy y2 y3 y4 _ h (fun _ => True)) (va_cwS 3 hts gX8_place_X8_at rfl rfl rfl (by decide +kernel) ⟨Nat.le_of_ble_eq_true rfl, Nat.le_of_ble_eq_true rfl⟩) (xw_preS hB xw_P0 (xw_D0 (A := fun _ => True))) rfl rfl hl.1 rfl (lv_room (Nat.le_of_ble_eq_true rfl)) dX8_place_42 ⟨Nat.le_of_ble_eq_true rfl, Nat.le_of_ble_eq_true rfl⟩) (fun r25 h => ?_)
      refine lv_iload_n hx hb dX8_place_45 rfl (lv_at hl 2 rfl) ?_
      refine lv_if_ne (tgt := 53) hx hb dX8_place_46 (by decide) (fun c26 => ?_) (fun c26 => ?_)
      · have h := h.1 c26
        refine lv_iload_n hx hb dX8_place_53 rfl (lv_at hl 2 rfl) ?_
        refine lv_iload_n hx hb dX8_place_54 rfl (lv_at hl 1 rfl) ?_
        refine lv_iand hx hb dX8_place_55 ?_
        refine lv_iload_n hx hb dX8_place_56 rfl (lv_at hl 2 rfl) ?_
        refine lv_icmp_ne (tgt := 71) hx hb dX8_place_57 (by decide) (fun c27 => ?_) (fun c27 => ?_)
        · have h := h.1 c27
          refine lv_ldc2 hx hb hown (hts _ mX8_place_3) dX8_place_71 ?_
          exact (hWW _ _ _).mp (el74 _ _ _ _ _ _ _ _ _ h _ _ ls hP hD hS (lv_sub hl [0, 1, 2, 3, 4] rfl))
        · have h := h.2 c27
          refine lv_aload_n hx hb dX8_place_60 rfl (lv_at hl 0 rfl) ?_
          refine lv_iload_n hx hb dX8_place_61 rfl (lv_at hl 2 rfl) ?_
          refine lv_iload_n hx hb dX8_place_62 rfl (lv_at hl 3 rfl) ?_
          refine lv_iload hx hb dX8_place_63 (lv_at hl 4 rfl) ?_
          refine xw_rl (va_runV (rm := { frames := 4, cells := 0, slots := 0, locals := 96 }) (As := [.int y2, .int y3, .int y4]) (rest := [.int r25, .ref (a 9)]) ⟨hx, hb, hml, hown, hts⟩ (c_X8_leastOf l D cy a y2 y3 y4 I F G _ h A) (cwV 3 hts gX8_place_X8_leastOf rfl rfl rfl (by decide +kernel) ⟨Nat.le_of_ble_eq_true rfl, Nat.le_of_ble_eq_true rfl⟩) (xw_preV hB hP hD (ci := 8) rfl xM_c0) rfl rfl hl.1 rfl (lv_room (Nat.le_of_ble_eq_true rfl)) dX8_place_65 ⟨Nat.le_of_ble_eq_true rfl, Nat.le_of_ble_eq_true rfl⟩) (fun r28 h => ?_)
          refine lv_goto (tgt := 74) hx hb dX8_place_68 (by decide) ?_
          exact (hWW _ _ _).mp (el74 _ _ _ _ _ _ _ _ _ h _ _ ls hP hD hS (lv_sub hl [0, 1, 2, 3, 4] rfl))
      · have h := h.2 c26
        refine lv_lconst (v := 0) hx hb dX8_place_49 (by decide) ?_
        refine lv_goto (tgt := 74) hx hb dX8_place_50 (by decide) ?_
        exact (hWW _ _ _).mp (el74 _ _ _ _ _ _ _ _ _ h _ _ ls hP hD hS (lv_sub hl [0, 1, 2, 3, 4] rfl))
  have rl74 : ∀ (y1 : Int32) (y2 : Int32) (y3 : Int32) (y4 : Int32) (t1 : Int32) (t2 : Int64) (I : xw_I) (F : xw_F) (G : xw_G), (bd_X8_place_74 post k7 k14 k25 k74 k113 y1 y2 y3 y4 t1 t2 I F G) → k74 y1 y2 y3 y4 t1 t2 I F G := by
    intro y1 y2 y3 y4 t1 t2 I F G h
    refine mk74 _ _ _ _ _ _ _ _ _ ?_
    intro H locs ls hP hD hS hl
    refine (hWW _ _ _).mpr ?_
    unfold bd_X8_place_74 at h
    refine xw_last hx hb hB hP hD hS 9 xM_c9 h.1 xM_f9 dX8_place_74 (fun H locs hP hD hS => ?_)
    have h := h.2
    obtain ⟨G29, eG29⟩ : ∃ f : xw_G, f = xw_up G 9 (vp_updL (G 9) t1.toNatClampNeg t2) := ⟨_, rfl⟩
    rw [← eG29] at hP hD
    have h := h G29 eG29
    obtain ⟨v30, ev30⟩ : ∃ y : Int32, y = y4 + 1 := ⟨_, rfl⟩
    have h := h v30 ev30
    refine lv_iinc (v := v30) (lv' := [(4, .int v30), (0, .ref (a 0)), (1, .int y1), (2, .int y2), (3, .int y3)]) hx hb dX8_place_75 hl (k := 4) rfl (by rw [ev30]; rfl) (by decide) rfl (fun ls hl => ?_)
    refine lv_goto (tgt := 25) hx hb dX8_place_78 (by decide) ?_
    exact (hWW _ _ _).mp (el25 _ _ _ _ _ _ _ h _ _ ls hP hD hS (lv_sub hl [1, 2, 3, 4, 0] rfl))
  have rl113 : ∀ (y2 : Int32) (I : xw_I) (F : xw_F) (G : xw_G), (bd_X8_place_113 post k7 k14 k25 k74 k113 y2 I F G) → k113 y2 I F G := by
    intro y2 I F G h
    refine mk113 _ _ _ _ ?_
    intro H locs ls hP hD hS hl
    refine (hWW _ _ _).mpr ?_
    unfold bd_X8_place_113 at h
    refine lv_iload_n hx hb dX8_place_113 rfl (lv_at hl 1 rfl) ?_
    refine lv_iconst (v := 5) hx hb dX8_place_114 (by decide) ?_
    refine lv_icmp_ge (tgt := 161) hx hb dX8_place_115 (by decide) (fun c31 => ?_) (fun c31 => ?_)
    · have h := h.1 c31
      refine lv_aload_n hx hb dX8_place_161 rfl (lv_at hl 0 rfl) ?_
      refine xw_wv (va_runV (rm := { frames := 1, cells := 0, slots := 0, locals := 23 }) (As := []) (rest := []) ⟨hx, hb, hml, hown, hts⟩ (c_X8_placeMarks l D cy a I F G _ h A) (cwV 0 hts gX8_place_X8_placeMarks rfl rfl rfl (by decide +kernel) ⟨Nat.le_of_ble_eq_true rfl, Nat.le_of_ble_eq_true rfl⟩) (xw_preV hB hP hD (ci := 8) rfl xM_c0) rfl rfl hl.1 rfl (lv_room (Nat.le_of_ble_eq_true rfl)) dX8_place_162 ⟨Nat.le_of_ble_eq_true rfl, Nat.le_of_ble_eq_true rfl⟩) hS (fun I32 F32 G32 H locs h hP hD hS => ?_)
      exact xw_wretv hx hb hr hlocks hP hD hS h dX8_place_165
    · have h := h.2 c31
      refine lv_aload_n hx hb dX8_place_118 rfl (lv_at hl 0 rfl) ?_
      refine va_get (D := D) (ci := 8) (v := .long (G 0 0)) (C := RX8) (T := TX8) (N := 22) hx hb hts mX8_place_inX8 hown hB.1 hP 0 xM_c0 rfl 16 (by decide) (hts _ mX8_place_4) (fun _ h9 => h9) rfl dX8_place_119 ?_
      refine lv_bipush (v := 8) hx hb dX8_place_122 (by decide) ?_
      refine lv_iconst (v := 4) hx hb dX8_place_124 (by decide) ?_
      refine lv_iload_n hx hb dX8_place_125 rfl (lv_at hl 1 rfl) ?_
      refine lv_isub hx hb dX8_place_126 ?_
      refine lv_imul hx hb dX8_place_127 ?_
      refine lv_lshr hx hb dX8_place_128 rfl ?_
      refine lv_ldc2 hx hb hown (hts _ mX8_place_5) dX8_place_129 ?_
      refine lv_land hx hb dX8_place_132 ?_
      refine lv_l2i hx hb dX8_place_133 rfl ?_
      refine lv_topi (fun v33 ev33 => ?_)
      have h := h v33 ev33
      refine lv_istore_n (lv' := [(3, .int v33), (0, .ref (a 0)), (2, .int y2)]) hx hb dX8_place_134 rfl hl (by decide) rfl (fun ls hl => ?_)
      refine lv_aload_n hx hb dX8_place_135 rfl (lv_at hl 1 rfl) ?_
      refine va_get (D := D) (ci := 8) (v := .ref (a 10)) (C := RX8) (T := TX8) (N := 22) hx hb hts mX8_place_inX8 hown hB.1 hP 0 xM_c0 rfl 13 (by decide) (hts _ mX8_place_6) (fun _ h9 => h9) rfl dX8_place_136 ?_
      refine lv_iload_n hx hb dX8_place_139 rfl (lv_at hl 2 rfl) ?_
      refine lv_iload_n hx hb dX8_place_140 rfl (lv_at hl 0 rfl) ?_
      refine lv_bipush (v := 16) hx hb dX8_place_141 (by decide) ?_
      refine lv_idiv hx hb dX8_place_143 h.1 ?_
      have h := h.2
      refine xw_iast hx hb hB hP hD hS 10 xM_c10 h.1 xM_f10 dX8_place_144 (fun H locs hP hD hS => ?_)
      have h := h.2
      obtain ⟨F34, eF34⟩ : ∃ f : xw_F, f = xw_up F 10 (upd (F 10) y2.toNatClampNeg (v33 / (16 : Int32))) := ⟨_, rfl⟩
      rw [← eF34] at hP hD
      have h := h F34 eF34
      refine lv_aload_n hx hb dX8_place_145 rfl (lv_at hl 1 rfl) ?_
      refine va_get (D := D) (ci := 8) (v := .ref (a 11)) (C := RX8) (T := TX8) (N := 22) hx hb hts mX8_place_inX8 hown hB.1 hP 0 xM_c0 rfl 14 (by decide) (hts _ mX8_place_7) (fun _ h9 => h9) rfl dX8_place_146 ?_
      refine lv_iload_n hx hb dX8_place_149 rfl (lv_at hl 2 rfl) ?_
      refine lv_iload_n hx hb dX8_place_150 rfl (lv_at hl 0 rfl) ?_
      refine lv_bipush (v := 16) hx hb dX8_place_151 (by decide) ?_
      refine lv_irem hx hb dX8_place_153 h.1 ?_
      have h := h.2
      refine xw_iast hx hb hB hP hD hS 11 xM_c11 h.1 xM_f11 dX8_place_154 (fun H locs hP hD hS => ?_)
      have h := h.2
      obtain ⟨F35, eF35⟩ : ∃ f : xw_F, f = xw_up F34 11 (upd (F34 11) y2.toNatClampNeg (v33 - v33 / (16 : Int32) * (16 : Int32))) := ⟨_, rfl⟩
      rw [← eF35] at hP hD
      have h := h F35 eF35
      obtain ⟨v36, ev36⟩ : ∃ y : Int32, y = y2 + 1 := ⟨_, rfl⟩
      have h := h v36 ev36
      refine lv_iinc (v := v36) (lv' := [(2, .int v36), (3, .int v33), (0, .ref (a 0))]) hx hb dX8_place_155 hl (k := 2) rfl (by rw [ev36]; rfl) (by decide) rfl (fun ls hl => ?_)
      refine lv_goto (tgt := 113) hx hb dX8_place_158 (by decide) ?_
      exact (hWW _ _ _).mp (el113 _ _ _ _ h _ _ ls hP hD hS (lv_sub hl [2, 0] rfl))
  have h := h k7 k14 k25 k74 k113 rl7 rl14 rl25 rl74 rl113
  unfold bd_X8_place_0 at h
  refine lv_aload_n hx hb dX8_place_0 rfl (lv_at hl 0 rfl) ?_
  refine xw_ri (va_runV (rm := { frames := 2, cells := 0, slots := 0, locals := 43 }) (As := []) (rest := []) ⟨hx, hb, hml, hown, hts⟩ (c_X8_there l D cy a I F G _ h A) (cwV 0 hts gX8_place_X8_there rfl rfl rfl (by decide +kernel) ⟨Nat.le_of_ble_eq_true rfl, Nat.le_of_ble_eq_true rfl⟩) (xw_preV hB hP hD (ci := 8) rfl xM_c0) rfl rfl hl.1 rfl (lv_room (Nat.le_of_ble_eq_true rfl)) dX8_place_1 ⟨Nat.le_of_ble_eq_true rfl, Nat.le_of_ble_eq_true rfl⟩) (fun r16 h => ?_)
  refine lv_istore_n (lv' := [(1, .int r16), (0, .ref (a 0))]) hx hb dX8_place_4 rfl hl (by decide) rfl (fun ls hl => ?_)
  refine lv_iconst (v := 0) hx hb dX8_place_5 (by decide) ?_
  refine lv_istore_n (lv' := [(2, .int (0 : Int32)), (1, .int r16), (0, .ref (a 0))]) hx hb dX8_place_6 rfl hl (by decide) rfl (fun ls hl => ?_)
  exact (hWW _ _ _).mp (el7 _ _ _ _ _ h _ _ ls hP hD hS (lv_sub hl [2, 1, 0] rfl))

theorem mX8_depth_1 : Cond.fieldLink RX8 16 "TagCarrierModel" "holds" "[I" ∈ wsX8_depth := List.mem_of_getElem? (i := 1) rfl
theorem mX8_depth_inX8 : ∀ w ∈ u_ws RX8 TX8 22, w ∈ wsX8_depth := by decide +kernel
set_option maxHeartbeats 4000000 in
set_option maxRecDepth 100000 in
theorem c_X8_depth (l : Launch) (D : va_G) (cy : Nat → ClassId) (a : Nat → Nat) (x1 : Int32) (I : xw_I) (F : xw_F) (G : xw_G) (post : Int32 → Prop) (h : sm_X8_depth x1 I F G post) : xw_Ri l yX8_depth wsX8_depth ({ frames := 2, cells := 0, slots := 0, locals := 43 }) D cy [.ref (a 0), .int x1] (xM_w cy a I F G) post := by
  intro A
  refine Met.ofW (cc := cX8_depth) (maxL := 4) (ret := (some .int)) (by decide) rfl ?_
  intro p e s m args below meth c s₁ B hml hv
  obtain ⟨rfl, hP, hB, hD⟩ := hv
  have hP : va_P D vwCl (xM_w cy a I F G) s.heap := hP
  have hx := B.exec
  have hb := B.bytes
  have hr := B.returns
  have hts := atoms_spec (ws := wsX8_depth) B.pre
  have hown : s.vm.findClass RX8 = some m.cls := findClass_of_methodNamed B.named
  have hlocks := B.notSynchronized
  refine xw_go (fun WW hWW => ?_)
  have hl := lv_entry ([.ref (a 0), .int x1]) (n := 4) (Nat.le_of_ble_eq_true rfl)
  rw [lg_entry_eq]
  generalize (lg_sl ([.ref (a 0), .int x1]) ++ List.replicate (4 - (lg_sl ([.ref (a 0), .int x1])).length) Slot.unset).toArray = ls at hl ⊢
  have hl : lv_has ls 4 [(0, .ref (a 0)), (1, .int x1)] := hl
  obtain ⟨k4, mk4, el4⟩ : ∃ K : Int32 → Int32 → Prop, (∀ (y2 : Int32) (y3 : Int32), (∀ (ls : Array Slot), lv_has ls 4 [(0, .ref (a 0)), (1, .int x1), (2, .int y2), (3, .int y3)] → WW s.heap [] (F0 m 4 ls [])) → K y2 y3) ∧ (∀ (y2 : Int32) (y3 : Int32), K y2 y3 → (∀ (ls : Array Slot), lv_has ls 4 [(0, .ref (a 0)), (1, .int x1), (2, .int y2), (3, .int y3)] → WW s.heap [] (F0 m 4 ls []))) := ⟨fun (y2 : Int32) (y3 : Int32) => (∀ (ls : Array Slot), lv_has ls 4 [(0, .ref (a 0)), (1, .int x1), (2, .int y2), (3, .int y3)] → WW s.heap [] (F0 m 4 ls [])), fun _ _ h => h, fun _ _ h => h⟩
  have rl4 : ∀ (y2 : Int32) (y3 : Int32), (bd_X8_depth_4 x1 I F G post k4 y2 y3) → k4 y2 y3 := by
    intro y2 y3 h
    refine mk4 _ _ ?_
    intro ls hl
    refine (hWW _ _ _).mpr ?_
    unfold bd_X8_depth_4 at h
    refine lv_iload_n hx hb dX8_depth_4 rfl (lv_at hl 3 rfl) ?_
    refine lv_iconst (v := 5) hx hb dX8_depth_5 (by decide) ?_
    refine lv_icmp_ge (tgt := 45) hx hb dX8_depth_6 (by decide) (fun c11 => ?_) (fun c11 => ?_)
    · have h := h.1 c11
      refine lv_iload_n hx hb dX8_depth_45 rfl (lv_at hl 2 rfl) ?_
      exact xw_ireti hx hb hr hlocks h dX8_depth_46
    · have h := h.2 c11
      refine lv_iload_n hx hb dX8_depth_9 rfl (lv_at hl 2 rfl) ?_
      refine lv_aload_n hx hb dX8_depth_10 rfl (lv_at hl 0 rfl) ?_
      refine lv_iload_n hx hb dX8_depth_11 rfl (lv_at hl 3 rfl) ?_
      refine xw_ri (va_runV (rm := { frames := 1, cells := 0, slots := 0, locals := 22 }) (As := [.int y3]) (rest := [.int y2]) ⟨hx, hb, hml, hown, hts⟩ (c_X8_isThere l D cy a y3 I F G _ h A) (cwV 1 hts gX8_depth_X8_isThere rfl rfl rfl (by decide +kernel) ⟨Nat.le_of_ble_eq_true rfl, Nat.le_of_ble_eq_true rfl⟩) (xw_preV hB hP hD (ci := 8) rfl xM_c0) rfl rfl hl.1 rfl (lv_room (Nat.le_of_ble_eq_true rfl)) dX8_depth_12 ⟨Nat.le_of_ble_eq_true rfl, Nat.le_of_ble_eq_true rfl⟩) (fun r12 h => ?_)
      refine lv_if_eq (tgt := 36) hx hb dX8_depth_15 (by decide) (fun c13 => ?_) (fun c13 => ?_)
      · have h := h.1 c13
        refine lv_iconst (v := 0) hx hb dX8_depth_36 (by decide) ?_
        refine lv_iadd hx hb dX8_depth_37 ?_
        refine lv_topi (fun v14 ev14 => ?_)
        have h := h v14 ev14
        refine lv_istore_n (lv' := [(2, .int v14), (0, .ref (a 0)), (1, .int x1), (3, .int y3)]) hx hb dX8_depth_38 rfl hl (by decide) rfl (fun ls hl => ?_)
        obtain ⟨v15, ev15⟩ : ∃ y : Int32, y = y3 + 1 := ⟨_, rfl⟩
        have h := h v15 ev15
        refine lv_iinc (v := v15) (lv' := [(3, .int v15), (2, .int v14), (0, .ref (a 0)), (1, .int x1)]) hx hb dX8_depth_39 hl (k := 3) rfl (by rw [ev15]; rfl) (by decide) rfl (fun ls hl => ?_)
        refine lv_goto (tgt := 4) hx hb dX8_depth_42 (by decide) ?_
        exact (hWW _ _ _).mp (el4 _ _ h ls (lv_sub hl [2, 3, 1, 0] rfl))
      · have h := h.2 c13
        refine lv_aload_n hx hb dX8_depth_18 rfl (lv_at hl 0 rfl) ?_
        refine va_get (D := D) (ci := 8) (v := .ref (a 3)) (C := RX8) (T := TX8) (N := 22) hx hb hts mX8_depth_inX8 hown hB.1 hP 0 xM_c0 rfl 3 (by decide) (hts _ mX8_depth_1) (fun _ h9 => h9) rfl dX8_depth_19 ?_
        refine lv_iload_n hx hb dX8_depth_22 rfl (lv_at hl 3 rfl) ?_
        refine xw_iald hx hb hB hP 3 xM_c3 h.1 dX8_depth_23 (fun v16 ev16 => ?_)
        have h := h.2 v16 ev16
        refine lv_iload_n hx hb dX8_depth_24 rfl (lv_at hl 1 rfl) ?_
        refine lv_ishr hx hb dX8_depth_25 ?_
        refine lv_iconst (v := 1) hx hb dX8_depth_26 (by decide) ?_
        refine lv_iand hx hb dX8_depth_27 ?_
        refine lv_iconst (v := 1) hx hb dX8_depth_28 (by decide) ?_
        refine lv_icmp_ne (tgt := 36) hx hb dX8_depth_29 (by decide) (fun c17 => ?_) (fun c17 => ?_)
        · have h := h.1 c17
          refine lv_iconst (v := 0) hx hb dX8_depth_36 (by decide) ?_
          refine lv_iadd hx hb dX8_depth_37 ?_
          refine lv_topi (fun v18 ev18 => ?_)
          have h := h v18 ev18
          refine lv_istore_n (lv' := [(2, .int v18), (0, .ref (a 0)), (1, .int x1), (3, .int y3)]) hx hb dX8_depth_38 rfl hl (by decide) rfl (fun ls hl => ?_)
          obtain ⟨v19, ev19⟩ : ∃ y : Int32, y = y3 + 1 := ⟨_, rfl⟩
          have h := h v19 ev19
          refine lv_iinc (v := v19) (lv' := [(3, .int v19), (2, .int v18), (0, .ref (a 0)), (1, .int x1)]) hx hb dX8_depth_39 hl (k := 3) rfl (by rw [ev19]; rfl) (by decide) rfl (fun ls hl => ?_)
          refine lv_goto (tgt := 4) hx hb dX8_depth_42 (by decide) ?_
          exact (hWW _ _ _).mp (el4 _ _ h ls (lv_sub hl [2, 3, 1, 0] rfl))
        · have h := h.2 c17
          refine lv_iconst (v := 1) hx hb dX8_depth_32 (by decide) ?_
          refine lv_goto (tgt := 37) hx hb dX8_depth_33 (by decide) ?_
          refine lv_iadd hx hb dX8_depth_37 ?_
          refine lv_topi (fun v20 ev20 => ?_)
          have h := h v20 ev20
          refine lv_istore_n (lv' := [(2, .int v20), (0, .ref (a 0)), (1, .int x1), (3, .int y3)]) hx hb dX8_depth_38 rfl hl (by decide) rfl (fun ls hl => ?_)
          obtain ⟨v21, ev21⟩ : ∃ y : Int32, y = y3 + 1 := ⟨_, rfl⟩
          have h := h v21 ev21
          refine lv_iinc (v := v21) (lv' := [(3, .int v21), (2, .int v20), (0, .ref (a 0)), (1, .int x1)]) hx hb dX8_depth_39 hl (k := 3) rfl (by rw [ev21]; rfl) (by decide) rfl (fun ls hl => ?_)
          refine lv_goto (tgt := 4) hx hb dX8_depth_42 (by decide) ?_
          exact (hWW _ _ _).mp (el4 _ _ h ls (lv_sub hl [2, 3, 1, 0] rfl))
  have h := h k4 rl4
  unfold bd_X8_depth_0 at h
  refine lv_iconst (v := 0) hx hb dX8_depth_0 (by decide) ?_
  refine lv_istore_n (lv' := [(2, .int (0 : Int32)), (0, .ref (a 0)), (1, .int x1)]) hx hb dX8_depth_1 rfl hl (by decide) rfl (fun ls hl => ?_)
  refine lv_iconst (v := 0) hx hb dX8_depth_2 (by decide) ?_
  refine lv_istore_n (lv' := [(3, .int (0 : Int32)), (2, .int (0 : Int32)), (0, .ref (a 0)), (1, .int x1)]) hx hb dX8_depth_3 rfl hl (by decide) rfl (fun ls hl => ?_)
  exact (hWW _ _ _).mp (el4 _ _ h ls (lv_sub hl [2, 3, 1, 0] rfl))

theorem mX8_pair_1 : Cond.fieldLink RX8 7 "TagCarrierModel" "opens" "[I" ∈ wsX8_pair := List.mem_of_getElem? (i := 1) rfl
theorem mX8_pair_inX8 : ∀ w ∈ u_ws RX8 TX8 22, w ∈ wsX8_pair := by decide +kernel
theorem mX8_pair_2 : Cond.fieldLink RX8 13 "TagCarrierModel" "closes" "[I" ∈ wsX8_pair := List.mem_of_getElem? (i := 2) rfl
theorem mX8_pair_3 : Cond.fieldLink RX8 16 "TagCarrierModel" "holds" "[I" ∈ wsX8_pair := List.mem_of_getElem? (i := 3) rfl
theorem mX8_pair_4 : Cond.fieldLink RX8 38 "TagCarrierModel" "begins" "[I" ∈ wsX8_pair := List.mem_of_getElem? (i := 4) rfl
theorem mX8_pair_5 : Cond.fieldLink RX8 41 "TagCarrierModel" "ends" "[I" ∈ wsX8_pair := List.mem_of_getElem? (i := 5) rfl
set_option maxHeartbeats 4000000 in
set_option maxRecDepth 100000 in
theorem c_X8_pair (l : Launch) (D : va_G) (cy : Nat → ClassId) (a : Nat → Nat) (x1 : Int32) (x2 : Int32) (I : xw_I) (F : xw_F) (G : xw_G) (post : Int32 → xw_I → xw_F → xw_G → Prop) (h : sm_X8_pair x1 x2 I F G post) : xw_Wi l yX8_pair wsX8_pair ({ frames := 6, cells := 0, slots := 0, locals := 151 }) D cy [.ref (a 0), .int x1, .int x2] (xM_w cy a I F G) (xM_w cy a) post := by
  intro A
  refine Met.ofW (cc := cX8_pair) (maxL := 3) (ret := (some .int)) (by decide) rfl ?_
  intro p e s m args below meth c s₁ B hml hv
  obtain ⟨rfl, hP, hB, hD⟩ := hv
  have hP : va_P D vwCl (xM_w cy a I F G) s.heap := hP
  have hx := B.exec
  have hb := B.bytes
  have hr := B.returns
  have hts := atoms_spec (ws := wsX8_pair) B.pre
  have hown : s.vm.findClass RX8 = some m.cls := findClass_of_methodNamed B.named
  have hlocks := B.notSynchronized
  have hS : va_S A s.heap s.heap [] := va_S.rf
  refine xw_go (fun WW hWW => ?_)
  have hl := lv_entry ([.ref (a 0), .int x1, .int x2]) (n := 3) (Nat.le_of_ble_eq_true rfl)
  rw [lg_entry_eq]
  generalize (lg_sl ([.ref (a 0), .int x1, .int x2]) ++ List.replicate (3 - (lg_sl ([.ref (a 0), .int x1, .int x2])).length) Slot.unset).toArray = ls at hl ⊢
  have hl : lv_has ls 3 [(0, .ref (a 0)), (1, .int x1), (2, .int x2)] := hl
  unfold sm_X8_pair at h
  refine lv_aload_n hx hb dX8_pair_0 rfl (lv_at hl 0 rfl) ?_
  refine lv_iload_n hx hb dX8_pair_1 rfl (lv_at hl 1 rfl) ?_
  refine xw_ri (va_runV (rm := { frames := 1, cells := 0, slots := 0, locals := 22 }) (As := [.int x1]) (rest := []) ⟨hx, hb, hml, hown, hts⟩ (c_X8_isThere l D cy a x1 I F G _ h A) (cwV 1 hts gX8_pair_X8_isThere rfl rfl rfl (by decide +kernel) ⟨Nat.le_of_ble_eq_true rfl, Nat.le_of_ble_eq_true rfl⟩) (xw_preV hB hP hD (ci := 8) rfl xM_c0) rfl rfl hl.1 rfl (lv_room (Nat.le_of_ble_eq_true rfl)) dX8_pair_2 ⟨Nat.le_of_ble_eq_true rfl, Nat.le_of_ble_eq_true rfl⟩) (fun r12 h => ?_)
  refine lv_if_ne (tgt := 10) hx hb dX8_pair_5 (by decide) (fun c13 => ?_) (fun c13 => ?_)
  · have h := h.1 c13
    refine lv_iload_n hx hb dX8_pair_10 rfl (lv_at hl 2 rfl) ?_
    refine lv_iconst (v := 0) hx hb dX8_pair_11 (by decide) ?_
    refine lv_bipush (v := 9) hx hb dX8_pair_12 (by decide) ?_
    refine xw_ri (va_runS (rm := { frames := 0, cells := 0, slots := 0, locals := 0 }) (As := [.int x2, .int (0 : Int32), .int (9 : Int32)]) (rest := []) ⟨hx, hb, hml, hown, hts⟩ (c_X8_in l D cy x2 (0 : Int32) (9 : Int32) _ h (fun _ => True)) (va_cwS 3 hts gX8_pair_X8_in rfl rfl rfl (by decide +kernel) ⟨Nat.le_of_ble_eq_true rfl, Nat.le_of_ble_eq_true rfl⟩) (xw_preS hB xw_P0 (xw_D0 (A := fun _ => True))) rfl rfl hl.1 rfl (lv_room (Nat.le_of_ble_eq_true rfl)) dX8_pair_14 ⟨Nat.le_of_ble_eq_true rfl, Nat.le_of_ble_eq_true rfl⟩) (fun r14 h => ?_)
    refine lv_if_ne (tgt := 23) hx hb dX8_pair_17 (by decide) (fun c15 => ?_) (fun c15 => ?_)
    · have h := h.1 c15
      refine lv_aload_n hx hb dX8_pair_23 rfl (lv_at hl 0 rfl) ?_
      refine xw_wv (va_runV (rm := { frames := 5, cells := 0, slots := 0, locals := 127 }) (As := []) (rest := []) ⟨hx, hb, hml, hown, hts⟩ (c_X8_place l D cy a I F G _ h A) (cwV 0 hts gX8_pair_X8_place rfl rfl rfl (by decide +kernel) ⟨Nat.le_of_ble_eq_true rfl, Nat.le_of_ble_eq_true rfl⟩) (xw_preV hB hP hD (ci := 8) rfl xM_c0) rfl rfl hl.1 rfl (lv_room (Nat.le_of_ble_eq_true rfl)) dX8_pair_24 ⟨Nat.le_of_ble_eq_true rfl, Nat.le_of_ble_eq_true rfl⟩) hS (fun I16 F16 G16 H locs h hP hD hS => ?_)
      refine lv_iload_n hx hb dX8_pair_27 rfl (lv_at hl 2 rfl) ?_
      by_cases c17 : x2 = 0
      · have h := h.1 c17
        refine lv_tableIn (tgt := 80) hx hb dX8_pair_28 (by rw [c17]; decide) (by rw [c17]; decide) (by rw [c17]; rfl) (by decide) ?_
        refine lv_aload_n hx hb dX8_pair_80 rfl (lv_at hl 0 rfl) ?_
        refine va_get (D := D) (ci := 8) (v := .ref (a 1)) (C := RX8) (T := TX8) (N := 22) hx hb hts mX8_pair_inX8 hown hB.1 hP 0 xM_c0 rfl 1 (by decide) (hts _ mX8_pair_1) (fun _ h9 => h9) rfl dX8_pair_81 ?_
        refine lv_iload_n hx hb dX8_pair_84 rfl (lv_at hl 1 rfl) ?_
        refine xw_iald hx hb hB hP 1 xM_c1 h.1 dX8_pair_85 (fun v18 ev18 => ?_)
        have h := h.2 v18 ev18
        exact xw_wreti hx hb hr hlocks hP hD hS h dX8_pair_86
      have h := h.2
      have c17_0 := c17
      clear c17
      by_cases c17 : x2 = 1
      · have h := h.1 c17
        refine lv_tableIn (tgt := 87) hx hb dX8_pair_28 (by rw [c17]; decide) (by rw [c17]; decide) (by rw [c17]; rfl) (by decide) ?_
        refine lv_aload_n hx hb dX8_pair_87 rfl (lv_at hl 0 rfl) ?_
        refine va_get (D := D) (ci := 8) (v := .ref (a 2)) (C := RX8) (T := TX8) (N := 22) hx hb hts mX8_pair_inX8 hown hB.1 hP 0 xM_c0 rfl 2 (by decide) (hts _ mX8_pair_2) (fun _ h9 => h9) rfl dX8_pair_88 ?_
        refine lv_iload_n hx hb dX8_pair_91 rfl (lv_at hl 1 rfl) ?_
        refine xw_iald hx hb hB hP 2 xM_c2 h.1 dX8_pair_92 (fun v19 ev19 => ?_)
        have h := h.2 v19 ev19
        exact xw_wreti hx hb hr hlocks hP hD hS h dX8_pair_93
      have h := h.2
      have c17_1 := c17
      clear c17
      by_cases c17 : x2 = 2
      · have h := h.1 c17
        refine lv_tableIn (tgt := 94) hx hb dX8_pair_28 (by rw [c17]; decide) (by rw [c17]; decide) (by rw [c17]; rfl) (by decide) ?_
        refine lv_aload_n hx hb dX8_pair_94 rfl (lv_at hl 0 rfl) ?_
        refine lv_iload_n hx hb dX8_pair_95 rfl (lv_at hl 1 rfl) ?_
        refine xw_ri (va_runV (rm := { frames := 2, cells := 0, slots := 0, locals := 43 }) (As := [.int x1]) (rest := []) ⟨hx, hb, hml, hown, hts⟩ (c_X8_depth l D cy a x1 I16 F16 G16 _ h A) (cwV 1 hts gX8_pair_X8_depth rfl rfl rfl (by decide +kernel) ⟨Nat.le_of_ble_eq_true rfl, Nat.le_of_ble_eq_true rfl⟩) (xw_preV hB hP hD (ci := 8) rfl xM_c0) rfl rfl hl.1 rfl (lv_room (Nat.le_of_ble_eq_true rfl)) dX8_pair_96 ⟨Nat.le_of_ble_eq_true rfl, Nat.le_of_ble_eq_true rfl⟩) (fun r20 h => ?_)
        exact xw_wreti hx hb hr hlocks hP hD hS h dX8_pair_99
      have h := h.2
      have c17_2 := c17
      clear c17
      by_cases c17 : x2 = 3
      · have h := h.1 c17
        refine lv_tableIn (tgt := 100) hx hb dX8_pair_28 (by rw [c17]; decide) (by rw [c17]; decide) (by rw [c17]; rfl) (by decide) ?_
        refine lv_aload_n hx hb dX8_pair_100 rfl (lv_at hl 0 rfl) ?_
        refine va_get (D := D) (ci := 8) (v := .ref (a 3)) (C := RX8) (T := TX8) (N := 22) hx hb hts mX8_pair_inX8 hown hB.1 hP 0 xM_c0 rfl 3 (by decide) (hts _ mX8_pair_3) (fun _ h9 => h9) rfl dX8_pair_101 ?_
        refine lv_iload_n hx hb dX8_pair_104 rfl (lv_at hl 1 rfl) ?_
        refine xw_iald hx hb hB hP 3 xM_c3 h.1 dX8_pair_105 (fun v21 ev21 => ?_)
        have h := h.2 v21 ev21
        exact xw_wreti hx hb hr hlocks hP hD hS h dX8_pair_106
      have h := h.2
      have c17_3 := c17
      clear c17
      by_cases c17 : x2 = 4
      · have h := h.1 c17
        refine lv_tableIn (tgt := 107) hx hb dX8_pair_28 (by rw [c17]; decide) (by rw [c17]; decide) (by rw [c17]; rfl) (by decide) ?_
        refine lv_aload_n hx hb dX8_pair_107 rfl (lv_at hl 0 rfl) ?_
        refine lv_iload_n hx hb dX8_pair_108 rfl (lv_at hl 1 rfl) ?_
        refine xw_ri (va_runV (rm := { frames := 1, cells := 0, slots := 0, locals := 23 }) (As := [.int x1]) (rest := []) ⟨hx, hb, hml, hown, hts⟩ (c_X8_wantedFrom l D cy a x1 I16 F16 G16 _ h A) (cwV 1 hts gX8_pair_X8_wantedFrom rfl rfl rfl (by decide +kernel) ⟨Nat.le_of_ble_eq_true rfl, Nat.le_of_ble_eq_true rfl⟩) (xw_preV hB hP hD (ci := 8) rfl xM_c0) rfl rfl hl.1 rfl (lv_room (Nat.le_of_ble_eq_true rfl)) dX8_pair_109 ⟨Nat.le_of_ble_eq_true rfl, Nat.le_of_ble_eq_true rfl⟩) (fun r22 h => ?_)
        exact xw_wreti hx hb hr hlocks hP hD hS h dX8_pair_112
      have h := h.2
      have c17_4 := c17
      clear c17
      by_cases c17 : x2 = 5
      · have h := h.1 c17
        refine lv_tableIn (tgt := 113) hx hb dX8_pair_28 (by rw [c17]; decide) (by rw [c17]; decide) (by rw [c17]; rfl) (by decide) ?_
        refine lv_aload_n hx hb dX8_pair_113 rfl (lv_at hl 0 rfl) ?_
        refine lv_iload_n hx hb dX8_pair_114 rfl (lv_at hl 1 rfl) ?_
        refine xw_ri (va_runV (rm := { frames := 1, cells := 0, slots := 0, locals := 23 }) (As := [.int x1]) (rest := []) ⟨hx, hb, hml, hown, hts⟩ (c_X8_wantedTo l D cy a x1 I16 F16 G16 _ h A) (cwV 1 hts gX8_pair_X8_wantedTo rfl rfl rfl (by decide +kernel) ⟨Nat.le_of_ble_eq_true rfl, Nat.le_of_ble_eq_true rfl⟩) (xw_preV hB hP hD (ci := 8) rfl xM_c0) rfl rfl hl.1 rfl (lv_room (Nat.le_of_ble_eq_true rfl)) dX8_pair_115 ⟨Nat.le_of_ble_eq_true rfl, Nat.le_of_ble_eq_true rfl⟩) (fun r23 h => ?_)
        exact xw_wreti hx hb hr hlocks hP hD hS h dX8_pair_118
      have h := h.2
      have c17_5 := c17
      clear c17
      by_cases c17 : x2 = 6
      · have h := h.1 c17
        refine lv_tableIn (tgt := 119) hx hb dX8_pair_28 (by rw [c17]; decide) (by rw [c17]; decide) (by rw [c17]; rfl) (by decide) ?_
        refine lv_aload_n hx hb dX8_pair_119 rfl (lv_at hl 0 rfl) ?_
        refine va_get (D := D) (ci := 8) (v := .ref (a 10)) (C := RX8) (T := TX8) (N := 22) hx hb hts mX8_pair_inX8 hown hB.1 hP 0 xM_c0 rfl 13 (by decide) (hts _ mX8_pair_4) (fun _ h9 => h9) rfl dX8_pair_120 ?_
        refine lv_iload_n hx hb dX8_pair_123 rfl (lv_at hl 1 rfl) ?_
        refine xw_iald hx hb hB hP 10 xM_c10 h.1 dX8_pair_124 (fun v24 ev24 => ?_)
        have h := h.2 v24 ev24
        exact xw_wreti hx hb hr hlocks hP hD hS h dX8_pair_125
      have h := h.2
      have c17_6 := c17
      clear c17
      by_cases c17 : x2 = 7
      · have h := h.1 c17
        refine lv_tableIn (tgt := 126) hx hb dX8_pair_28 (by rw [c17]; decide) (by rw [c17]; decide) (by rw [c17]; rfl) (by decide) ?_
        refine lv_aload_n hx hb dX8_pair_126 rfl (lv_at hl 0 rfl) ?_
        refine va_get (D := D) (ci := 8) (v := .ref (a 11)) (C := RX8) (T := TX8) (N := 22) hx hb hts mX8_pair_inX8 hown hB.1 hP 0 xM_c0 rfl 14 (by decide) (hts _ mX8_pair_5) (fun _ h9 => h9) rfl dX8_pair_127 ?_
        refine lv_iload_n hx hb dX8_pair_130 rfl (lv_at hl 1 rfl) ?_
        refine xw_iald hx hb hB hP 11 xM_c11 h.1 dX8_pair_131 (fun v25 ev25 => ?_)
        have h := h.2 v25 ev25
        exact xw_wreti hx hb hr hlocks hP hD hS h dX8_pair_132
      have h := h.2
      have c17_7 := c17
      clear c17
      by_cases c17 : x2 = 8
      · have h := h.1 c17
        refine lv_tableIn (tgt := 133) hx hb dX8_pair_28 (by rw [c17]; decide) (by rw [c17]; decide) (by rw [c17]; rfl) (by decide) ?_
        refine lv_aload_n hx hb dX8_pair_133 rfl (lv_at hl 0 rfl) ?_
        refine lv_iload_n hx hb dX8_pair_134 rfl (lv_at hl 1 rfl) ?_
        refine lv_aload_n hx hb dX8_pair_135 rfl (lv_at hl 0 rfl) ?_
        refine va_get (D := D) (ci := 8) (v := .ref (a 10)) (C := RX8) (T := TX8) (N := 22) hx hb hts mX8_pair_inX8 hown hB.1 hP 0 xM_c0 rfl 13 (by decide) (hts _ mX8_pair_4) (fun _ h9 => h9) rfl dX8_pair_136 ?_
        refine lv_iload_n hx hb dX8_pair_139 rfl (lv_at hl 1 rfl) ?_
        refine xw_iald hx hb hB hP 10 xM_c10 h.1 dX8_pair_140 (fun v26 ev26 => ?_)
        have h := h.2 v26 ev26
        refine lv_aload_n hx hb dX8_pair_141 rfl (lv_at hl 0 rfl) ?_
        refine va_get (D := D) (ci := 8) (v := .ref (a 11)) (C := RX8) (T := TX8) (N := 22) hx hb hts mX8_pair_inX8 hown hB.1 hP 0 xM_c0 rfl 14 (by decide) (hts _ mX8_pair_5) (fun _ h9 => h9) rfl dX8_pair_142 ?_
        refine lv_iload_n hx hb dX8_pair_145 rfl (lv_at hl 1 rfl) ?_
        refine xw_iald hx hb hB hP 11 xM_c11 h.1 dX8_pair_146 (fun v27 ev27 => ?_)
        have h := h.2 v27 ev27
        refine xw_ri (va_runV (rm := { frames := 2, cells := 0, slots := 0, locals := 46 }) (As := [.int x1, .int v26, .int v27]) (rest := []) ⟨hx, hb, hml, hown, hts⟩ (c_X8_costOf l D cy a x1 v26 v27 I16 F16 G16 _ h A) (cwV 3 hts gX8_pair_X8_costOf rfl rfl rfl (by decide +kernel) ⟨Nat.le_of_ble_eq_true rfl, Nat.le_of_ble_eq_true rfl⟩) (xw_preV hB hP hD (ci := 8) rfl xM_c0) rfl rfl hl.1 rfl (lv_room (Nat.le_of_ble_eq_true rfl)) dX8_pair_147 ⟨Nat.le_of_ble_eq_true rfl, Nat.le_of_ble_eq_true rfl⟩) (fun r28 h => ?_)
        exact xw_wreti hx hb hr hlocks hP hD hS h dX8_pair_150
      have h := h.2
      have c17_8 := c17
      clear c17
      have h := h c17_0 c17_1 c17_2 c17_3 c17_4 c17_5 c17_6 c17_7 c17_8
      refine lv_tableOut (tgt := 151) hx hb dX8_pair_28 (xw_tab8 c17_0 c17_1 c17_2 c17_3 c17_4 c17_5 c17_6 c17_7 c17_8) (by decide) ?_
      refine lv_aload_n hx hb dX8_pair_151 rfl (lv_at hl 0 rfl) ?_
      refine lv_iload_n hx hb dX8_pair_152 rfl (lv_at hl 1 rfl) ?_
      refine xw_ri (va_runV (rm := { frames := 0, cells := 0, slots := 0, locals := 0 }) (As := [.int x1]) (rest := []) ⟨hx, hb, hml, hown, hts⟩ (c_X8_linksOf l D cy a x1 I16 F16 G16 _ h A) (cwV 1 hts gX8_pair_X8_linksOf rfl rfl rfl (by decide +kernel) ⟨Nat.le_of_ble_eq_true rfl, Nat.le_of_ble_eq_true rfl⟩) (xw_preV hB hP hD (ci := 8) rfl xM_c0) rfl rfl hl.1 rfl (lv_room (Nat.le_of_ble_eq_true rfl)) dX8_pair_153 ⟨Nat.le_of_ble_eq_true rfl, Nat.le_of_ble_eq_true rfl⟩) (fun r29 h => ?_)
      refine lv_if_ne (tgt := 163) hx hb dX8_pair_156 (by decide) (fun c30 => ?_) (fun c30 => ?_)
      · have h := h.1 c30
        refine lv_iconst (v := 0) hx hb dX8_pair_163 (by decide) ?_
        exact xw_wreti hx hb hr hlocks hP hD hS h dX8_pair_164
      · have h := h.2 c30
        refine lv_iconst (v := 1) hx hb dX8_pair_159 (by decide) ?_
        refine lv_goto (tgt := 164) hx hb dX8_pair_160 (by decide) ?_
        exact xw_wreti hx hb hr hlocks hP hD hS h dX8_pair_164
    · have h := h.2 c15
      refine lv_bipush (v := -2) hx hb dX8_pair_20 (by decide) ?_
      exact xw_wreti hx hb hr hlocks hP hD hS h dX8_pair_22
  · have h := h.2 c13
    refine lv_iconst (v := -1) hx hb dX8_pair_8 (by decide) ?_
    exact xw_wreti hx hb hr hlocks hP hD hS h dX8_pair_9

theorem mX8_mark_1 : Cond.fieldLink RX8 19 "TagCarrierModel" "markGap" "[I" ∈ wsX8_mark := List.mem_of_getElem? (i := 1) rfl
theorem mX8_mark_inX8 : ∀ w ∈ u_ws RX8 TX8 22, w ∈ wsX8_mark := by decide +kernel
theorem mX8_mark_2 : Cond.fieldLink RX8 44 "TagCarrierModel" "markAt" "[I" ∈ wsX8_mark := List.mem_of_getElem? (i := 2) rfl
set_option maxHeartbeats 4000000 in
set_option maxRecDepth 100000 in
theorem c_X8_mark (l : Launch) (D : va_G) (cy : Nat → ClassId) (a : Nat → Nat) (x1 : Int32) (x2 : Int32) (I : xw_I) (F : xw_F) (G : xw_G) (post : Int32 → xw_I → xw_F → xw_G → Prop) (h : sm_X8_mark x1 x2 I F G post) : xw_Wi l yX8_mark wsX8_mark ({ frames := 6, cells := 0, slots := 0, locals := 151 }) D cy [.ref (a 0), .int x1, .int x2] (xM_w cy a I F G) (xM_w cy a) post := by
  intro A
  refine Met.ofW (cc := cX8_mark) (maxL := 3) (ret := (some .int)) (by decide) rfl ?_
  intro p e s m args below meth c s₁ B hml hv
  obtain ⟨rfl, hP, hB, hD⟩ := hv
  have hP : va_P D vwCl (xM_w cy a I F G) s.heap := hP
  have hx := B.exec
  have hb := B.bytes
  have hr := B.returns
  have hts := atoms_spec (ws := wsX8_mark) B.pre
  have hown : s.vm.findClass RX8 = some m.cls := findClass_of_methodNamed B.named
  have hlocks := B.notSynchronized
  have hS : va_S A s.heap s.heap [] := va_S.rf
  refine xw_go (fun WW hWW => ?_)
  have hl := lv_entry ([.ref (a 0), .int x1, .int x2]) (n := 3) (Nat.le_of_ble_eq_true rfl)
  rw [lg_entry_eq]
  generalize (lg_sl ([.ref (a 0), .int x1, .int x2]) ++ List.replicate (3 - (lg_sl ([.ref (a 0), .int x1, .int x2])).length) Slot.unset).toArray = ls at hl ⊢
  have hl : lv_has ls 3 [(0, .ref (a 0)), (1, .int x1), (2, .int x2)] := hl
  unfold sm_X8_mark at h
  refine lv_iload_n hx hb dX8_mark_0 rfl (lv_at hl 1 rfl) ?_
  refine lv_iconst (v := 0) hx hb dX8_mark_1 (by decide) ?_
  refine lv_iconst (v := 2) hx hb dX8_mark_2 (by decide) ?_
  refine xw_ri (va_runS (rm := { frames := 0, cells := 0, slots := 0, locals := 0 }) (As := [.int x1, .int (0 : Int32), .int (2 : Int32)]) (rest := []) ⟨hx, hb, hml, hown, hts⟩ (c_X8_in l D cy x1 (0 : Int32) (2 : Int32) _ h (fun _ => True)) (va_cwS 3 hts gX8_mark_X8_in rfl rfl rfl (by decide +kernel) ⟨Nat.le_of_ble_eq_true rfl, Nat.le_of_ble_eq_true rfl⟩) (xw_preS hB xw_P0 (xw_D0 (A := fun _ => True))) rfl rfl hl.1 rfl (lv_room (Nat.le_of_ble_eq_true rfl)) dX8_mark_3 ⟨Nat.le_of_ble_eq_true rfl, Nat.le_of_ble_eq_true rfl⟩) (fun r10 h => ?_)
  refine lv_if_eq (tgt := 18) hx hb dX8_mark_6 (by decide) (fun c11 => ?_) (fun c11 => ?_)
  · have h := h.1 c11
    refine lv_iconst (v := -1) hx hb dX8_mark_18 (by decide) ?_
    exact xw_wreti hx hb hr hlocks hP hD hS h dX8_mark_19
  · have h := h.2 c11
    refine lv_aload_n hx hb dX8_mark_9 rfl (lv_at hl 0 rfl) ?_
    refine va_get (D := D) (ci := 8) (v := .ref (a 4)) (C := RX8) (T := TX8) (N := 22) hx hb hts mX8_mark_inX8 hown hB.1 hP 0 xM_c0 rfl 4 (by decide) (hts _ mX8_mark_1) (fun _ h9 => h9) rfl dX8_mark_10 ?_
    refine lv_iload_n hx hb dX8_mark_13 rfl (lv_at hl 1 rfl) ?_
    refine xw_iald hx hb hB hP 4 xM_c4 h.1 dX8_mark_14 (fun v12 ev12 => ?_)
    have h := h.2 v12 ev12
    refine lv_if_ge (tgt := 20) hx hb dX8_mark_15 (by decide) (fun c13 => ?_) (fun c13 => ?_)
    · have h := h.1 c13
      refine lv_iload_n hx hb dX8_mark_20 rfl (lv_at hl 2 rfl) ?_
      refine lv_iconst (v := 0) hx hb dX8_mark_21 (by decide) ?_
      refine lv_iconst (v := 2) hx hb dX8_mark_22 (by decide) ?_
      refine xw_ri (va_runS (rm := { frames := 0, cells := 0, slots := 0, locals := 0 }) (As := [.int x2, .int (0 : Int32), .int (2 : Int32)]) (rest := []) ⟨hx, hb, hml, hown, hts⟩ (c_X8_in l D cy x2 (0 : Int32) (2 : Int32) _ h (fun _ => True)) (va_cwS 3 hts gX8_mark_X8_in rfl rfl rfl (by decide +kernel) ⟨Nat.le_of_ble_eq_true rfl, Nat.le_of_ble_eq_true rfl⟩) (xw_preS hB xw_P0 (xw_D0 (A := fun _ => True))) rfl rfl hl.1 rfl (lv_room (Nat.le_of_ble_eq_true rfl)) dX8_mark_23 ⟨Nat.le_of_ble_eq_true rfl, Nat.le_of_ble_eq_true rfl⟩) (fun r14 h => ?_)
      refine lv_if_ne (tgt := 32) hx hb dX8_mark_26 (by decide) (fun c15 => ?_) (fun c15 => ?_)
      · have h := h.1 c15
        refine lv_aload_n hx hb dX8_mark_32 rfl (lv_at hl 0 rfl) ?_
        refine xw_wv (va_runV (rm := { frames := 5, cells := 0, slots := 0, locals := 127 }) (As := []) (rest := []) ⟨hx, hb, hml, hown, hts⟩ (c_X8_place l D cy a I F G _ h A) (cwV 0 hts gX8_mark_X8_place rfl rfl rfl (by decide +kernel) ⟨Nat.le_of_ble_eq_true rfl, Nat.le_of_ble_eq_true rfl⟩) (xw_preV hB hP hD (ci := 8) rfl xM_c0) rfl rfl hl.1 rfl (lv_room (Nat.le_of_ble_eq_true rfl)) dX8_mark_33 ⟨Nat.le_of_ble_eq_true rfl, Nat.le_of_ble_eq_true rfl⟩) hS (fun I16 F16 G16 H locs h hP hD hS => ?_)
        refine lv_iload_n hx hb dX8_mark_36 rfl (lv_at hl 2 rfl) ?_
        refine lv_if_ne (tgt := 49) hx hb dX8_mark_37 (by decide) (fun c17 => ?_) (fun c17 => ?_)
        · have h := h.1 c17
          refine lv_iload_n hx hb dX8_mark_49 rfl (lv_at hl 2 rfl) ?_
          refine lv_iconst (v := 1) hx hb dX8_mark_50 (by decide) ?_
          refine lv_icmp_ne (tgt := 67) hx hb dX8_mark_51 (by decide) (fun c18 => ?_) (fun c18 => ?_)
          · have h := h.1 c18
            refine lv_aload_n hx hb dX8_mark_67 rfl (lv_at hl 0 rfl) ?_
            refine va_get (D := D) (ci := 8) (v := .ref (a 12)) (C := RX8) (T := TX8) (N := 22) hx hb hts mX8_mark_inX8 hown hB.1 hP 0 xM_c0 rfl 15 (by decide) (hts _ mX8_mark_2) (fun _ h9 => h9) rfl dX8_mark_68 ?_
            refine lv_iload_n hx hb dX8_mark_71 rfl (lv_at hl 1 rfl) ?_
            refine xw_iald hx hb hB hP 12 xM_c12 h.1 dX8_mark_72 (fun v19 ev19 => ?_)
            have h := h.2 v19 ev19
            exact xw_wreti hx hb hr hlocks hP hD hS h dX8_mark_73
          · have h := h.2 c18
            refine lv_aload_n hx hb dX8_mark_54 rfl (lv_at hl 0 rfl) ?_
            refine lv_aload_n hx hb dX8_mark_55 rfl (lv_at hl 0 rfl) ?_
            refine va_get (D := D) (ci := 8) (v := .ref (a 4)) (C := RX8) (T := TX8) (N := 22) hx hb hts mX8_mark_inX8 hown hB.1 hP 0 xM_c0 rfl 4 (by decide) (hts _ mX8_mark_1) (fun _ h9 => h9) rfl dX8_mark_56 ?_
            refine lv_iload_n hx hb dX8_mark_59 rfl (lv_at hl 1 rfl) ?_
            refine xw_iald hx hb hB hP 4 xM_c4 h.1 dX8_mark_60 (fun v20 ev20 => ?_)
            have h := h.2 v20 ev20
            refine xw_ri (va_runV (rm := { frames := 0, cells := 0, slots := 0, locals := 0 }) (As := [.int v20]) (rest := []) ⟨hx, hb, hml, hown, hts⟩ (c_X8_anchor l D cy a v20 I16 F16 G16 _ h A) (cwV 1 hts gX8_mark_X8_anchor rfl rfl rfl (by decide +kernel) ⟨Nat.le_of_ble_eq_true rfl, Nat.le_of_ble_eq_true rfl⟩) (xw_preV hB hP hD (ci := 8) rfl xM_c0) rfl rfl hl.1 rfl (lv_room (Nat.le_of_ble_eq_true rfl)) dX8_mark_61 ⟨Nat.le_of_ble_eq_true rfl, Nat.le_of_ble_eq_true rfl⟩) (fun r21 h => ?_)
            refine lv_goto (tgt := 73) hx hb dX8_mark_64 (by decide) ?_
            exact xw_wreti hx hb hr hlocks hP hD hS h dX8_mark_73
        · have h := h.2 c17
          refine lv_aload_n hx hb dX8_mark_40 rfl (lv_at hl 0 rfl) ?_
          refine va_get (D := D) (ci := 8) (v := .ref (a 4)) (C := RX8) (T := TX8) (N := 22) hx hb hts mX8_mark_inX8 hown hB.1 hP 0 xM_c0 rfl 4 (by decide) (hts _ mX8_mark_1) (fun _ h9 => h9) rfl dX8_mark_41 ?_
          refine lv_iload_n hx hb dX8_mark_44 rfl (lv_at hl 1 rfl) ?_
          refine xw_iald hx hb hB hP 4 xM_c4 h.1 dX8_mark_45 (fun v22 ev22 => ?_)
          have h := h.2 v22 ev22
          refine lv_goto (tgt := 73) hx hb dX8_mark_46 (by decide) ?_
          exact xw_wreti hx hb hr hlocks hP hD hS h dX8_mark_73
      · have h := h.2 c15
        refine lv_bipush (v := -2) hx hb dX8_mark_29 (by decide) ?_
        exact xw_wreti hx hb hr hlocks hP hD hS h dX8_mark_31
    · have h := h.2 c13
      refine lv_iconst (v := -1) hx hb dX8_mark_18 (by decide) ?_
      exact xw_wreti hx hb hr hlocks hP hD hS h dX8_mark_19

set_option maxHeartbeats 4000000 in
set_option maxRecDepth 100000 in
theorem c_X8_isCrossing (l : Launch) (D : va_G) (cy : Nat → ClassId) (a : Nat → Nat) (x1 : Int32) (x2 : Int32) (I : xw_I) (F : xw_F) (G : xw_G) (post : Int32 → Prop) (h : sm_X8_isCrossing x1 x2 I F G post) : xw_Ri l yX8_isCrossing wsX8_isCrossing ({ frames := 2, cells := 0, slots := 0, locals := 46 }) D cy [.ref (a 0), .int x1, .int x2] (xM_w cy a I F G) post := by
  intro A
  refine Met.ofW (cc := cX8_isCrossing) (maxL := 8) (ret := (some .boolean)) (by decide) rfl ?_
  intro p e s m args below meth c s₁ B hml hv
  obtain ⟨rfl, hP, hB, hD⟩ := hv
  have hP : va_P D vwCl (xM_w cy a I F G) s.heap := hP
  have hx := B.exec
  have hb := B.bytes
  have hr := B.returns
  have hts := atoms_spec (ws := wsX8_isCrossing) B.pre
  have hown : s.vm.findClass RX8 = some m.cls := findClass_of_methodNamed B.named
  have hlocks := B.notSynchronized
  refine xw_go (fun WW hWW => ?_)
  have hl := lv_entry ([.ref (a 0), .int x1, .int x2]) (n := 8) (Nat.le_of_ble_eq_true rfl)
  rw [lg_entry_eq]
  generalize (lg_sl ([.ref (a 0), .int x1, .int x2]) ++ List.replicate (8 - (lg_sl ([.ref (a 0), .int x1, .int x2])).length) Slot.unset).toArray = ls at hl ⊢
  have hl : lv_has ls 8 [(0, .ref (a 0)), (1, .int x1), (2, .int x2)] := hl
  obtain ⟨k40, mk40, el40⟩ : ∃ K : Int32 → Int32 → Int32 → Int32 → Prop, (∀ (y3 : Int32) (y4 : Int32) (y5 : Int32) (y6 : Int32), (∀ (ls : Array Slot), lv_has ls 8 [(3, .int y3), (4, .int y4), (5, .int y5), (6, .int y6)] → WW s.heap [] (F0 m 40 ls [])) → K y3 y4 y5 y6) ∧ (∀ (y3 : Int32) (y4 : Int32) (y5 : Int32) (y6 : Int32), K y3 y4 y5 y6 → (∀ (ls : Array Slot), lv_has ls 8 [(3, .int y3), (4, .int y4), (5, .int y5), (6, .int y6)] → WW s.heap [] (F0 m 40 ls []))) := ⟨fun (y3 : Int32) (y4 : Int32) (y5 : Int32) (y6 : Int32) => (∀ (ls : Array Slot), lv_has ls 8 [(3, .int y3), (4, .int y4), (5, .int y5), (6, .int y6)] → WW s.heap [] (F0 m 40 ls [])), fun _ _ _ _ h => h, fun _ _ _ _ h => h⟩
  obtain ⟨k58, mk58, el58⟩ : ∃ K : Int32 → Int32 → Int32 → Int32 → Int32 → Prop, (∀ (y3 : Int32) (y4 : Int32) (y5 : Int32) (y6 : Int32) (t0 : Int32), (∀ (ls : Array Slot), lv_has ls 8 [(3, .int y3), (4, .int y4), (5, .int y5), (6, .int y6)] → WW s.heap [] (F0 m 58 ls [.int t0])) → K y3 y4 y5 y6 t0) ∧ (∀ (y3 : Int32) (y4 : Int32) (y5 : Int32) (y6 : Int32) (t0 : Int32), K y3 y4 y5 y6 t0 → (∀ (ls : Array Slot), lv_has ls 8 [(3, .int y3), (4, .int y4), (5, .int y5), (6, .int y6)] → WW s.heap [] (F0 m 58 ls [.int t0]))) := ⟨fun (y3 : Int32) (y4 : Int32) (y5 : Int32) (y6 : Int32) (t0 : Int32) => (∀ (ls : Array Slot), lv_has ls 8 [(3, .int y3), (4, .int y4), (5, .int y5), (6, .int y6)] → WW s.heap [] (F0 m 58 ls [.int t0])), fun _ _ _ _ _ h => h, fun _ _ _ _ _ h => h⟩
  have rl40 : ∀ (y3 : Int32) (y4 : Int32) (y5 : Int32) (y6 : Int32), (bd_X8_isCrossing_40 x1 x2 I F G post k40 k58 y3 y4 y5 y6) → k40 y3 y4 y5 y6 := by
    intro y3 y4 y5 y6 h
    refine mk40 _ _ _ _ ?_
    intro ls hl
    refine (hWW _ _ _).mpr ?_
    unfold bd_X8_isCrossing_40 at h
    refine lv_iload hx hb dX8_isCrossing_40 (lv_at hl 2 rfl) ?_
    refine lv_iload_n hx hb dX8_isCrossing_42 rfl (lv_at hl 0 rfl) ?_
    refine lv_icmp_lt (tgt := 57) hx hb dX8_isCrossing_43 (by decide) (fun c14 => ?_) (fun c14 => ?_)
    · have h := h.1 c14
      refine lv_iconst (v := 0) hx hb dX8_isCrossing_57 (by decide) ?_
      exact (hWW _ _ _).mp (el58 _ _ _ _ _ h ls (lv_sub hl [0, 1, 2, 3] rfl))
    · have h := h.2 c14
      refine lv_iload hx hb dX8_isCrossing_46 (lv_at hl 3 rfl) ?_
      refine lv_iload hx hb dX8_isCrossing_48 (lv_at hl 1 rfl) ?_
      refine lv_icmp_gt (tgt := 57) hx hb dX8_isCrossing_50 (by decide) (fun c15 => ?_) (fun c15 => ?_)
      · have h := h.1 c15
        refine lv_iconst (v := 0) hx hb dX8_isCrossing_57 (by decide) ?_
        exact (hWW _ _ _).mp (el58 _ _ _ _ _ h ls (lv_sub hl [0, 1, 2, 3] rfl))
      · have h := h.2 c15
        refine lv_iconst (v := 1) hx hb dX8_isCrossing_53 (by decide) ?_
        refine lv_goto (tgt := 58) hx hb dX8_isCrossing_54 (by decide) ?_
        exact (hWW _ _ _).mp (el58 _ _ _ _ _ h ls (lv_sub hl [0, 1, 2, 3] rfl))
  have rl58 : ∀ (y3 : Int32) (y4 : Int32) (y5 : Int32) (y6 : Int32) (t0 : Int32), (bd_X8_isCrossing_58 x1 x2 I F G post k40 k58 y3 y4 y5 y6 t0) → k58 y3 y4 y5 y6 t0 := by
    intro y3 y4 y5 y6 t0 h
    refine mk58 _ _ _ _ _ ?_
    intro ls hl
    refine (hWW _ _ _).mpr ?_
    unfold bd_X8_isCrossing_58 at h
    refine lv_istore (lv' := [(7, .int t0), (3, .int y3), (4, .int y4), (5, .int y5), (6, .int y6)]) hx hb dX8_isCrossing_58 hl (by decide) rfl (fun ls hl => ?_)
    refine lv_iload hx hb dX8_isCrossing_60 (lv_at hl 0 rfl) ?_
    refine lv_if_ne (tgt := 82) hx hb dX8_isCrossing_62 (by decide) (fun c16 => ?_) (fun c16 => ?_)
    · have h := h.1 c16
      refine lv_iconst (v := 0) hx hb dX8_isCrossing_82 (by decide) ?_
      exact xw_iretz hx hb hr hlocks rfl h dX8_isCrossing_83
    · have h := h.2 c16
      refine lv_iload hx hb dX8_isCrossing_65 (lv_at hl 2 rfl) ?_
      refine lv_iload hx hb dX8_isCrossing_67 (lv_at hl 3 rfl) ?_
      refine lv_icmp_le (tgt := 82) hx hb dX8_isCrossing_69 (by decide) (fun c17 => ?_) (fun c17 => ?_)
      · have h := h.1 c17
        refine lv_iconst (v := 0) hx hb dX8_isCrossing_82 (by decide) ?_
        exact xw_iretz hx hb hr hlocks rfl h dX8_isCrossing_83
      · have h := h.2 c17
        refine lv_iload hx hb dX8_isCrossing_72 (lv_at hl 4 rfl) ?_
        refine lv_iload_n hx hb dX8_isCrossing_74 rfl (lv_at hl 1 rfl) ?_
        refine lv_icmp_le (tgt := 82) hx hb dX8_isCrossing_75 (by decide) (fun c18 => ?_) (fun c18 => ?_)
        · have h := h.1 c18
          refine lv_iconst (v := 0) hx hb dX8_isCrossing_82 (by decide) ?_
          exact xw_iretz hx hb hr hlocks rfl h dX8_isCrossing_83
        · have h := h.2 c18
          refine lv_iconst (v := 1) hx hb dX8_isCrossing_78 (by decide) ?_
          refine lv_goto (tgt := 83) hx hb dX8_isCrossing_79 (by decide) ?_
          exact xw_iretz hx hb hr hlocks rfl h dX8_isCrossing_83
  have h := h k40 k58 rl40 rl58
  unfold bd_X8_isCrossing_0 at h
  refine lv_aload_n hx hb dX8_isCrossing_0 rfl (lv_at hl 0 rfl) ?_
  refine lv_iload_n hx hb dX8_isCrossing_1 rfl (lv_at hl 1 rfl) ?_
  refine xw_ri (va_runV (rm := { frames := 1, cells := 0, slots := 0, locals := 23 }) (As := [.int x1]) (rest := []) ⟨hx, hb, hml, hown, hts⟩ (c_X8_wantedFrom l D cy a x1 I F G _ h A) (cwV 1 hts gX8_isCrossing_X8_wantedFrom rfl rfl rfl (by decide +kernel) ⟨Nat.le_of_ble_eq_true rfl, Nat.le_of_ble_eq_true rfl⟩) (xw_preV hB hP hD (ci := 8) rfl xM_c0) rfl rfl hl.1 rfl (lv_room (Nat.le_of_ble_eq_true rfl)) dX8_isCrossing_2 ⟨Nat.le_of_ble_eq_true rfl, Nat.le_of_ble_eq_true rfl⟩) (fun r8 h => ?_)
  refine lv_istore_n (lv' := [(3, .int r8), (0, .ref (a 0)), (1, .int x1), (2, .int x2)]) hx hb dX8_isCrossing_5 rfl hl (by decide) rfl (fun ls hl => ?_)
  refine lv_aload_n hx hb dX8_isCrossing_6 rfl (lv_at hl 1 rfl) ?_
  refine lv_iload_n hx hb dX8_isCrossing_7 rfl (lv_at hl 2 rfl) ?_
  refine xw_ri (va_runV (rm := { frames := 1, cells := 0, slots := 0, locals := 23 }) (As := [.int x1]) (rest := []) ⟨hx, hb, hml, hown, hts⟩ (c_X8_wantedTo l D cy a x1 I F G _ h A) (cwV 1 hts gX8_isCrossing_X8_wantedTo rfl rfl rfl (by decide +kernel) ⟨Nat.le_of_ble_eq_true rfl, Nat.le_of_ble_eq_true rfl⟩) (xw_preV hB hP hD (ci := 8) rfl xM_c0) rfl rfl hl.1 rfl (lv_room (Nat.le_of_ble_eq_true rfl)) dX8_isCrossing_8 ⟨Nat.le_of_ble_eq_true rfl, Nat.le_of_ble_eq_true rfl⟩) (fun r9 h => ?_)
  refine lv_istore (lv' := [(4, .int r9), (3, .int r8), (0, .ref (a 0)), (1, .int x1), (2, .int x2)]) hx hb dX8_isCrossing_11 hl (by decide) rfl (fun ls hl => ?_)
  refine lv_aload_n hx hb dX8_isCrossing_13 rfl (lv_at hl 2 rfl) ?_
  refine lv_iload_n hx hb dX8_isCrossing_14 rfl (lv_at hl 4 rfl) ?_
  refine xw_ri (va_runV (rm := { frames := 1, cells := 0, slots := 0, locals := 23 }) (As := [.int x2]) (rest := []) ⟨hx, hb, hml, hown, hts⟩ (c_X8_wantedFrom l D cy a x2 I F G _ h A) (cwV 1 hts gX8_isCrossing_X8_wantedFrom rfl rfl rfl (by decide +kernel) ⟨Nat.le_of_ble_eq_true rfl, Nat.le_of_ble_eq_true rfl⟩) (xw_preV hB hP hD (ci := 8) rfl xM_c0) rfl rfl hl.1 rfl (lv_room (Nat.le_of_ble_eq_true rfl)) dX8_isCrossing_15 ⟨Nat.le_of_ble_eq_true rfl, Nat.le_of_ble_eq_true rfl⟩) (fun r10 h => ?_)
  refine lv_istore (lv' := [(5, .int r10), (4, .int r9), (3, .int r8), (0, .ref (a 0)), (1, .int x1), (2, .int x2)]) hx hb dX8_isCrossing_18 hl (by decide) rfl (fun ls hl => ?_)
  refine lv_aload_n hx hb dX8_isCrossing_20 rfl (lv_at hl 3 rfl) ?_
  refine lv_iload_n hx hb dX8_isCrossing_21 rfl (lv_at hl 5 rfl) ?_
  refine xw_ri (va_runV (rm := { frames := 1, cells := 0, slots := 0, locals := 23 }) (As := [.int x2]) (rest := []) ⟨hx, hb, hml, hown, hts⟩ (c_X8_wantedTo l D cy a x2 I F G _ h A) (cwV 1 hts gX8_isCrossing_X8_wantedTo rfl rfl rfl (by decide +kernel) ⟨Nat.le_of_ble_eq_true rfl, Nat.le_of_ble_eq_true rfl⟩) (xw_preV hB hP hD (ci := 8) rfl xM_c0) rfl rfl hl.1 rfl (lv_room (Nat.le_of_ble_eq_true rfl)) dX8_isCrossing_22 ⟨Nat.le_of_ble_eq_true rfl, Nat.le_of_ble_eq_true rfl⟩) (fun r11 h => ?_)
  refine lv_istore (lv' := [(6, .int r11), (5, .int r10), (4, .int r9), (3, .int r8), (0, .ref (a 0)), (1, .int x1), (2, .int x2)]) hx hb dX8_isCrossing_25 hl (by decide) rfl (fun ls hl => ?_)
  refine lv_iload_n hx hb dX8_isCrossing_27 rfl (lv_at hl 3 rfl) ?_
  refine lv_iload hx hb dX8_isCrossing_28 (lv_at hl 1 rfl) ?_
  refine lv_icmp_lt (tgt := 40) hx hb dX8_isCrossing_30 (by decide) (fun c12 => ?_) (fun c12 => ?_)
  · have h := h.1 c12
    exact (hWW _ _ _).mp (el40 _ _ _ _ h ls (lv_sub hl [3, 2, 1, 0] rfl))
  · have h := h.2 c12
    refine lv_iload hx hb dX8_isCrossing_33 (lv_at hl 2 rfl) ?_
    refine lv_iload hx hb dX8_isCrossing_35 (lv_at hl 0 rfl) ?_
    refine lv_icmp_le (tgt := 53) hx hb dX8_isCrossing_37 (by decide) (fun c13 => ?_) (fun c13 => ?_)
    · have h := h.1 c13
      refine lv_iconst (v := 1) hx hb dX8_isCrossing_53 (by decide) ?_
      refine lv_goto (tgt := 58) hx hb dX8_isCrossing_54 (by decide) ?_
      exact (hWW _ _ _).mp (el58 _ _ _ _ _ h ls (lv_sub hl [3, 2, 1, 0] rfl))
    · have h := h.2 c13
      exact (hWW _ _ _).mp (el40 _ _ _ _ h ls (lv_sub hl [3, 2, 1, 0] rfl))

theorem mX8_total_1 : Cond.fieldLink RX8 135 "TagCarrierModel" "whole" "J" ∈ wsX8_total := List.mem_of_getElem? (i := 1) rfl
theorem mX8_total_inX8 : ∀ w ∈ u_ws RX8 TX8 22, w ∈ wsX8_total := by decide +kernel
theorem mX8_total_2 : Cond.fieldLink RX8 144 "TagCarrierModel" "moved" "I" ∈ wsX8_total := List.mem_of_getElem? (i := 2) rfl
theorem mX8_total_3 : Cond.fieldLink RX8 72 "TagCarrierModel" "marks" "I" ∈ wsX8_total := List.mem_of_getElem? (i := 3) rfl
theorem mX8_total_4 : Cond.fieldLink RX8 22 "TagCarrierModel" "order" "[I" ∈ wsX8_total := List.mem_of_getElem? (i := 4) rfl
theorem mX8_total_5 : Cond.fieldLink RX8 69 "TagCarrierModel" "words" "I" ∈ wsX8_total := List.mem_of_getElem? (i := 5) rfl
theorem mX8_total_6 : Cond.fieldLink RX8 25 "TagCarrierModel" "links" "[I" ∈ wsX8_total := List.mem_of_getElem? (i := 6) rfl
theorem mX8_total_7 : Cond.fieldLink RX8 16 "TagCarrierModel" "holds" "[I" ∈ wsX8_total := List.mem_of_getElem? (i := 7) rfl
set_option maxHeartbeats 4000000 in
set_option maxRecDepth 100000 in
theorem c_X8_total (l : Launch) (D : va_G) (cy : Nat → ClassId) (a : Nat → Nat) (x1 : Int32) (I : xw_I) (F : xw_F) (G : xw_G) (post : Int32 → xw_I → xw_F → xw_G → Prop) (h : sm_X8_total x1 I F G post) : xw_Wi l yX8_total wsX8_total ({ frames := 6, cells := 0, slots := 0, locals := 151 }) D cy [.ref (a 0), .int x1] (xM_w cy a I F G) (xM_w cy a) post := by
  intro A
  refine Met.ofW (cc := cX8_total) (maxL := 5) (ret := (some .int)) (by decide) rfl ?_
  intro p e s m args below meth c s₁ B hml hv
  obtain ⟨rfl, hP, hB, hD⟩ := hv
  have hP : va_P D vwCl (xM_w cy a I F G) s.heap := hP
  have hx := B.exec
  have hb := B.bytes
  have hr := B.returns
  have hts := atoms_spec (ws := wsX8_total) B.pre
  have hown : s.vm.findClass RX8 = some m.cls := findClass_of_methodNamed B.named
  have hlocks := B.notSynchronized
  have hS : va_S A s.heap s.heap [] := va_S.rf
  refine xw_go (fun WW hWW => ?_)
  have hl := lv_entry ([.ref (a 0), .int x1]) (n := 5) (Nat.le_of_ble_eq_true rfl)
  rw [lg_entry_eq]
  generalize (lg_sl ([.ref (a 0), .int x1]) ++ List.replicate (5 - (lg_sl ([.ref (a 0), .int x1])).length) Slot.unset).toArray = ls at hl ⊢
  have hl : lv_has ls 5 [(0, .ref (a 0)), (1, .int x1)] := hl
  obtain ⟨k85, mk85, el85⟩ : ∃ K : Int32 → Int32 → xw_I → xw_F → xw_G → Prop, (∀ (y2 : Int32) (y3 : Int32) (I : xw_I) (F : xw_F) (G : xw_G), (∀ (H : Heap) (locs : List Loc) (ls : Array Slot), va_P D vwCl (xM_w cy a I F G) H → va_D A (xM_w cy a I F G) → va_S A s.heap H locs → lv_has ls 5 [(0, .ref (a 0)), (2, .int y2), (3, .int y3)] → WW H locs (F0 m 85 ls [])) → K y2 y3 I F G) ∧ (∀ (y2 : Int32) (y3 : Int32) (I : xw_I) (F : xw_F) (G : xw_G), K y2 y3 I F G → (∀ (H : Heap) (locs : List Loc) (ls : Array Slot), va_P D vwCl (xM_w cy a I F G) H → va_D A (xM_w cy a I F G) → va_S A s.heap H locs → lv_has ls 5 [(0, .ref (a 0)), (2, .int y2), (3, .int y3)] → WW H locs (F0 m 85 ls []))) := ⟨fun (y2 : Int32) (y3 : Int32) (I : xw_I) (F : xw_F) (G : xw_G) => (∀ (H : Heap) (locs : List Loc) (ls : Array Slot), va_P D vwCl (xM_w cy a I F G) H → va_D A (xM_w cy a I F G) → va_S A s.heap H locs → lv_has ls 5 [(0, .ref (a 0)), (2, .int y2), (3, .int y3)] → WW H locs (F0 m 85 ls [])), fun _ _ _ _ _ h => h, fun _ _ _ _ _ h => h⟩
  obtain ⟨k126, mk126, el126⟩ : ∃ K : Int32 → Int32 → xw_I → xw_F → xw_G → Prop, (∀ (y2 : Int32) (y3 : Int32) (I : xw_I) (F : xw_F) (G : xw_G), (∀ (H : Heap) (locs : List Loc) (ls : Array Slot), va_P D vwCl (xM_w cy a I F G) H → va_D A (xM_w cy a I F G) → va_S A s.heap H locs → lv_has ls 5 [(0, .ref (a 0)), (2, .int y2), (3, .int y3)] → WW H locs (F0 m 126 ls [])) → K y2 y3 I F G) ∧ (∀ (y2 : Int32) (y3 : Int32) (I : xw_I) (F : xw_F) (G : xw_G), K y2 y3 I F G → (∀ (H : Heap) (locs : List Loc) (ls : Array Slot), va_P D vwCl (xM_w cy a I F G) H → va_D A (xM_w cy a I F G) → va_S A s.heap H locs → lv_has ls 5 [(0, .ref (a 0)), (2, .int y2), (3, .int y3)] → WW H locs (F0 m 126 ls []))) := ⟨fun (y2 : Int32) (y3 : Int32) (I : xw_I) (F : xw_F) (G : xw_G) => (∀ (H : Heap) (locs : List Loc) (ls : Array Slot), va_P D vwCl (xM_w cy a I F G) H → va_D A (xM_w cy a I F G) → va_S A s.heap H locs → lv_has ls 5 [(0, .ref (a 0)), (2, .int y2), (3, .int y3)] → WW H locs (F0 m 126 ls [])), fun _ _ _ _ _ h => h, fun _ _ _ _ _ h => h⟩
  obtain ⟨k155, mk155, el155⟩ : ∃ K : Int32 → Int32 → xw_I → xw_F → xw_G → Prop, (∀ (y2 : Int32) (y3 : Int32) (I : xw_I) (F : xw_F) (G : xw_G), (∀ (H : Heap) (locs : List Loc) (ls : Array Slot), va_P D vwCl (xM_w cy a I F G) H → va_D A (xM_w cy a I F G) → va_S A s.heap H locs → lv_has ls 5 [(0, .ref (a 0)), (2, .int y2), (3, .int y3)] → WW H locs (F0 m 155 ls [])) → K y2 y3 I F G) ∧ (∀ (y2 : Int32) (y3 : Int32) (I : xw_I) (F : xw_F) (G : xw_G), K y2 y3 I F G → (∀ (H : Heap) (locs : List Loc) (ls : Array Slot), va_P D vwCl (xM_w cy a I F G) H → va_D A (xM_w cy a I F G) → va_S A s.heap H locs → lv_has ls 5 [(0, .ref (a 0)), (2, .int y2), (3, .int y3)] → WW H locs (F0 m 155 ls []))) := ⟨fun (y2 : Int32) (y3 : Int32) (I : xw_I) (F : xw_F) (G : xw_G) => (∀ (H : Heap) (locs : List Loc) (ls : Array Slot), va_P D vwCl (xM_w cy a I F G) H → va_D A (xM_w cy a I F G) → va_S A s.heap H locs → lv_has ls 5 [(0, .ref (a 0)), (2, .int y2), (3, .int y3)] → WW H locs (F0 m 155 ls [])), fun _ _ _ _ _ h => h, fun _ _ _ _ _ h => h⟩
  obtain ⟨k185, mk185, el185⟩ : ∃ K : Int32 → Int32 → xw_I → xw_F → xw_G → Prop, (∀ (y2 : Int32) (y3 : Int32) (I : xw_I) (F : xw_F) (G : xw_G), (∀ (H : Heap) (locs : List Loc) (ls : Array Slot), va_P D vwCl (xM_w cy a I F G) H → va_D A (xM_w cy a I F G) → va_S A s.heap H locs → lv_has ls 5 [(0, .ref (a 0)), (2, .int y2), (3, .int y3)] → WW H locs (F0 m 185 ls [])) → K y2 y3 I F G) ∧ (∀ (y2 : Int32) (y3 : Int32) (I : xw_I) (F : xw_F) (G : xw_G), K y2 y3 I F G → (∀ (H : Heap) (locs : List Loc) (ls : Array Slot), va_P D vwCl (xM_w cy a I F G) H → va_D A (xM_w cy a I F G) → va_S A s.heap H locs → lv_has ls 5 [(0, .ref (a 0)), (2, .int y2), (3, .int y3)] → WW H locs (F0 m 185 ls []))) := ⟨fun (y2 : Int32) (y3 : Int32) (I : xw_I) (F : xw_F) (G : xw_G) => (∀ (H : Heap) (locs : List Loc) (ls : Array Slot), va_P D vwCl (xM_w cy a I F G) H → va_D A (xM_w cy a I F G) → va_S A s.heap H locs → lv_has ls 5 [(0, .ref (a 0)), (2, .int y2), (3, .int y3)] → WW H locs (F0 m 185 ls [])), fun _ _ _ _ _ h => h, fun _ _ _ _ _ h => h⟩
  obtain ⟨k193, mk193, el193⟩ : ∃ K : Int32 → Int32 → Int32 → xw_I → xw_F → xw_G → Prop, (∀ (y2 : Int32) (y3 : Int32) (y4 : Int32) (I : xw_I) (F : xw_F) (G : xw_G), (∀ (H : Heap) (locs : List Loc) (ls : Array Slot), va_P D vwCl (xM_w cy a I F G) H → va_D A (xM_w cy a I F G) → va_S A s.heap H locs → lv_has ls 5 [(0, .ref (a 0)), (2, .int y2), (3, .int y3), (4, .int y4)] → WW H locs (F0 m 193 ls [])) → K y2 y3 y4 I F G) ∧ (∀ (y2 : Int32) (y3 : Int32) (y4 : Int32) (I : xw_I) (F : xw_F) (G : xw_G), K y2 y3 y4 I F G → (∀ (H : Heap) (locs : List Loc) (ls : Array Slot), va_P D vwCl (xM_w cy a I F G) H → va_D A (xM_w cy a I F G) → va_S A s.heap H locs → lv_has ls 5 [(0, .ref (a 0)), (2, .int y2), (3, .int y3), (4, .int y4)] → WW H locs (F0 m 193 ls []))) := ⟨fun (y2 : Int32) (y3 : Int32) (y4 : Int32) (I : xw_I) (F : xw_F) (G : xw_G) => (∀ (H : Heap) (locs : List Loc) (ls : Array Slot), va_P D vwCl (xM_w cy a I F G) H → va_D A (xM_w cy a I F G) → va_S A s.heap H locs → lv_has ls 5 [(0, .ref (a 0)), (2, .int y2), (3, .int y3), (4, .int y4)] → WW H locs (F0 m 193 ls [])), fun _ _ _ _ _ _ h => h, fun _ _ _ _ _ _ h => h⟩
  obtain ⟨k250, mk250, el250⟩ : ∃ K : Int32 → Int32 → xw_I → xw_F → xw_G → Prop, (∀ (y2 : Int32) (y3 : Int32) (I : xw_I) (F : xw_F) (G : xw_G), (∀ (H : Heap) (locs : List Loc) (ls : Array Slot), va_P D vwCl (xM_w cy a I F G) H → va_D A (xM_w cy a I F G) → va_S A s.heap H locs → lv_has ls 5 [(0, .ref (a 0)), (2, .int y2), (3, .int y3)] → WW H locs (F0 m 250 ls [])) → K y2 y3 I F G) ∧ (∀ (y2 : Int32) (y3 : Int32) (I : xw_I) (F : xw_F) (G : xw_G), K y2 y3 I F G → (∀ (H : Heap) (locs : List Loc) (ls : Array Slot), va_P D vwCl (xM_w cy a I F G) H → va_D A (xM_w cy a I F G) → va_S A s.heap H locs → lv_has ls 5 [(0, .ref (a 0)), (2, .int y2), (3, .int y3)] → WW H locs (F0 m 250 ls []))) := ⟨fun (y2 : Int32) (y3 : Int32) (I : xw_I) (F : xw_F) (G : xw_G) => (∀ (H : Heap) (locs : List Loc) (ls : Array Slot), va_P D vwCl (xM_w cy a I F G) H → va_D A (xM_w cy a I F G) → va_S A s.heap H locs → lv_has ls 5 [(0, .ref (a 0)), (2, .int y2), (3, .int y3)] → WW H locs (F0 m 250 ls [])), fun _ _ _ _ _ h => h, fun _ _ _ _ _ h => h⟩
  have rl85 : ∀ (y2 : Int32) (y3 : Int32) (I : xw_I) (F : xw_F) (G : xw_G), (bd_X8_total_85 x1 post k85 k126 k155 k185 k193 k250 y2 y3 I F G) → k85 y2 y3 I F G := by
    intro y2 y3 I F G h
    refine mk85 _ _ _ _ _ ?_
    intro H locs ls hP hD hS hl
    refine (hWW _ _ _).mpr ?_
    unfold bd_X8_total_85 at h
    refine lv_iload_n hx hb dX8_total_85 rfl (lv_at hl 2 rfl) ?_
    refine lv_iconst (v := 5) hx hb dX8_total_86 (by decide) ?_
    refine lv_icmp_ge (tgt := 122) hx hb dX8_total_87 (by decide) (fun c46 => ?_) (fun c46 => ?_)
    · have h := h.1 c46
      refine lv_iload_n hx hb dX8_total_122 rfl (lv_at hl 1 rfl) ?_
      exact xw_wreti hx hb hr hlocks hP hD hS h dX8_total_123
    · have h := h.2 c46
      refine lv_iload_n hx hb dX8_total_90 rfl (lv_at hl 1 rfl) ?_
      refine lv_aload_n hx hb dX8_total_91 rfl (lv_at hl 0 rfl) ?_
      refine lv_iload_n hx hb dX8_total_92 rfl (lv_at hl 2 rfl) ?_
      refine xw_ri (va_runV (rm := { frames := 1, cells := 0, slots := 0, locals := 22 }) (As := [.int y3]) (rest := [.int y2]) ⟨hx, hb, hml, hown, hts⟩ (c_X8_isThere l D cy a y3 I F G _ h A) (cwV 1 hts gX8_total_X8_isThere rfl rfl rfl (by decide +kernel) ⟨Nat.le_of_ble_eq_true rfl, Nat.le_of_ble_eq_true rfl⟩) (xw_preV hB hP hD (ci := 8) rfl xM_c0) rfl rfl hl.1 rfl (lv_room (Nat.le_of_ble_eq_true rfl)) dX8_total_93 ⟨Nat.le_of_ble_eq_true rfl, Nat.le_of_ble_eq_true rfl⟩) (fun r47 h => ?_)
      refine lv_if_eq (tgt := 113) hx hb dX8_total_96 (by decide) (fun c48 => ?_) (fun c48 => ?_)
      · have h := h.1 c48
        refine lv_iconst (v := 0) hx hb dX8_total_113 (by decide) ?_
        refine lv_ior hx hb dX8_total_114 ?_
        refine lv_topi (fun v49 ev49 => ?_)
        have h := h v49 ev49
        refine lv_istore_n (lv' := [(2, .int v49), (0, .ref (a 0)), (3, .int y3)]) hx hb dX8_total_115 rfl hl (by decide) rfl (fun ls hl => ?_)
        obtain ⟨v50, ev50⟩ : ∃ y : Int32, y = y3 + 1 := ⟨_, rfl⟩
        have h := h v50 ev50
        refine lv_iinc (v := v50) (lv' := [(3, .int v50), (2, .int v49), (0, .ref (a 0))]) hx hb dX8_total_116 hl (k := 2) rfl (by rw [ev50]; rfl) (by decide) rfl (fun ls hl => ?_)
        refine lv_goto (tgt := 85) hx hb dX8_total_119 (by decide) ?_
        exact (hWW _ _ _).mp (el85 _ _ _ _ _ h _ _ ls hP hD hS (lv_sub hl [2, 1, 0] rfl))
      · have h := h.2 c48
        refine lv_aload_n hx hb dX8_total_99 rfl (lv_at hl 0 rfl) ?_
        refine lv_iload_n hx hb dX8_total_100 rfl (lv_at hl 2 rfl) ?_
        refine xw_ri (va_runV (rm := { frames := 0, cells := 0, slots := 0, locals := 0 }) (As := [.int y3]) (rest := [.int y2]) ⟨hx, hb, hml, hown, hts⟩ (c_X8_linksOf l D cy a y3 I F G _ h A) (cwV 1 hts gX8_total_X8_linksOf rfl rfl rfl (by decide +kernel) ⟨Nat.le_of_ble_eq_true rfl, Nat.le_of_ble_eq_true rfl⟩) (xw_preV hB hP hD (ci := 8) rfl xM_c0) rfl rfl hl.1 rfl (lv_room (Nat.le_of_ble_eq_true rfl)) dX8_total_101 ⟨Nat.le_of_ble_eq_true rfl, Nat.le_of_ble_eq_true rfl⟩) (fun r51 h => ?_)
        refine lv_if_ne (tgt := 113) hx hb dX8_total_104 (by decide) (fun c52 => ?_) (fun c52 => ?_)
        · have h := h.1 c52
          refine lv_iconst (v := 0) hx hb dX8_total_113 (by decide) ?_
          refine lv_ior hx hb dX8_total_114 ?_
          refine lv_topi (fun v53 ev53 => ?_)
          have h := h v53 ev53
          refine lv_istore_n (lv' := [(2, .int v53), (0, .ref (a 0)), (3, .int y3)]) hx hb dX8_total_115 rfl hl (by decide) rfl (fun ls hl => ?_)
          obtain ⟨v54, ev54⟩ : ∃ y : Int32, y = y3 + 1 := ⟨_, rfl⟩
          have h := h v54 ev54
          refine lv_iinc (v := v54) (lv' := [(3, .int v54), (2, .int v53), (0, .ref (a 0))]) hx hb dX8_total_116 hl (k := 2) rfl (by rw [ev54]; rfl) (by decide) rfl (fun ls hl => ?_)
          refine lv_goto (tgt := 85) hx hb dX8_total_119 (by decide) ?_
          exact (hWW _ _ _).mp (el85 _ _ _ _ _ h _ _ ls hP hD hS (lv_sub hl [2, 1, 0] rfl))
        · have h := h.2 c52
          refine lv_iconst (v := 1) hx hb dX8_total_107 (by decide) ?_
          refine lv_iload_n hx hb dX8_total_108 rfl (lv_at hl 2 rfl) ?_
          refine lv_ishl hx hb dX8_total_109 ?_
          refine lv_goto (tgt := 114) hx hb dX8_total_110 (by decide) ?_
          refine lv_ior hx hb dX8_total_114 ?_
          refine lv_topi (fun v55 ev55 => ?_)
          have h := h v55 ev55
          refine lv_istore_n (lv' := [(2, .int v55), (0, .ref (a 0)), (3, .int y3)]) hx hb dX8_total_115 rfl hl (by decide) rfl (fun ls hl => ?_)
          obtain ⟨v56, ev56⟩ : ∃ y : Int32, y = y3 + 1 := ⟨_, rfl⟩
          have h := h v56 ev56
          refine lv_iinc (v := v56) (lv' := [(3, .int v56), (2, .int v55), (0, .ref (a 0))]) hx hb dX8_total_116 hl (k := 2) rfl (by rw [ev56]; rfl) (by decide) rfl (fun ls hl => ?_)
          refine lv_goto (tgt := 85) hx hb dX8_total_119 (by decide) ?_
          exact (hWW _ _ _).mp (el85 _ _ _ _ _ h _ _ ls hP hD hS (lv_sub hl [2, 1, 0] rfl))
  have rl126 : ∀ (y2 : Int32) (y3 : Int32) (I : xw_I) (F : xw_F) (G : xw_G), (bd_X8_total_126 x1 post k85 k126 k155 k185 k193 k250 y2 y3 I F G) → k126 y2 y3 I F G := by
    intro y2 y3 I F G h
    refine mk126 _ _ _ _ _ ?_
    intro H locs ls hP hD hS hl
    refine (hWW _ _ _).mpr ?_
    unfold bd_X8_total_126 at h
    refine lv_iload_n hx hb dX8_total_126 rfl (lv_at hl 2 rfl) ?_
    refine lv_aload_n hx hb dX8_total_127 rfl (lv_at hl 0 rfl) ?_
    refine va_get (D := D) (ci := 8) (v := .int (I 1)) (C := RX8) (T := TX8) (N := 22) hx hb hts mX8_total_inX8 hown hB.1 hP 0 xM_c0 rfl 6 (by decide) (hts _ mX8_total_3) (fun _ h9 => h9) rfl dX8_total_128 ?_
    refine lv_icmp_ge (tgt := 151) hx hb dX8_total_131 (by decide) (fun c57 => ?_) (fun c57 => ?_)
    · have h := h.1 c57
      refine lv_iload_n hx hb dX8_total_151 rfl (lv_at hl 1 rfl) ?_
      exact xw_wreti hx hb hr hlocks hP hD hS h dX8_total_152
    · have h := h.2 c57
      refine lv_iload_n hx hb dX8_total_134 rfl (lv_at hl 1 rfl) ?_
      refine lv_iconst (v := 1) hx hb dX8_total_135 (by decide) ?_
      refine lv_aload_n hx hb dX8_total_136 rfl (lv_at hl 0 rfl) ?_
      refine va_get (D := D) (ci := 8) (v := .ref (a 5)) (C := RX8) (T := TX8) (N := 22) hx hb hts mX8_total_inX8 hown hB.1 hP 0 xM_c0 rfl 5 (by decide) (hts _ mX8_total_4) (fun _ h9 => h9) rfl dX8_total_137 ?_
      refine lv_iload_n hx hb dX8_total_140 rfl (lv_at hl 2 rfl) ?_
      refine xw_iald hx hb hB hP 5 xM_c5 h.1 dX8_total_141 (fun v58 ev58 => ?_)
      have h := h.2 v58 ev58
      refine lv_ishl hx hb dX8_total_142 ?_
      refine lv_ior hx hb dX8_total_143 ?_
      refine lv_topi (fun v59 ev59 => ?_)
      have h := h v59 ev59
      refine lv_istore_n (lv' := [(2, .int v59), (0, .ref (a 0)), (3, .int y3)]) hx hb dX8_total_144 rfl hl (by decide) rfl (fun ls hl => ?_)
      obtain ⟨v60, ev60⟩ : ∃ y : Int32, y = y3 + 1 := ⟨_, rfl⟩
      have h := h v60 ev60
      refine lv_iinc (v := v60) (lv' := [(3, .int v60), (2, .int v59), (0, .ref (a 0))]) hx hb dX8_total_145 hl (k := 2) rfl (by rw [ev60]; rfl) (by decide) rfl (fun ls hl => ?_)
      refine lv_goto (tgt := 126) hx hb dX8_total_148 (by decide) ?_
      exact (hWW _ _ _).mp (el126 _ _ _ _ _ h _ _ ls hP hD hS (lv_sub hl [2, 1, 0] rfl))
  have rl155 : ∀ (y2 : Int32) (y3 : Int32) (I : xw_I) (F : xw_F) (G : xw_G), (bd_X8_total_155 x1 post k85 k126 k155 k185 k193 k250 y2 y3 I F G) → k155 y2 y3 I F G := by
    intro y2 y3 I F G h
    refine mk155 _ _ _ _ _ ?_
    intro H locs ls hP hD hS hl
    refine (hWW _ _ _).mpr ?_
    unfold bd_X8_total_155 at h
    refine lv_iload_n hx hb dX8_total_155 rfl (lv_at hl 2 rfl) ?_
    refine lv_aload_n hx hb dX8_total_156 rfl (lv_at hl 0 rfl) ?_
    refine va_get (D := D) (ci := 8) (v := .int (I 0)) (C := RX8) (T := TX8) (N := 22) hx hb hts mX8_total_inX8 hown hB.1 hP 0 xM_c0 rfl 0 (by decide) (hts _ mX8_total_5) (fun _ h9 => h9) rfl dX8_total_157 ?_
    refine lv_icmp_ge (tgt := 181) hx hb dX8_total_160 (by decide) (fun c61 => ?_) (fun c61 => ?_)
    · have h := h.1 c61
      refine lv_iload_n hx hb dX8_total_181 rfl (lv_at hl 1 rfl) ?_
      exact xw_wreti hx hb hr hlocks hP hD hS h dX8_total_182
    · have h := h.2 c61
      refine lv_iload_n hx hb dX8_total_163 rfl (lv_at hl 1 rfl) ?_
      refine lv_aload_n hx hb dX8_total_164 rfl (lv_at hl 0 rfl) ?_
      refine va_get (D := D) (ci := 8) (v := .ref (a 6)) (C := RX8) (T := TX8) (N := 22) hx hb hts mX8_total_inX8 hown hB.1 hP 0 xM_c0 rfl 8 (by decide) (hts _ mX8_total_6) (fun _ h9 => h9) rfl dX8_total_165 ?_
      refine lv_iload_n hx hb dX8_total_168 rfl (lv_at hl 2 rfl) ?_
      refine xw_iald hx hb hB hP 6 xM_c6 h.1 dX8_total_169 (fun v62 ev62 => ?_)
      have h := h.2 v62 ev62
      refine xw_ri (va_runS (rm := { frames := 0, cells := 0, slots := 0, locals := 0 }) (As := [.int v62]) (rest := [.int y2]) ⟨hx, hb, hml, hown, hts⟩ (c_X8_bits l D cy v62 _ h (fun _ => True)) (va_cwS 1 hts gX8_total_X8_bits rfl rfl rfl (by decide +kernel) ⟨Nat.le_of_ble_eq_true rfl, Nat.le_of_ble_eq_true rfl⟩) (xw_preS hB xw_P0 (xw_D0 (A := fun _ => True))) rfl rfl hl.1 rfl (lv_room (Nat.le_of_ble_eq_true rfl)) dX8_total_170 ⟨Nat.le_of_ble_eq_true rfl, Nat.le_of_ble_eq_true rfl⟩) (fun r63 h => ?_)
      refine lv_iadd hx hb dX8_total_173 ?_
      refine lv_topi (fun v64 ev64 => ?_)
      have h := h v64 ev64
      refine lv_istore_n (lv' := [(2, .int v64), (0, .ref (a 0)), (3, .int y3)]) hx hb dX8_total_174 rfl hl (by decide) rfl (fun ls hl => ?_)
      obtain ⟨v65, ev65⟩ : ∃ y : Int32, y = y3 + 1 := ⟨_, rfl⟩
      have h := h v65 ev65
      refine lv_iinc (v := v65) (lv' := [(3, .int v65), (2, .int v64), (0, .ref (a 0))]) hx hb dX8_total_175 hl (k := 2) rfl (by rw [ev65]; rfl) (by decide) rfl (fun ls hl => ?_)
      refine lv_goto (tgt := 155) hx hb dX8_total_178 (by decide) ?_
      exact (hWW _ _ _).mp (el155 _ _ _ _ _ h _ _ ls hP hD hS (lv_sub hl [2, 1, 0] rfl))
  have rl185 : ∀ (y2 : Int32) (y3 : Int32) (I : xw_I) (F : xw_F) (G : xw_G), (bd_X8_total_185 x1 post k85 k126 k155 k185 k193 k250 y2 y3 I F G) → k185 y2 y3 I F G := by
    intro y2 y3 I F G h
    refine mk185 _ _ _ _ _ ?_
    intro H locs ls hP hD hS hl
    refine (hWW _ _ _).mpr ?_
    unfold bd_X8_total_185 at h
    refine lv_iload_n hx hb dX8_total_185 rfl (lv_at hl 2 rfl) ?_
    refine lv_iconst (v := 5) hx hb dX8_total_186 (by decide) ?_
    refine lv_icmp_ge (tgt := 246) hx hb dX8_total_187 (by decide) (fun c66 => ?_) (fun c66 => ?_)
    · have h := h.1 c66
      refine lv_iload_n hx hb dX8_total_246 rfl (lv_at hl 1 rfl) ?_
      exact xw_wreti hx hb hr hlocks hP hD hS h dX8_total_247
    · have h := h.2 c66
      refine lv_iconst (v := 0) hx hb dX8_total_190 (by decide) ?_
      refine lv_istore (lv' := [(4, .int (0 : Int32)), (0, .ref (a 0)), (2, .int y2), (3, .int y3)]) hx hb dX8_total_191 hl (by decide) rfl (fun ls hl => ?_)
      exact (hWW _ _ _).mp (el193 _ _ _ _ _ _ h _ _ ls hP hD hS (lv_sub hl [1, 2, 3, 0] rfl))
  have rl193 : ∀ (y2 : Int32) (y3 : Int32) (y4 : Int32) (I : xw_I) (F : xw_F) (G : xw_G), (bd_X8_total_193 x1 post k85 k126 k155 k185 k193 k250 y2 y3 y4 I F G) → k193 y2 y3 y4 I F G := by
    intro y2 y3 y4 I F G h
    refine mk193 _ _ _ _ _ _ ?_
    intro H locs ls hP hD hS hl
    refine (hWW _ _ _).mpr ?_
    unfold bd_X8_total_193 at h
    refine lv_iload hx hb dX8_total_193 (lv_at hl 3 rfl) ?_
    refine lv_iload_n hx hb dX8_total_195 rfl (lv_at hl 2 rfl) ?_
    refine lv_icmp_ge (tgt := 240) hx hb dX8_total_196 (by decide) (fun c67 => ?_) (fun c67 => ?_)
    · have h := h.1 c67
      obtain ⟨v68, ev68⟩ : ∃ y : Int32, y = y3 + 1 := ⟨_, rfl⟩
      have h := h v68 ev68
      refine lv_iinc (v := v68) (lv' := [(3, .int v68), (0, .ref (a 0)), (2, .int y2), (4, .int y4)]) hx hb dX8_total_240 hl (k := 2) rfl (by rw [ev68]; rfl) (by decide) rfl (fun ls hl => ?_)
      refine lv_goto (tgt := 185) hx hb dX8_total_243 (by decide) ?_
      exact (hWW _ _ _).mp (el185 _ _ _ _ _ h _ _ ls hP hD hS (lv_sub hl [1, 2, 0] rfl))
    · have h := h.2 c67
      refine lv_iload_n hx hb dX8_total_199 rfl (lv_at hl 1 rfl) ?_
      refine lv_aload_n hx hb dX8_total_200 rfl (lv_at hl 0 rfl) ?_
      refine lv_iload_n hx hb dX8_total_201 rfl (lv_at hl 2 rfl) ?_
      refine xw_ri (va_runV (rm := { frames := 1, cells := 0, slots := 0, locals := 22 }) (As := [.int y3]) (rest := [.int y2]) ⟨hx, hb, hml, hown, hts⟩ (c_X8_isThere l D cy a y3 I F G _ h A) (cwV 1 hts gX8_total_X8_isThere rfl rfl rfl (by decide +kernel) ⟨Nat.le_of_ble_eq_true rfl, Nat.le_of_ble_eq_true rfl⟩) (xw_preV hB hP hD (ci := 8) rfl xM_c0) rfl rfl hl.1 rfl (lv_room (Nat.le_of_ble_eq_true rfl)) dX8_total_202 ⟨Nat.le_of_ble_eq_true rfl, Nat.le_of_ble_eq_true rfl⟩) (fun r69 h => ?_)
      refine lv_if_eq (tgt := 231) hx hb dX8_total_205 (by decide) (fun c70 => ?_) (fun c70 => ?_)
      · have h := h.1 c70
        refine lv_iconst (v := 0) hx hb dX8_total_231 (by decide) ?_
        refine lv_iadd hx hb dX8_total_232 ?_
        refine lv_topi (fun v71 ev71 => ?_)
        have h := h v71 ev71
        refine lv_istore_n (lv' := [(2, .int v71), (0, .ref (a 0)), (3, .int y3), (4, .int y4)]) hx hb dX8_total_233 rfl hl (by decide) rfl (fun ls hl => ?_)
        obtain ⟨v72, ev72⟩ : ∃ y : Int32, y = y4 + 1 := ⟨_, rfl⟩
        have h := h v72 ev72
        refine lv_iinc (v := v72) (lv' := [(4, .int v72), (2, .int v71), (0, .ref (a 0)), (3, .int y3)]) hx hb dX8_total_234 hl (k := 3) rfl (by rw [ev72]; rfl) (by decide) rfl (fun ls hl => ?_)
        refine lv_goto (tgt := 193) hx hb dX8_total_237 (by decide) ?_
        exact (hWW _ _ _).mp (el193 _ _ _ _ _ _ h _ _ ls hP hD hS (lv_sub hl [2, 1, 3, 0] rfl))
      · have h := h.2 c70
        refine lv_aload_n hx hb dX8_total_208 rfl (lv_at hl 0 rfl) ?_
        refine lv_iload hx hb dX8_total_209 (lv_at hl 3 rfl) ?_
        refine xw_ri (va_runV (rm := { frames := 1, cells := 0, slots := 0, locals := 22 }) (As := [.int y4]) (rest := [.int y2]) ⟨hx, hb, hml, hown, hts⟩ (c_X8_isThere l D cy a y4 I F G _ h A) (cwV 1 hts gX8_total_X8_isThere rfl rfl rfl (by decide +kernel) ⟨Nat.le_of_ble_eq_true rfl, Nat.le_of_ble_eq_true rfl⟩) (xw_preV hB hP hD (ci := 8) rfl xM_c0) rfl rfl hl.1 rfl (lv_room (Nat.le_of_ble_eq_true rfl)) dX8_total_211 ⟨Nat.le_of_ble_eq_true rfl, Nat.le_of_ble_eq_true rfl⟩) (fun r73 h => ?_)
        refine lv_if_eq (tgt := 231) hx hb dX8_total_214 (by decide) (fun c74 => ?_) (fun c74 => ?_)
        · have h := h.1 c74
          refine lv_iconst (v := 0) hx hb dX8_total_231 (by decide) ?_
          refine lv_iadd hx hb dX8_total_232 ?_
          refine lv_topi (fun v75 ev75 => ?_)
          have h := h v75 ev75
          refine lv_istore_n (lv' := [(2, .int v75), (0, .ref (a 0)), (3, .int y3), (4, .int y4)]) hx hb dX8_total_233 rfl hl (by decide) rfl (fun ls hl => ?_)
          obtain ⟨v76, ev76⟩ : ∃ y : Int32, y = y4 + 1 := ⟨_, rfl⟩
          have h := h v76 ev76
          refine lv_iinc (v := v76) (lv' := [(4, .int v76), (2, .int v75), (0, .ref (a 0)), (3, .int y3)]) hx hb dX8_total_234 hl (k := 3) rfl (by rw [ev76]; rfl) (by decide) rfl (fun ls hl => ?_)
          refine lv_goto (tgt := 193) hx hb dX8_total_237 (by decide) ?_
          exact (hWW _ _ _).mp (el193 _ _ _ _ _ _ h _ _ ls hP hD hS (lv_sub hl [2, 1, 3, 0] rfl))
        · have h := h.2 c74
          refine lv_aload_n hx hb dX8_total_217 rfl (lv_at hl 0 rfl) ?_
          refine lv_iload_n hx hb dX8_total_218 rfl (lv_at hl 2 rfl) ?_
          refine lv_iload hx hb dX8_total_219 (lv_at hl 3 rfl) ?_
          refine xw_ri (va_runV (rm := { frames := 2, cells := 0, slots := 0, locals := 46 }) (As := [.int y3, .int y4]) (rest := [.int y2]) ⟨hx, hb, hml, hown, hts⟩ (c_X8_isCrossing l D cy a y3 y4 I F G _ h A) (cwV 2 hts gX8_total_X8_isCrossing rfl rfl rfl (by decide +kernel) ⟨Nat.le_of_ble_eq_true rfl, Nat.le_of_ble_eq_true rfl⟩) (xw_preV hB hP hD (ci := 8) rfl xM_c0) rfl rfl hl.1 rfl (lv_room (Nat.le_of_ble_eq_true rfl)) dX8_total_221 ⟨Nat.le_of_ble_eq_true rfl, Nat.le_of_ble_eq_true rfl⟩) (fun r77 h => ?_)
          refine lv_if_eq (tgt := 231) hx hb dX8_total_224 (by decide) (fun c78 => ?_) (fun c78 => ?_)
          · have h := h.1 c78
            refine lv_iconst (v := 0) hx hb dX8_total_231 (by decide) ?_
            refine lv_iadd hx hb dX8_total_232 ?_
            refine lv_topi (fun v79 ev79 => ?_)
            have h := h v79 ev79
            refine lv_istore_n (lv' := [(2, .int v79), (0, .ref (a 0)), (3, .int y3), (4, .int y4)]) hx hb dX8_total_233 rfl hl (by decide) rfl (fun ls hl => ?_)
            obtain ⟨v80, ev80⟩ : ∃ y : Int32, y = y4 + 1 := ⟨_, rfl⟩
            have h := h v80 ev80
            refine lv_iinc (v := v80) (lv' := [(4, .int v80), (2, .int v79), (0, .ref (a 0)), (3, .int y3)]) hx hb dX8_total_234 hl (k := 3) rfl (by rw [ev80]; rfl) (by decide) rfl (fun ls hl => ?_)
            refine lv_goto (tgt := 193) hx hb dX8_total_237 (by decide) ?_
            exact (hWW _ _ _).mp (el193 _ _ _ _ _ _ h _ _ ls hP hD hS (lv_sub hl [2, 1, 3, 0] rfl))
          · have h := h.2 c78
            refine lv_iconst (v := 1) hx hb dX8_total_227 (by decide) ?_
            refine lv_goto (tgt := 232) hx hb dX8_total_228 (by decide) ?_
            refine lv_iadd hx hb dX8_total_232 ?_
            refine lv_topi (fun v81 ev81 => ?_)
            have h := h v81 ev81
            refine lv_istore_n (lv' := [(2, .int v81), (0, .ref (a 0)), (3, .int y3), (4, .int y4)]) hx hb dX8_total_233 rfl hl (by decide) rfl (fun ls hl => ?_)
            obtain ⟨v82, ev82⟩ : ∃ y : Int32, y = y4 + 1 := ⟨_, rfl⟩
            have h := h v82 ev82
            refine lv_iinc (v := v82) (lv' := [(4, .int v82), (2, .int v81), (0, .ref (a 0)), (3, .int y3)]) hx hb dX8_total_234 hl (k := 3) rfl (by rw [ev82]; rfl) (by decide) rfl (fun ls hl => ?_)
            refine lv_goto (tgt := 193) hx hb dX8_total_237 (by decide) ?_
            exact (hWW _ _ _).mp (el193 _ _ _ _ _ _ h _ _ ls hP hD hS (lv_sub hl [2, 1, 3, 0] rfl))
  have rl250 : ∀ (y2 : Int32) (y3 : Int32) (I : xw_I) (F : xw_F) (G : xw_G), (bd_X8_total_250 x1 post k85 k126 k155 k185 k193 k250 y2 y3 I F G) → k250 y2 y3 I F G := by
    intro y2 y3 I F G h
    refine mk250 _ _ _ _ _ ?_
    intro H locs ls hP hD hS hl
    refine (hWW _ _ _).mpr ?_
    unfold bd_X8_total_250 at h
    refine lv_iload_n hx hb dX8_total_250 rfl (lv_at hl 2 rfl) ?_
    refine lv_iconst (v := 5) hx hb dX8_total_251 (by decide) ?_
    refine lv_icmp_ge (tgt := 285) hx hb dX8_total_252 (by decide) (fun c83 => ?_) (fun c83 => ?_)
    · have h := h.1 c83
      refine lv_iload_n hx hb dX8_total_285 rfl (lv_at hl 1 rfl) ?_
      exact xw_wreti hx hb hr hlocks hP hD hS h dX8_total_286
    · have h := h.2 c83
      refine lv_iload_n hx hb dX8_total_255 rfl (lv_at hl 1 rfl) ?_
      refine lv_aload_n hx hb dX8_total_256 rfl (lv_at hl 0 rfl) ?_
      refine lv_iload_n hx hb dX8_total_257 rfl (lv_at hl 2 rfl) ?_
      refine xw_ri (va_runV (rm := { frames := 1, cells := 0, slots := 0, locals := 22 }) (As := [.int y3]) (rest := [.int y2]) ⟨hx, hb, hml, hown, hts⟩ (c_X8_isThere l D cy a y3 I F G _ h A) (cwV 1 hts gX8_total_X8_isThere rfl rfl rfl (by decide +kernel) ⟨Nat.le_of_ble_eq_true rfl, Nat.le_of_ble_eq_true rfl⟩) (xw_preV hB hP hD (ci := 8) rfl xM_c0) rfl rfl hl.1 rfl (lv_room (Nat.le_of_ble_eq_true rfl)) dX8_total_258 ⟨Nat.le_of_ble_eq_true rfl, Nat.le_of_ble_eq_true rfl⟩) (fun r84 h => ?_)
      refine lv_if_eq (tgt := 276) hx hb dX8_total_261 (by decide) (fun c85 => ?_) (fun c85 => ?_)
      · have h := h.1 c85
        refine lv_iconst (v := 0) hx hb dX8_total_276 (by decide) ?_
        refine lv_iadd hx hb dX8_total_277 ?_
        refine lv_topi (fun v86 ev86 => ?_)
        have h := h v86 ev86
        refine lv_istore_n (lv' := [(2, .int v86), (0, .ref (a 0)), (3, .int y3)]) hx hb dX8_total_278 rfl hl (by decide) rfl (fun ls hl => ?_)
        obtain ⟨v87, ev87⟩ : ∃ y : Int32, y = y3 + 1 := ⟨_, rfl⟩
        have h := h v87 ev87
        refine lv_iinc (v := v87) (lv' := [(3, .int v87), (2, .int v86), (0, .ref (a 0))]) hx hb dX8_total_279 hl (k := 2) rfl (by rw [ev87]; rfl) (by decide) rfl (fun ls hl => ?_)
        refine lv_goto (tgt := 250) hx hb dX8_total_282 (by decide) ?_
        exact (hWW _ _ _).mp (el250 _ _ _ _ _ h _ _ ls hP hD hS (lv_sub hl [2, 1, 0] rfl))
      · have h := h.2 c85
        refine lv_aload_n hx hb dX8_total_264 rfl (lv_at hl 0 rfl) ?_
        refine va_get (D := D) (ci := 8) (v := .ref (a 3)) (C := RX8) (T := TX8) (N := 22) hx hb hts mX8_total_inX8 hown hB.1 hP 0 xM_c0 rfl 3 (by decide) (hts _ mX8_total_7) (fun _ h9 => h9) rfl dX8_total_265 ?_
        refine lv_iload_n hx hb dX8_total_268 rfl (lv_at hl 2 rfl) ?_
        refine xw_iald hx hb hB hP 3 xM_c3 h.1 dX8_total_269 (fun v88 ev88 => ?_)
        have h := h.2 v88 ev88
        refine xw_ri (va_runS (rm := { frames := 0, cells := 0, slots := 0, locals := 0 }) (As := [.int v88]) (rest := [.int y2]) ⟨hx, hb, hml, hown, hts⟩ (c_X8_bits l D cy v88 _ h (fun _ => True)) (va_cwS 1 hts gX8_total_X8_bits rfl rfl rfl (by decide +kernel) ⟨Nat.le_of_ble_eq_true rfl, Nat.le_of_ble_eq_true rfl⟩) (xw_preS hB xw_P0 (xw_D0 (A := fun _ => True))) rfl rfl hl.1 rfl (lv_room (Nat.le_of_ble_eq_true rfl)) dX8_total_270 ⟨Nat.le_of_ble_eq_true rfl, Nat.le_of_ble_eq_true rfl⟩) (fun r89 h => ?_)
        refine lv_goto (tgt := 277) hx hb dX8_total_273 (by decide) ?_
        refine lv_iadd hx hb dX8_total_277 ?_
        refine lv_topi (fun v90 ev90 => ?_)
        have h := h v90 ev90
        refine lv_istore_n (lv' := [(2, .int v90), (0, .ref (a 0)), (3, .int y3)]) hx hb dX8_total_278 rfl hl (by decide) rfl (fun ls hl => ?_)
        obtain ⟨v91, ev91⟩ : ∃ y : Int32, y = y3 + 1 := ⟨_, rfl⟩
        have h := h v91 ev91
        refine lv_iinc (v := v91) (lv' := [(3, .int v91), (2, .int v90), (0, .ref (a 0))]) hx hb dX8_total_279 hl (k := 2) rfl (by rw [ev91]; rfl) (by decide) rfl (fun ls hl => ?_)
        refine lv_goto (tgt := 250) hx hb dX8_total_282 (by decide) ?_
        exact (hWW _ _ _).mp (el250 _ _ _ _ _ h _ _ ls hP hD hS (lv_sub hl [2, 1, 0] rfl))
  have h := h k85 k126 k155 k185 k193 k250 rl85 rl126 rl155 rl185 rl193 rl250
  unfold bd_X8_total_0 at h
  refine lv_iload_n hx hb dX8_total_0 rfl (lv_at hl 1 rfl) ?_
  refine lv_iconst (v := 0) hx hb dX8_total_1 (by decide) ?_
  refine lv_bipush (v := 7) hx hb dX8_total_2 (by decide) ?_
  refine xw_ri (va_runS (rm := { frames := 0, cells := 0, slots := 0, locals := 0 }) (As := [.int x1, .int (0 : Int32), .int (7 : Int32)]) (rest := []) ⟨hx, hb, hml, hown, hts⟩ (c_X8_in l D cy x1 (0 : Int32) (7 : Int32) _ h (fun _ => True)) (va_cwS 3 hts gX8_total_X8_in rfl rfl rfl (by decide +kernel) ⟨Nat.le_of_ble_eq_true rfl, Nat.le_of_ble_eq_true rfl⟩) (xw_preS hB xw_P0 (xw_D0 (A := fun _ => True))) rfl rfl hl.1 rfl (lv_room (Nat.le_of_ble_eq_true rfl)) dX8_total_4 ⟨Nat.le_of_ble_eq_true rfl, Nat.le_of_ble_eq_true rfl⟩) (fun r41 h => ?_)
  refine lv_if_ne (tgt := 13) hx hb dX8_total_7 (by decide) (fun c42 => ?_) (fun c42 => ?_)
  · have h := h.1 c42
    refine lv_aload_n hx hb dX8_total_13 rfl (lv_at hl 0 rfl) ?_
    refine xw_wv (va_runV (rm := { frames := 5, cells := 0, slots := 0, locals := 127 }) (As := []) (rest := []) ⟨hx, hb, hml, hown, hts⟩ (c_X8_place l D cy a I F G _ h A) (cwV 0 hts gX8_total_X8_place rfl rfl rfl (by decide +kernel) ⟨Nat.le_of_ble_eq_true rfl, Nat.le_of_ble_eq_true rfl⟩) (xw_preV hB hP hD (ci := 8) rfl xM_c0) rfl rfl hl.1 rfl (lv_room (Nat.le_of_ble_eq_true rfl)) dX8_total_14 ⟨Nat.le_of_ble_eq_true rfl, Nat.le_of_ble_eq_true rfl⟩) hS (fun I43 F43 G43 H locs h hP hD hS => ?_)
    refine lv_iconst (v := 0) hx hb dX8_total_17 (by decide) ?_
    refine lv_istore_n (lv' := [(2, .int (0 : Int32)), (0, .ref (a 0)), (1, .int x1)]) hx hb dX8_total_18 rfl hl (by decide) rfl (fun ls hl => ?_)
    refine lv_iload_n hx hb dX8_total_19 rfl (lv_at hl 2 rfl) ?_
    by_cases c44 : x1 = 0
    · have h := h.1 c44
      refine lv_tableIn (tgt := 64) hx hb dX8_total_20 (by rw [c44]; decide) (by rw [c44]; decide) (by rw [c44]; rfl) (by decide) ?_
      refine lv_aload_n hx hb dX8_total_64 rfl (lv_at hl 1 rfl) ?_
      refine va_get (D := D) (ci := 8) (v := .long (G43 0 0)) (C := RX8) (T := TX8) (N := 22) hx hb hts mX8_total_inX8 hown hB.1 hP 0 xM_c0 rfl 16 (by decide) (hts _ mX8_total_1) (fun _ h9 => h9) rfl dX8_total_65 ?_
      refine lv_bipush (v := 40) hx hb dX8_total_68 (by decide) ?_
      refine lv_lshr hx hb dX8_total_70 rfl ?_
      refine lv_l2i hx hb dX8_total_71 rfl ?_
      exact xw_wreti hx hb hr hlocks hP hD hS h dX8_total_72
    have h := h.2
    have c44_0 := c44
    clear c44
    by_cases c44 : x1 = 1
    · have h := h.1 c44
      refine lv_tableIn (tgt := 73) hx hb dX8_total_20 (by rw [c44]; decide) (by rw [c44]; decide) (by rw [c44]; rfl) (by decide) ?_
      refine lv_aload_n hx hb dX8_total_73 rfl (lv_at hl 1 rfl) ?_
      refine va_get (D := D) (ci := 8) (v := .int (I43 4)) (C := RX8) (T := TX8) (N := 22) hx hb hts mX8_total_inX8 hown hB.1 hP 0 xM_c0 rfl 17 (by decide) (hts _ mX8_total_2) (fun _ h9 => h9) rfl dX8_total_74 ?_
      exact xw_wreti hx hb hr hlocks hP hD hS h dX8_total_77
    have h := h.2
    have c44_1 := c44
    clear c44
    by_cases c44 : x1 = 2
    · have h := h.1 c44
      refine lv_tableIn (tgt := 78) hx hb dX8_total_20 (by rw [c44]; decide) (by rw [c44]; decide) (by rw [c44]; rfl) (by decide) ?_
      refine lv_aload_n hx hb dX8_total_78 rfl (lv_at hl 1 rfl) ?_
      refine xw_ri (va_runV (rm := { frames := 2, cells := 0, slots := 0, locals := 43 }) (As := []) (rest := []) ⟨hx, hb, hml, hown, hts⟩ (c_X8_there l D cy a I43 F43 G43 _ h A) (cwV 0 hts gX8_total_X8_there rfl rfl rfl (by decide +kernel) ⟨Nat.le_of_ble_eq_true rfl, Nat.le_of_ble_eq_true rfl⟩) (xw_preV hB hP hD (ci := 8) rfl xM_c0) rfl rfl hl.1 rfl (lv_room (Nat.le_of_ble_eq_true rfl)) dX8_total_79 ⟨Nat.le_of_ble_eq_true rfl, Nat.le_of_ble_eq_true rfl⟩) (fun r45 h => ?_)
      exact xw_wreti hx hb hr hlocks hP hD hS h dX8_total_82
    have h := h.2
    have c44_2 := c44
    clear c44
    by_cases c44 : x1 = 3
    · have h := h.1 c44
      refine lv_tableIn (tgt := 83) hx hb dX8_total_20 (by rw [c44]; decide) (by rw [c44]; decide) (by rw [c44]; rfl) (by decide) ?_
      refine lv_iconst (v := 0) hx hb dX8_total_83 (by decide) ?_
      refine lv_istore_n (lv' := [(3, .int (0 : Int32)), (2, .int (0 : Int32)), (0, .ref (a 0)), (1, .int x1)]) hx hb dX8_total_84 rfl hl (by decide) rfl (fun ls hl => ?_)
      exact (hWW _ _ _).mp (el85 _ _ _ _ _ h _ _ ls hP hD hS (lv_sub hl [2, 1, 0] rfl))
    have h := h.2
    have c44_3 := c44
    clear c44
    by_cases c44 : x1 = 4
    · have h := h.1 c44
      refine lv_tableIn (tgt := 124) hx hb dX8_total_20 (by rw [c44]; decide) (by rw [c44]; decide) (by rw [c44]; rfl) (by decide) ?_
      refine lv_iconst (v := 0) hx hb dX8_total_124 (by decide) ?_
      refine lv_istore_n (lv' := [(3, .int (0 : Int32)), (2, .int (0 : Int32)), (0, .ref (a 0)), (1, .int x1)]) hx hb dX8_total_125 rfl hl (by decide) rfl (fun ls hl => ?_)
      exact (hWW _ _ _).mp (el126 _ _ _ _ _ h _ _ ls hP hD hS (lv_sub hl [2, 1, 0] rfl))
    have h := h.2
    have c44_4 := c44
    clear c44
    by_cases c44 : x1 = 5
    · have h := h.1 c44
      refine lv_tableIn (tgt := 153) hx hb dX8_total_20 (by rw [c44]; decide) (by rw [c44]; decide) (by rw [c44]; rfl) (by decide) ?_
      refine lv_iconst (v := 0) hx hb dX8_total_153 (by decide) ?_
      refine lv_istore_n (lv' := [(3, .int (0 : Int32)), (2, .int (0 : Int32)), (0, .ref (a 0)), (1, .int x1)]) hx hb dX8_total_154 rfl hl (by decide) rfl (fun ls hl => ?_)
      exact (hWW _ _ _).mp (el155 _ _ _ _ _ h _ _ ls hP hD hS (lv_sub hl [2, 1, 0] rfl))
    have h := h.2
    have c44_5 := c44
    clear c44
    by_cases c44 : x1 = 6
    · have h := h.1 c44
      refine lv_tableIn (tgt := 183) hx hb dX8_total_20 (by rw [c44]; decide) (by rw [c44]; decide) (by rw [c44]; rfl) (by decide) ?_
      refine lv_iconst (v := 0) hx hb dX8_total_183 (by decide) ?_
      refine lv_istore_n (lv' := [(3, .int (0 : Int32)), (2, .int (0 : Int32)), (0, .ref (a 0)), (1, .int x1)]) hx hb dX8_total_184 rfl hl (by decide) rfl (fun ls hl => ?_)
      exact (hWW _ _ _).mp (el185 _ _ _ _ _ h _ _ ls hP hD hS (lv_sub hl [2, 1, 0] rfl))
    have h := h.2
    have c44_6 := c44
    clear c44
    have h := h c44_0 c44_1 c44_2 c44_3 c44_4 c44_5 c44_6
    refine lv_tableOut (tgt := 248) hx hb dX8_total_20 (xw_tab6 c44_0 c44_1 c44_2 c44_3 c44_4 c44_5 c44_6) (by decide) ?_
    refine lv_iconst (v := 0) hx hb dX8_total_248 (by decide) ?_
    refine lv_istore_n (lv' := [(3, .int (0 : Int32)), (2, .int (0 : Int32)), (0, .ref (a 0)), (1, .int x1)]) hx hb dX8_total_249 rfl hl (by decide) rfl (fun ls hl => ?_)
    exact (hWW _ _ _).mp (el250 _ _ _ _ _ h _ _ ls hP hD hS (lv_sub hl [2, 1, 0] rfl))
  · have h := h.2 c42
    refine lv_bipush (v := -2) hx hb dX8_total_10 (by decide) ?_
    exact xw_wreti hx hb hr hlocks hP hD hS h dX8_total_12
