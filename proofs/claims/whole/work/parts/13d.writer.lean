theorem mX0_findMoves_1 : Cond.constant RX0 42 (1048576) ∈ wsX0_findMoves := List.mem_of_getElem? (i := 1) rfl
theorem mX0_findMoves_2 : Cond.methodLink RX0 43 Lib.Math.abs.name ∈ wsX0_findMoves := List.mem_of_getElem? (i := 2) rfl
theorem mX0_findMoves_3 : Cond.static Lib.Math.abs.name ∈ wsX0_findMoves := List.mem_of_getElem? (i := 3) rfl
theorem mX0_findMoves_4 : Cond.initialized "java/lang/Math" ∈ wsX0_findMoves := List.mem_of_getElem? (i := 4) rfl
theorem mX0_findMoves_5 : Cond.code Lib.Math.abs.name Lib.Math.abs.code 1 (some .int) ∈ wsX0_findMoves := List.mem_of_getElem? (i := 5) rfl
theorem mX0_findMoves_6 : Cond.fieldLink RX0 15 "TagCarrier$MarkPlacer" "moved" "[I" ∈ wsX0_findMoves := List.mem_of_getElem? (i := 6) rfl
theorem mX0_findMoves_inX0 : ∀ w ∈ u_ws RX0 TX0 4, w ∈ wsX0_findMoves := by decide +kernel
theorem mX0_findMoves_7 : Cond.fieldLink RX0 18 "TagCarrier$MarkPlacer" "chosen" "[I" ∈ wsX0_findMoves := List.mem_of_getElem? (i := 7) rfl
set_option maxHeartbeats 4000000 in
set_option maxRecDepth 100000 in
theorem c_X0_findMoves (l : Launch) (D : va_G) (cy : Nat → ClassId) (a : Nat → Nat) (x1 : Int32) (x2 : Int32) (x3 : Int32) (I : xw_I) (F : xw_F) (G : xw_G) (post : xw_I → xw_F → xw_G → Prop) (h : sm_X0_findMoves x1 x2 x3 I F G post) : xw_Wv l yX0_findMoves wsX0_findMoves ({ frames := 1, cells := 0, slots := 0, locals := 23 }) D cy [.ref (a 32), .int x1, .int x2, .int x3] (xC_w cy a I F G) (xC_w cy a) post := by
  intro A
  refine Met.ofW (cc := cX0_findMoves) (maxL := 8) (ret := none) (by decide) rfl ?_
  intro p e s m args below meth c s₁ B hml hv
  obtain ⟨rfl, hP, hB, hD⟩ := hv
  have hP : va_P D vwCl (xC_w cy a I F G) s.heap := hP
  have hx := B.exec
  have hb := B.bytes
  have hr := B.returns
  have hts := atoms_spec (ws := wsX0_findMoves) B.pre
  have hown : s.vm.findClass RX0 = some m.cls := findClass_of_methodNamed B.named
  have hlocks := B.notSynchronized
  have hS : va_S A s.heap s.heap [] := va_S.rf
  refine xw_go (fun WW hWW => ?_)
  have hl := lv_entry ([.ref (a 32), .int x1, .int x2, .int x3]) (n := 8) (Nat.le_of_ble_eq_true rfl)
  rw [lg_entry_eq]
  generalize (lg_sl ([.ref (a 32), .int x1, .int x2, .int x3]) ++ List.replicate (8 - (lg_sl ([.ref (a 32), .int x1, .int x2, .int x3])).length) Slot.unset).toArray = ls at hl ⊢
  have hl : lv_has ls 8 [(0, .ref (a 32)), (1, .int x1), (2, .int x2), (3, .int x3)] := hl
  obtain ⟨k10, mk10, el10⟩ : ∃ K : Int32 → Int32 → Int32 → xw_I → xw_F → xw_G → Prop, (∀ (y4 : Int32) (y5 : Int32) (y6 : Int32) (I : xw_I) (F : xw_F) (G : xw_G), (∀ (H : Heap) (locs : List Loc) (ls : Array Slot), va_P D vwCl (xC_w cy a I F G) H → va_D A (xC_w cy a I F G) → va_S A s.heap H locs → lv_has ls 8 [(0, .ref (a 32)), (1, .int x1), (2, .int x2), (4, .int y4), (5, .int y5), (6, .int y6)] → WW H locs (F0 m 10 ls [])) → K y4 y5 y6 I F G) ∧ (∀ (y4 : Int32) (y5 : Int32) (y6 : Int32) (I : xw_I) (F : xw_F) (G : xw_G), K y4 y5 y6 I F G → (∀ (H : Heap) (locs : List Loc) (ls : Array Slot), va_P D vwCl (xC_w cy a I F G) H → va_D A (xC_w cy a I F G) → va_S A s.heap H locs → lv_has ls 8 [(0, .ref (a 32)), (1, .int x1), (2, .int x2), (4, .int y4), (5, .int y5), (6, .int y6)] → WW H locs (F0 m 10 ls []))) := ⟨fun (y4 : Int32) (y5 : Int32) (y6 : Int32) (I : xw_I) (F : xw_F) (G : xw_G) => (∀ (H : Heap) (locs : List Loc) (ls : Array Slot), va_P D vwCl (xC_w cy a I F G) H → va_D A (xC_w cy a I F G) → va_S A s.heap H locs → lv_has ls 8 [(0, .ref (a 32)), (1, .int x1), (2, .int x2), (4, .int y4), (5, .int y5), (6, .int y6)] → WW H locs (F0 m 10 ls [])), fun _ _ _ _ _ _ h => h, fun _ _ _ _ _ _ h => h⟩
  obtain ⟨k54, mk54, el54⟩ : ∃ K : Int32 → Int32 → Int32 → xw_I → xw_F → xw_G → Prop, (∀ (y4 : Int32) (y5 : Int32) (y6 : Int32) (I : xw_I) (F : xw_F) (G : xw_G), (∀ (H : Heap) (locs : List Loc) (ls : Array Slot), va_P D vwCl (xC_w cy a I F G) H → va_D A (xC_w cy a I F G) → va_S A s.heap H locs → lv_has ls 8 [(0, .ref (a 32)), (1, .int x1), (2, .int x2), (4, .int y4), (5, .int y5), (6, .int y6)] → WW H locs (F0 m 54 ls [])) → K y4 y5 y6 I F G) ∧ (∀ (y4 : Int32) (y5 : Int32) (y6 : Int32) (I : xw_I) (F : xw_F) (G : xw_G), K y4 y5 y6 I F G → (∀ (H : Heap) (locs : List Loc) (ls : Array Slot), va_P D vwCl (xC_w cy a I F G) H → va_D A (xC_w cy a I F G) → va_S A s.heap H locs → lv_has ls 8 [(0, .ref (a 32)), (1, .int x1), (2, .int x2), (4, .int y4), (5, .int y5), (6, .int y6)] → WW H locs (F0 m 54 ls []))) := ⟨fun (y4 : Int32) (y5 : Int32) (y6 : Int32) (I : xw_I) (F : xw_F) (G : xw_G) => (∀ (H : Heap) (locs : List Loc) (ls : Array Slot), va_P D vwCl (xC_w cy a I F G) H → va_D A (xC_w cy a I F G) → va_S A s.heap H locs → lv_has ls 8 [(0, .ref (a 32)), (1, .int x1), (2, .int x2), (4, .int y4), (5, .int y5), (6, .int y6)] → WW H locs (F0 m 54 ls [])), fun _ _ _ _ _ _ h => h, fun _ _ _ _ _ _ h => h⟩
  have rl10 : ∀ (y4 : Int32) (y5 : Int32) (y6 : Int32) (I : xw_I) (F : xw_F) (G : xw_G), (bd_X0_findMoves_10 x1 x2 x3 post k10 k54 y4 y5 y6 I F G) → k10 y4 y5 y6 I F G := by
    intro y4 y5 y6 I F G h
    refine mk10 _ _ _ _ _ _ ?_
    intro H locs ls hP hD hS hl
    refine (hWW _ _ _).mpr ?_
    unfold bd_X0_findMoves_10 at h
    refine lv_iload hx hb dX0_findMoves_10 (lv_at hl 5 rfl) ?_
    refine lv_if_lt (tgt := 88) hx hb dX0_findMoves_12 (by decide) (fun c9 => ?_) (fun c9 => ?_)
    · have h := h.1 c9
      exact xw_wretv hx hb hr hlocks hP hD hS h dX0_findMoves_88
    · have h := h.2 c9
      refine lv_iload hx hb dX0_findMoves_15 (lv_at hl 5 rfl) ?_
      refine lv_iload_n hx hb dX0_findMoves_17 rfl (lv_at hl 2 rfl) ?_
      refine lv_isub hx hb dX0_findMoves_18 ?_
      refine va_mabs hx hb (hml.trans hl.1.symm) hown (hts _ mX0_findMoves_2) (hts _ mX0_findMoves_3) (hts _ mX0_findMoves_4) (hts _ mX0_findMoves_5) (Nat.le_of_ble_eq_true rfl) (Nat.le_of_ble_eq_true rfl) (Nat.le_of_ble_eq_true rfl) (Nat.le_of_ble_eq_true rfl) dX0_findMoves_19 ?_
      refine lv_topi (fun v10 ev10 => ?_)
      have h := h v10 ev10
      refine lv_aload_n hx hb dX0_findMoves_22 rfl (lv_at hl 0 rfl) ?_
      refine va_get (D := D) (ci := 0) (v := .ref (a 34)) (C := RX0) (T := TX0) (N := 4) hx hb hts mX0_findMoves_inX0 hown hB.1 hP 32 xC_c32 rfl 2 (by decide) (hts _ mX0_findMoves_6) (fun _ h9 => h9) rfl dX0_findMoves_23 ?_
      refine lv_iload_n hx hb dX0_findMoves_26 rfl (lv_at hl 1 rfl) ?_
      refine lv_iconst (v := 1) hx hb dX0_findMoves_27 (by decide) ?_
      refine lv_iadd hx hb dX0_findMoves_28 ?_
      refine lv_bipush (v := 9) hx hb dX0_findMoves_29 (by decide) ?_
      refine lv_imul hx hb dX0_findMoves_31 ?_
      refine lv_iload hx hb dX0_findMoves_32 (lv_at hl 5 rfl) ?_
      refine lv_iadd hx hb dX0_findMoves_34 ?_
      refine xw_iald hx hb hB hP 34 xC_c34 h.1 dX0_findMoves_35 (fun v11 ev11 => ?_)
      have h := h.2 v11 ev11
      refine lv_iadd hx hb dX0_findMoves_36 ?_
      refine lv_topi (fun v12 ev12 => ?_)
      have h := h v12 ev12
      refine lv_istore (lv' := [(7, .int v12), (0, .ref (a 32)), (1, .int x1), (2, .int x2), (4, .int y4), (5, .int y5), (6, .int y6)]) hx hb dX0_findMoves_37 hl (by decide) rfl (fun ls hl => ?_)
      refine lv_iload hx hb dX0_findMoves_39 (lv_at hl 0 rfl) ?_
      refine lv_iload hx hb dX0_findMoves_41 (lv_at hl 4 rfl) ?_
      refine lv_icmp_gt (tgt := 54) hx hb dX0_findMoves_43 (by decide) (fun c13 => ?_) (fun c13 => ?_)
      · have h := h.1 c13
        exact (hWW _ _ _).mp (el54 _ _ _ _ _ _ h _ _ ls hP hD hS (lv_sub hl [1, 2, 3, 4, 5, 6] rfl))
      · have h := h.2 c13
        refine lv_iload hx hb dX0_findMoves_46 (lv_at hl 0 rfl) ?_
        refine lv_istore (lv' := [(4, .int v12), (7, .int v12), (0, .ref (a 32)), (1, .int x1), (2, .int x2), (5, .int y5), (6, .int y6)]) hx hb dX0_findMoves_48 hl (by decide) rfl (fun ls hl => ?_)
        refine lv_iload hx hb dX0_findMoves_50 (lv_at hl 6 rfl) ?_
        refine lv_istore (lv' := [(5, .int y6), (4, .int v12), (7, .int v12), (0, .ref (a 32)), (1, .int x1), (2, .int x2), (6, .int y6)]) hx hb dX0_findMoves_52 hl (by decide) rfl (fun ls hl => ?_)
        exact (hWW _ _ _).mp (el54 _ _ _ _ _ _ h _ _ ls hP hD hS (lv_sub hl [3, 4, 5, 1, 0, 6] rfl))
  have rl54 : ∀ (y4 : Int32) (y5 : Int32) (y6 : Int32) (I : xw_I) (F : xw_F) (G : xw_G), (bd_X0_findMoves_54 x1 x2 x3 post k10 k54 y4 y5 y6 I F G) → k54 y4 y5 y6 I F G := by
    intro y4 y5 y6 I F G h
    refine mk54 _ _ _ _ _ _ ?_
    intro H locs ls hP hD hS hl
    refine (hWW _ _ _).mpr ?_
    unfold bd_X0_findMoves_54 at h
    refine lv_aload_n hx hb dX0_findMoves_54 rfl (lv_at hl 0 rfl) ?_
    refine va_get (D := D) (ci := 0) (v := .ref (a 34)) (C := RX0) (T := TX0) (N := 4) hx hb hts mX0_findMoves_inX0 hown hB.1 hP 32 xC_c32 rfl 2 (by decide) (hts _ mX0_findMoves_6) (fun _ h9 => h9) rfl dX0_findMoves_55 ?_
    refine lv_iload_n hx hb dX0_findMoves_58 rfl (lv_at hl 1 rfl) ?_
    refine lv_bipush (v := 9) hx hb dX0_findMoves_59 (by decide) ?_
    refine lv_imul hx hb dX0_findMoves_61 ?_
    refine lv_iload hx hb dX0_findMoves_62 (lv_at hl 5 rfl) ?_
    refine lv_iadd hx hb dX0_findMoves_64 ?_
    refine lv_iload hx hb dX0_findMoves_65 (lv_at hl 3 rfl) ?_
    refine xw_iast hx hb hB hP hD hS 34 xC_c34 h.1 xC_f34 dX0_findMoves_67 (fun H locs hP hD hS => ?_)
    have h := h.2
    obtain ⟨F14, eF14⟩ : ∃ f : xw_F, f = xw_up F 34 (upd (F 34) ((x1 * (9 : Int32)) + y6).toNatClampNeg y4) := ⟨_, rfl⟩
    rw [← eF14] at hP hD
    have h := h F14 eF14
    refine lv_aload_n hx hb dX0_findMoves_68 rfl (lv_at hl 0 rfl) ?_
    refine va_get (D := D) (ci := 0) (v := .ref (a 35)) (C := RX0) (T := TX0) (N := 4) hx hb hts mX0_findMoves_inX0 hown hB.1 hP 32 xC_c32 rfl 3 (by decide) (hts _ mX0_findMoves_7) (fun _ h9 => h9) rfl dX0_findMoves_69 ?_
    refine lv_iload_n hx hb dX0_findMoves_72 rfl (lv_at hl 1 rfl) ?_
    refine lv_bipush (v := 9) hx hb dX0_findMoves_73 (by decide) ?_
    refine lv_imul hx hb dX0_findMoves_75 ?_
    refine lv_iload hx hb dX0_findMoves_76 (lv_at hl 5 rfl) ?_
    refine lv_iadd hx hb dX0_findMoves_78 ?_
    refine lv_iload hx hb dX0_findMoves_79 (lv_at hl 4 rfl) ?_
    refine xw_iast hx hb hB hP hD hS 35 xC_c35 h.1 xC_f35 dX0_findMoves_81 (fun H locs hP hD hS => ?_)
    have h := h.2
    obtain ⟨F15, eF15⟩ : ∃ f : xw_F, f = xw_up F14 35 (upd (F14 35) ((x1 * (9 : Int32)) + y6).toNatClampNeg y5) := ⟨_, rfl⟩
    rw [← eF15] at hP hD
    have h := h F15 eF15
    obtain ⟨v16, ev16⟩ : ∃ y : Int32, y = y6 + (-1) := ⟨_, rfl⟩
    have h := h v16 ev16
    refine lv_iinc (v := v16) (lv' := [(6, .int v16), (0, .ref (a 32)), (1, .int x1), (2, .int x2), (4, .int y4), (5, .int y5)]) hx hb dX0_findMoves_82 hl (k := 5) rfl (by rw [ev16]; rfl) (by decide) rfl (fun ls hl => ?_)
    refine lv_goto (tgt := 10) hx hb dX0_findMoves_85 (by decide) ?_
    exact (hWW _ _ _).mp (el10 _ _ _ _ _ _ h _ _ ls hP hD hS (lv_sub hl [1, 2, 3, 4, 5, 0] rfl))
  have h := h k10 k54 rl10 rl54
  unfold bd_X0_findMoves_0 at h
  refine lv_ldc hx hb hown (hts _ mX0_findMoves_1) dX0_findMoves_0 ?_
  refine lv_istore (lv' := [(4, .int (1048576 : Int32)), (0, .ref (a 32)), (1, .int x1), (2, .int x2), (3, .int x3)]) hx hb dX0_findMoves_2 hl (by decide) rfl (fun ls hl => ?_)
  refine lv_iload_n hx hb dX0_findMoves_4 rfl (lv_at hl 4 rfl) ?_
  refine lv_istore (lv' := [(5, .int x3), (4, .int (1048576 : Int32)), (0, .ref (a 32)), (1, .int x1), (2, .int x2), (3, .int x3)]) hx hb dX0_findMoves_5 hl (by decide) rfl (fun ls hl => ?_)
  refine lv_iload_n hx hb dX0_findMoves_7 rfl (lv_at hl 5 rfl) ?_
  refine lv_istore (lv' := [(6, .int x3), (5, .int x3), (4, .int (1048576 : Int32)), (0, .ref (a 32)), (1, .int x1), (2, .int x2), (3, .int x3)]) hx hb dX0_findMoves_8 hl (by decide) rfl (fun ls hl => ?_)
  exact (hWW _ _ _).mp (el10 _ _ _ _ _ _ h _ _ ls hP hD hS (lv_sub hl [3, 4, 5, 2, 1, 0] rfl))

theorem mX0_place_2 : Cond.fieldLink RX0 21 "TagCarrier$Source" "markCount" "I" ∈ wsX0_place := List.mem_of_getElem? (i := 2) rfl
theorem mX0_place_inX4 : ∀ w ∈ u_ws RX4 TX4 12, w ∈ wsX0_place := by decide +kernel
theorem mX0_place_1 : Cond.fieldLink RX0 15 "TagCarrier$MarkPlacer" "moved" "[I" ∈ wsX0_place := List.mem_of_getElem? (i := 1) rfl
theorem mX0_place_inX0 : ∀ w ∈ u_ws RX0 TX0 4, w ∈ wsX0_place := by decide +kernel
theorem mX0_place_5 : Cond.fieldLink RX0 39 "TagCarrier$MarkPlacer" "movedInAll" "I" ∈ wsX0_place := List.mem_of_getElem? (i := 5) rfl
theorem mX0_place_3 : Cond.fieldLink RX0 27 "TagCarrier$Wanted" "mark" "[I" ∈ wsX0_place := List.mem_of_getElem? (i := 3) rfl
theorem mX0_place_inX5 : ∀ w ∈ u_ws RX5 TX5 4, w ∈ wsX0_place := by decide +kernel
theorem mX0_place_4 : Cond.fieldLink RX0 32 "TagCarrier$Source" "markRow" "[I" ∈ wsX0_place := List.mem_of_getElem? (i := 4) rfl
theorem mX0_place_6 : Cond.fieldLink RX0 18 "TagCarrier$MarkPlacer" "chosen" "[I" ∈ wsX0_place := List.mem_of_getElem? (i := 6) rfl
theorem mX0_place_7 : Cond.fieldLink RX0 9 "TagCarrier$MarkPlacer" "at" "[I" ∈ wsX0_place := List.mem_of_getElem? (i := 7) rfl
set_option maxHeartbeats 4000000 in
set_option maxRecDepth 100000 in
theorem c_X0_place (l : Launch) (D : va_G) (cy : Nat → ClassId) (a : Nat → Nat) (x3 : Int32) (I : xw_I) (F : xw_F) (G : xw_G) (post : xw_I → xw_F → xw_G → Prop) (h : sm_X0_place x3 I F G post) : xw_Wv l yX0_place wsX0_place ({ frames := 2, cells := 0, slots := 0, locals := 50 }) D cy [.ref (a 32), .ref (a 12), .ref (a 21), .int x3] (xC_w cy a I F G) (xC_w cy a) post := by
  intro A
  refine Met.ofW (cc := cX0_place) (maxL := 6) (ret := none) (by decide) rfl ?_
  intro p e s m args below meth c s₁ B hml hv
  obtain ⟨rfl, hP, hB, hD⟩ := hv
  have hP : va_P D vwCl (xC_w cy a I F G) s.heap := hP
  have hx := B.exec
  have hb := B.bytes
  have hr := B.returns
  have hts := atoms_spec (ws := wsX0_place) B.pre
  have hown : s.vm.findClass RX0 = some m.cls := findClass_of_methodNamed B.named
  have hlocks := B.notSynchronized
  have hS : va_S A s.heap s.heap [] := va_S.rf
  refine xw_go (fun WW hWW => ?_)
  have hl := lv_entry ([.ref (a 32), .ref (a 12), .ref (a 21), .int x3]) (n := 6) (Nat.le_of_ble_eq_true rfl)
  rw [lg_entry_eq]
  generalize (lg_sl ([.ref (a 32), .ref (a 12), .ref (a 21), .int x3]) ++ List.replicate (6 - (lg_sl ([.ref (a 32), .ref (a 12), .ref (a 21), .int x3])).length) Slot.unset).toArray = ls at hl ⊢
  have hl : lv_has ls 6 [(0, .ref (a 32)), (1, .ref (a 12)), (2, .ref (a 21)), (3, .int x3)] := hl
  obtain ⟨k3, mk3, el3⟩ : ∃ K : Int32 → xw_I → xw_F → xw_G → Prop, (∀ (y4 : Int32) (I : xw_I) (F : xw_F) (G : xw_G), (∀ (H : Heap) (locs : List Loc) (ls : Array Slot), va_P D vwCl (xC_w cy a I F G) H → va_D A (xC_w cy a I F G) → va_S A s.heap H locs → lv_has ls 6 [(0, .ref (a 32)), (1, .ref (a 12)), (2, .ref (a 21)), (3, .int x3), (4, .int y4)] → WW H locs (F0 m 3 ls [])) → K y4 I F G) ∧ (∀ (y4 : Int32) (I : xw_I) (F : xw_F) (G : xw_G), K y4 I F G → (∀ (H : Heap) (locs : List Loc) (ls : Array Slot), va_P D vwCl (xC_w cy a I F G) H → va_D A (xC_w cy a I F G) → va_S A s.heap H locs → lv_has ls 6 [(0, .ref (a 32)), (1, .ref (a 12)), (2, .ref (a 21)), (3, .int x3), (4, .int y4)] → WW H locs (F0 m 3 ls []))) := ⟨fun (y4 : Int32) (I : xw_I) (F : xw_F) (G : xw_G) => (∀ (H : Heap) (locs : List Loc) (ls : Array Slot), va_P D vwCl (xC_w cy a I F G) H → va_D A (xC_w cy a I F G) → va_S A s.heap H locs → lv_has ls 6 [(0, .ref (a 32)), (1, .ref (a 12)), (2, .ref (a 21)), (3, .int x3), (4, .int y4)] → WW H locs (F0 m 3 ls [])), fun _ _ _ _ h => h, fun _ _ _ _ h => h⟩
  obtain ⟨k40, mk40, el40⟩ : ∃ K : Int32 → xw_I → xw_F → xw_G → Prop, (∀ (y4 : Int32) (I : xw_I) (F : xw_F) (G : xw_G), (∀ (H : Heap) (locs : List Loc) (ls : Array Slot), va_P D vwCl (xC_w cy a I F G) H → va_D A (xC_w cy a I F G) → va_S A s.heap H locs → lv_has ls 6 [(0, .ref (a 32)), (1, .ref (a 12)), (2, .ref (a 21)), (3, .int x3), (4, .int y4)] → WW H locs (F0 m 40 ls [])) → K y4 I F G) ∧ (∀ (y4 : Int32) (I : xw_I) (F : xw_F) (G : xw_G), K y4 I F G → (∀ (H : Heap) (locs : List Loc) (ls : Array Slot), va_P D vwCl (xC_w cy a I F G) H → va_D A (xC_w cy a I F G) → va_S A s.heap H locs → lv_has ls 6 [(0, .ref (a 32)), (1, .ref (a 12)), (2, .ref (a 21)), (3, .int x3), (4, .int y4)] → WW H locs (F0 m 40 ls []))) := ⟨fun (y4 : Int32) (I : xw_I) (F : xw_F) (G : xw_G) => (∀ (H : Heap) (locs : List Loc) (ls : Array Slot), va_P D vwCl (xC_w cy a I F G) H → va_D A (xC_w cy a I F G) → va_S A s.heap H locs → lv_has ls 6 [(0, .ref (a 32)), (1, .ref (a 12)), (2, .ref (a 21)), (3, .int x3), (4, .int y4)] → WW H locs (F0 m 40 ls [])), fun _ _ _ _ h => h, fun _ _ _ _ h => h⟩
  obtain ⟨k86, mk86, el86⟩ : ∃ K : Int32 → Int32 → xw_I → xw_F → xw_G → Prop, (∀ (y4 : Int32) (y5 : Int32) (I : xw_I) (F : xw_F) (G : xw_G), (∀ (H : Heap) (locs : List Loc) (ls : Array Slot), va_P D vwCl (xC_w cy a I F G) H → va_D A (xC_w cy a I F G) → va_S A s.heap H locs → lv_has ls 6 [(0, .ref (a 32)), (1, .ref (a 12)), (4, .int y4), (5, .int y5)] → WW H locs (F0 m 86 ls [])) → K y4 y5 I F G) ∧ (∀ (y4 : Int32) (y5 : Int32) (I : xw_I) (F : xw_F) (G : xw_G), K y4 y5 I F G → (∀ (H : Heap) (locs : List Loc) (ls : Array Slot), va_P D vwCl (xC_w cy a I F G) H → va_D A (xC_w cy a I F G) → va_S A s.heap H locs → lv_has ls 6 [(0, .ref (a 32)), (1, .ref (a 12)), (4, .int y4), (5, .int y5)] → WW H locs (F0 m 86 ls []))) := ⟨fun (y4 : Int32) (y5 : Int32) (I : xw_I) (F : xw_F) (G : xw_G) => (∀ (H : Heap) (locs : List Loc) (ls : Array Slot), va_P D vwCl (xC_w cy a I F G) H → va_D A (xC_w cy a I F G) → va_S A s.heap H locs → lv_has ls 6 [(0, .ref (a 32)), (1, .ref (a 12)), (4, .int y4), (5, .int y5)] → WW H locs (F0 m 86 ls [])), fun _ _ _ _ _ h => h, fun _ _ _ _ _ h => h⟩
  have rl3 : ∀ (y4 : Int32) (I : xw_I) (F : xw_F) (G : xw_G), (bd_X0_place_3 x3 post k3 k40 k86 y4 I F G) → k3 y4 I F G := by
    intro y4 I F G h
    refine mk3 _ _ _ _ ?_
    intro H locs ls hP hD hS hl
    refine (hWW _ _ _).mpr ?_
    unfold bd_X0_place_3 at h
    refine lv_iload hx hb dX0_place_3 (lv_at hl 4 rfl) ?_
    refine lv_bipush (v := 9) hx hb dX0_place_5 (by decide) ?_
    refine lv_icmp_ge (tgt := 32) hx hb dX0_place_7 (by decide) (fun c15 => ?_) (fun c15 => ?_)
    · have h := h.1 c15
      refine lv_aload_n hx hb dX0_place_32 rfl (lv_at hl 1 rfl) ?_
      refine va_get (D := D) (ci := 4) (v := .int (I 10)) (C := RX4) (T := TX4) (N := 12) hx hb hts mX0_place_inX4 hown hB.1 hP 12 xC_c12 rfl 3 (by decide) (hts _ mX0_place_2) (fun _ h9 => h9) rfl dX0_place_33 ?_
      refine lv_iconst (v := 1) hx hb dX0_place_36 (by decide) ?_
      refine lv_isub hx hb dX0_place_37 ?_
      refine lv_topi (fun v16 ev16 => ?_)
      have h := h v16 ev16
      refine lv_istore (lv' := [(4, .int v16), (0, .ref (a 32)), (1, .ref (a 12)), (2, .ref (a 21)), (3, .int x3)]) hx hb dX0_place_38 hl (by decide) rfl (fun ls hl => ?_)
      exact (hWW _ _ _).mp (el40 _ _ _ _ h _ _ ls hP hD hS (lv_sub hl [1, 2, 3, 4, 0] rfl))
    · have h := h.2 c15
      refine lv_aload_n hx hb dX0_place_10 rfl (lv_at hl 0 rfl) ?_
      refine va_get (D := D) (ci := 0) (v := .ref (a 34)) (C := RX0) (T := TX0) (N := 4) hx hb hts mX0_place_inX0 hown hB.1 hP 32 xC_c32 rfl 2 (by decide) (hts _ mX0_place_1) (fun _ h9 => h9) rfl dX0_place_11 ?_
      refine lv_aload_n hx hb dX0_place_14 rfl (lv_at hl 1 rfl) ?_
      refine va_get (D := D) (ci := 4) (v := .int (I 10)) (C := RX4) (T := TX4) (N := 12) hx hb hts mX0_place_inX4 hown hB.1 hP 12 xC_c12 rfl 3 (by decide) (hts _ mX0_place_2) (fun _ h9 => h9) rfl dX0_place_15 ?_
      refine lv_bipush (v := 9) hx hb dX0_place_18 (by decide) ?_
      refine lv_imul hx hb dX0_place_20 ?_
      refine lv_iload hx hb dX0_place_21 (lv_at hl 4 rfl) ?_
      refine lv_iadd hx hb dX0_place_23 ?_
      refine lv_iconst (v := 0) hx hb dX0_place_24 (by decide) ?_
      refine xw_iast hx hb hB hP hD hS 34 xC_c34 h.1 xC_f34 dX0_place_25 (fun H locs hP hD hS => ?_)
      have h := h.2
      obtain ⟨F17, eF17⟩ : ∃ f : xw_F, f = xw_up F 34 (upd (F 34) (((I 10) * (9 : Int32)) + y4).toNatClampNeg (0 : Int32)) := ⟨_, rfl⟩
      rw [← eF17] at hP hD
      have h := h F17 eF17
      obtain ⟨v18, ev18⟩ : ∃ y : Int32, y = y4 + 1 := ⟨_, rfl⟩
      have h := h v18 ev18
      refine lv_iinc (v := v18) (lv' := [(4, .int v18), (0, .ref (a 32)), (1, .ref (a 12)), (2, .ref (a 21)), (3, .int x3)]) hx hb dX0_place_26 hl (k := 4) rfl (by rw [ev18]; rfl) (by decide) rfl (fun ls hl => ?_)
      refine lv_goto (tgt := 3) hx hb dX0_place_29 (by decide) ?_
      exact (hWW _ _ _).mp (el3 _ _ _ _ h _ _ ls hP hD hS (lv_sub hl [1, 2, 3, 4, 0] rfl))
  have rl40 : ∀ (y4 : Int32) (I : xw_I) (F : xw_F) (G : xw_G), (bd_X0_place_40 x3 post k3 k40 k86 y4 I F G) → k40 y4 I F G := by
    intro y4 I F G h
    refine mk40 _ _ _ _ ?_
    intro H locs ls hP hD hS hl
    refine (hWW _ _ _).mpr ?_
    unfold bd_X0_place_40 at h
    refine lv_iload hx hb dX0_place_40 (lv_at hl 4 rfl) ?_
    refine lv_if_lt (tgt := 70) hx hb dX0_place_42 (by decide) (fun c19 => ?_) (fun c19 => ?_)
    · have h := h.1 c19
      refine lv_aload_n hx hb dX0_place_70 rfl (lv_at hl 0 rfl) ?_
      refine lv_aload_n hx hb dX0_place_71 rfl (lv_at hl 0 rfl) ?_
      refine va_get (D := D) (ci := 0) (v := .ref (a 34)) (C := RX0) (T := TX0) (N := 4) hx hb hts mX0_place_inX0 hown hB.1 hP 32 xC_c32 rfl 2 (by decide) (hts _ mX0_place_1) (fun _ h9 => h9) rfl dX0_place_72 ?_
      refine lv_iconst (v := 0) hx hb dX0_place_75 (by decide) ?_
      refine xw_iald hx hb hB hP 34 xC_c34 h.1 dX0_place_76 (fun v20 ev20 => ?_)
      have h := h.2 v20 ev20
      refine xw_put (D := D) (ci := 0) (v := .int v20) (ty := .int) (C := RX0) (T := TX0) (N := 4) hx hb hts mX0_place_inX0 tyX0 tyX0_ok nmX0 hown hB hP hD hS 32 xC_c32 rfl 1 (by decide) (hts _ mX0_place_5) (fun _ h9 => h9) rfl (by decide +kernel) rfl rfl (Nat.le_of_ble_eq_true rfl) xC_i16 dX0_place_77 (fun H locs hP hD hS => ?_)
      obtain ⟨I21, eI21⟩ : ∃ f : xw_I, f = xw_up I 16 v20 := ⟨_, rfl⟩
      rw [← eI21] at hP hD
      have h := h I21 eI21
      refine lv_iconst (v := 0) hx hb dX0_place_80 (by decide) ?_
      refine lv_istore (lv' := [(4, .int (0 : Int32)), (0, .ref (a 32)), (1, .ref (a 12)), (2, .ref (a 21)), (3, .int x3)]) hx hb dX0_place_81 hl (by decide) rfl (fun ls hl => ?_)
      refine lv_iconst (v := 0) hx hb dX0_place_83 (by decide) ?_
      refine lv_istore (lv' := [(5, .int (0 : Int32)), (4, .int (0 : Int32)), (0, .ref (a 32)), (1, .ref (a 12)), (2, .ref (a 21)), (3, .int x3)]) hx hb dX0_place_84 hl (by decide) rfl (fun ls hl => ?_)
      exact (hWW _ _ _).mp (el86 _ _ _ _ _ h _ _ ls hP hD hS (lv_sub hl [2, 3, 1, 0] rfl))
    · have h := h.2 c19
      refine lv_aload_n hx hb dX0_place_45 rfl (lv_at hl 0 rfl) ?_
      refine lv_iload hx hb dX0_place_46 (lv_at hl 4 rfl) ?_
      refine lv_aload_n hx hb dX0_place_48 rfl (lv_at hl 2 rfl) ?_
      refine va_get (D := D) (ci := 5) (v := .ref (a 24)) (C := RX5) (T := TX5) (N := 4) hx hb hts mX0_place_inX5 hown hB.1 hP 21 xC_c21 rfl 2 (by decide) (hts _ mX0_place_3) (fun _ h9 => h9) rfl dX0_place_49 ?_
      refine lv_aload_n hx hb dX0_place_52 rfl (lv_at hl 1 rfl) ?_
      refine va_get (D := D) (ci := 4) (v := .ref (a 18)) (C := RX4) (T := TX4) (N := 12) hx hb hts mX0_place_inX4 hown hB.1 hP 12 xC_c12 rfl 10 (by decide) (hts _ mX0_place_4) (fun _ h9 => h9) rfl dX0_place_53 ?_
      refine lv_iload hx hb dX0_place_56 (lv_at hl 4 rfl) ?_
      refine xw_iald hx hb hB hP 18 xC_c18 h.1 dX0_place_58 (fun v22 ev22 => ?_)
      have h := h.2 v22 ev22
      refine xw_iald hx hb hB hP 24 xC_c24 h.1 dX0_place_59 (fun v23 ev23 => ?_)
      have h := h.2 v23 ev23
      refine lv_iload_n hx hb dX0_place_60 rfl (lv_at hl 3 rfl) ?_
      refine xw_wv (va_runV (rm := { frames := 1, cells := 0, slots := 0, locals := 23 }) (As := [.int y4, .int v23, .int x3]) (rest := []) ⟨hx, hb, hml, hown, hts⟩ (c_X0_findMoves l D cy a y4 v23 x3 I F G _ h A) (cwV 3 hts gX0_place_X0_findMoves rfl rfl rfl (by decide +kernel) ⟨Nat.le_of_ble_eq_true rfl, Nat.le_of_ble_eq_true rfl⟩) (xw_preV hB hP hD (ci := 0) rfl xC_c32) rfl rfl hl.1 rfl (lv_room (Nat.le_of_ble_eq_true rfl)) dX0_place_61 ⟨Nat.le_of_ble_eq_true rfl, Nat.le_of_ble_eq_true rfl⟩) hS (fun I24 F24 G24 H locs h hP hD hS => ?_)
      obtain ⟨v25, ev25⟩ : ∃ y : Int32, y = y4 + (-1) := ⟨_, rfl⟩
      have h := h v25 ev25
      refine lv_iinc (v := v25) (lv' := [(4, .int v25), (0, .ref (a 32)), (1, .ref (a 12)), (2, .ref (a 21)), (3, .int x3)]) hx hb dX0_place_64 hl (k := 4) rfl (by rw [ev25]; rfl) (by decide) rfl (fun ls hl => ?_)
      refine lv_goto (tgt := 40) hx hb dX0_place_67 (by decide) ?_
      exact (hWW _ _ _).mp (el40 _ _ _ _ h _ _ ls hP hD hS (lv_sub hl [1, 2, 3, 4, 0] rfl))
  have rl86 : ∀ (y4 : Int32) (y5 : Int32) (I : xw_I) (F : xw_F) (G : xw_G), (bd_X0_place_86 x3 post k3 k40 k86 y4 y5 I F G) → k86 y4 y5 I F G := by
    intro y4 y5 I F G h
    refine mk86 _ _ _ _ _ ?_
    intro H locs ls hP hD hS hl
    refine (hWW _ _ _).mpr ?_
    unfold bd_X0_place_86 at h
    refine lv_iload hx hb dX0_place_86 (lv_at hl 3 rfl) ?_
    refine lv_aload_n hx hb dX0_place_88 rfl (lv_at hl 1 rfl) ?_
    refine va_get (D := D) (ci := 4) (v := .int (I 10)) (C := RX4) (T := TX4) (N := 12) hx hb hts mX0_place_inX4 hown hB.1 hP 12 xC_c12 rfl 3 (by decide) (hts _ mX0_place_2) (fun _ h9 => h9) rfl dX0_place_89 ?_
    refine lv_icmp_ge (tgt := 130) hx hb dX0_place_92 (by decide) (fun c26 => ?_) (fun c26 => ?_)
    · have h := h.1 c26
      exact xw_wretv hx hb hr hlocks hP hD hS h dX0_place_130
    · have h := h.2 c26
      refine lv_aload_n hx hb dX0_place_95 rfl (lv_at hl 0 rfl) ?_
      refine va_get (D := D) (ci := 0) (v := .ref (a 35)) (C := RX0) (T := TX0) (N := 4) hx hb hts mX0_place_inX0 hown hB.1 hP 32 xC_c32 rfl 3 (by decide) (hts _ mX0_place_6) (fun _ h9 => h9) rfl dX0_place_96 ?_
      refine lv_iload hx hb dX0_place_99 (lv_at hl 3 rfl) ?_
      refine lv_bipush (v := 9) hx hb dX0_place_101 (by decide) ?_
      refine lv_imul hx hb dX0_place_103 ?_
      refine lv_iload hx hb dX0_place_104 (lv_at hl 2 rfl) ?_
      refine lv_iadd hx hb dX0_place_106 ?_
      refine xw_iald hx hb hB hP 35 xC_c35 h.1 dX0_place_107 (fun v27 ev27 => ?_)
      have h := h.2 v27 ev27
      refine lv_istore (lv' := [(4, .int v27), (0, .ref (a 32)), (1, .ref (a 12)), (5, .int y5)]) hx hb dX0_place_108 hl (by decide) rfl (fun ls hl => ?_)
      refine lv_aload_n hx hb dX0_place_110 rfl (lv_at hl 1 rfl) ?_
      refine va_get (D := D) (ci := 0) (v := .ref (a 33)) (C := RX0) (T := TX0) (N := 4) hx hb hts mX0_place_inX0 hown hB.1 hP 32 xC_c32 rfl 0 (by decide) (hts _ mX0_place_7) (fun _ h9 => h9) rfl dX0_place_111 ?_
      refine lv_aload_n hx hb dX0_place_114 rfl (lv_at hl 2 rfl) ?_
      refine va_get (D := D) (ci := 4) (v := .ref (a 18)) (C := RX4) (T := TX4) (N := 12) hx hb hts mX0_place_inX4 hown hB.1 hP 12 xC_c12 rfl 10 (by decide) (hts _ mX0_place_4) (fun _ h9 => h9) rfl dX0_place_115 ?_
      refine lv_iload hx hb dX0_place_118 (lv_at hl 3 rfl) ?_
      refine xw_iald hx hb hB hP 18 xC_c18 h.1 dX0_place_120 (fun v28 ev28 => ?_)
      have h := h.2 v28 ev28
      refine lv_iload hx hb dX0_place_121 (lv_at hl 0 rfl) ?_
      refine xw_iast hx hb hB hP hD hS 33 xC_c33 h.1 xC_f33 dX0_place_123 (fun H locs hP hD hS => ?_)
      have h := h.2
      obtain ⟨F29, eF29⟩ : ∃ f : xw_F, f = xw_up F 33 (upd (F 33) v28.toNatClampNeg v27) := ⟨_, rfl⟩
      rw [← eF29] at hP hD
      have h := h F29 eF29
      obtain ⟨v30, ev30⟩ : ∃ y : Int32, y = y5 + 1 := ⟨_, rfl⟩
      have h := h v30 ev30
      refine lv_iinc (v := v30) (lv' := [(5, .int v30), (4, .int v27), (0, .ref (a 32)), (1, .ref (a 12))]) hx hb dX0_place_124 hl (k := 3) rfl (by rw [ev30]; rfl) (by decide) rfl (fun ls hl => ?_)
      refine lv_goto (tgt := 86) hx hb dX0_place_127 (by decide) ?_
      exact (hWW _ _ _).mp (el86 _ _ _ _ _ h _ _ ls hP hD hS (lv_sub hl [2, 3, 1, 0] rfl))
  have h := h k3 k40 k86 rl3 rl40 rl86
  unfold bd_X0_place_0 at h
  refine lv_iconst (v := 0) hx hb dX0_place_0 (by decide) ?_
  refine lv_istore (lv' := [(4, .int (0 : Int32)), (0, .ref (a 32)), (1, .ref (a 12)), (2, .ref (a 21)), (3, .int x3)]) hx hb dX0_place_1 hl (by decide) rfl (fun ls hl => ?_)
  exact (hWW _ _ _).mp (el3 _ _ _ _ h _ _ ls hP hD hS (lv_sub hl [1, 2, 3, 4, 0] rfl))

theorem mX6_add_1 : Cond.fieldLink RX6 18 "TagCarrier$Writer" "count" "I" ∈ wsX6_add := List.mem_of_getElem? (i := 1) rfl
theorem mX6_add_inX6 : ∀ w ∈ u_ws RX6 TX6 3, w ∈ wsX6_add := by decide +kernel
theorem mX6_add_2 : Cond.fieldLink RX6 9 "TagCarrier$Writer" "signs" "[I" ∈ wsX6_add := List.mem_of_getElem? (i := 2) rfl
set_option maxHeartbeats 4000000 in
set_option maxRecDepth 100000 in
theorem c_X6_add (l : Launch) (D : va_G) (cy : Nat → ClassId) (a : Nat → Nat) (x1 : Int32) (I : xw_I) (F : xw_F) (G : xw_G) (post : xw_I → xw_F → xw_G → Prop) (h : sm_X6_add x1 I F G post) : xw_Wv l yX6_add wsX6_add ({ frames := 0, cells := 0, slots := 0, locals := 0 }) D cy [.ref (a 36), .int x1] (xC_w cy a I F G) (xC_w cy a) post := by
  intro A
  refine Met.ofW (cc := cX6_add) (maxL := 2) (ret := none) (by decide) rfl ?_
  intro p e s m args below meth c s₁ B hml hv
  obtain ⟨rfl, hP, hB, hD⟩ := hv
  have hP : va_P D vwCl (xC_w cy a I F G) s.heap := hP
  have hx := B.exec
  have hb := B.bytes
  have hr := B.returns
  have hts := atoms_spec (ws := wsX6_add) B.pre
  have hown : s.vm.findClass RX6 = some m.cls := findClass_of_methodNamed B.named
  have hlocks := B.notSynchronized
  have hS : va_S A s.heap s.heap [] := va_S.rf
  refine xw_go (fun WW hWW => ?_)
  have hl := lv_entry ([.ref (a 36), .int x1]) (n := 2) (Nat.le_of_ble_eq_true rfl)
  rw [lg_entry_eq]
  generalize (lg_sl ([.ref (a 36), .int x1]) ++ List.replicate (2 - (lg_sl ([.ref (a 36), .int x1])).length) Slot.unset).toArray = ls at hl ⊢
  have hl : lv_has ls 2 [(0, .ref (a 36)), (1, .int x1)] := hl
  unfold sm_X6_add at h
  refine lv_aload_n hx hb dX6_add_0 rfl (lv_at hl 0 rfl) ?_
  refine va_get (D := D) (ci := 6) (v := .int (I 17)) (C := RX6) (T := TX6) (N := 3) hx hb hts mX6_add_inX6 hown hB.1 hP 36 xC_c36 rfl 1 (by decide) (hts _ mX6_add_1) (fun _ h9 => h9) rfl dX6_add_1 ?_
  refine lv_bipush (v := 21) hx hb dX6_add_4 (by decide) ?_
  refine lv_icmp_ge (tgt := 29) hx hb dX6_add_6 (by decide) (fun c3 => ?_) (fun c3 => ?_)
  · have h := h.1 c3
    exact xw_wretv hx hb hr hlocks hP hD hS h dX6_add_29
  · have h := h.2 c3
    refine lv_aload_n hx hb dX6_add_9 rfl (lv_at hl 0 rfl) ?_
    refine va_get (D := D) (ci := 6) (v := .ref (a 37)) (C := RX6) (T := TX6) (N := 3) hx hb hts mX6_add_inX6 hown hB.1 hP 36 xC_c36 rfl 0 (by decide) (hts _ mX6_add_2) (fun _ h9 => h9) rfl dX6_add_10 ?_
    refine lv_aload_n hx hb dX6_add_13 rfl (lv_at hl 0 rfl) ?_
    refine va_get (D := D) (ci := 6) (v := .int (I 17)) (C := RX6) (T := TX6) (N := 3) hx hb hts mX6_add_inX6 hown hB.1 hP 36 xC_c36 rfl 1 (by decide) (hts _ mX6_add_1) (fun _ h9 => h9) rfl dX6_add_14 ?_
    refine lv_iload_n hx hb dX6_add_17 rfl (lv_at hl 1 rfl) ?_
    refine xw_iast hx hb hB hP hD hS 37 xC_c37 h.1 xC_f37 dX6_add_18 (fun H locs hP hD hS => ?_)
    have h := h.2
    obtain ⟨F4, eF4⟩ : ∃ f : xw_F, f = xw_up F 37 (upd (F 37) (I 17).toNatClampNeg x1) := ⟨_, rfl⟩
    rw [← eF4] at hP hD
    have h := h F4 eF4
    refine lv_aload_n hx hb dX6_add_19 rfl (lv_at hl 0 rfl) ?_
    refine lv_dup hx hb dX6_add_20 rfl ?_
    refine va_get (D := D) (ci := 6) (v := .int (I 17)) (C := RX6) (T := TX6) (N := 3) hx hb hts mX6_add_inX6 hown hB.1 hP 36 xC_c36 rfl 1 (by decide) (hts _ mX6_add_1) (fun _ h9 => h9) rfl dX6_add_21 ?_
    refine lv_iconst (v := 1) hx hb dX6_add_24 (by decide) ?_
    refine lv_iadd hx hb dX6_add_25 ?_
    refine xw_put (D := D) (ci := 6) (v := .int ((I 17) + (1 : Int32))) (ty := .int) (C := RX6) (T := TX6) (N := 3) hx hb hts mX6_add_inX6 tyX6 tyX6_ok nmX6 hown hB hP hD hS 36 xC_c36 rfl 1 (by decide) (hts _ mX6_add_1) (fun _ h9 => h9) rfl (by decide +kernel) rfl rfl (Nat.le_of_ble_eq_true rfl) xC_i17 dX6_add_26 (fun H locs hP hD hS => ?_)
    obtain ⟨I5, eI5⟩ : ∃ f : xw_I, f = xw_up I 17 ((I 17) + (1 : Int32)) := ⟨_, rfl⟩
    rw [← eI5] at hP hD
    have h := h I5 eI5
    exact xw_wretv hx hb hr hlocks hP hD hS h dX6_add_29

theorem mX6_heldByAny_3 : Cond.initialized RX7 ∈ wsX6_heldByAny := List.mem_of_getElem? (i := 3) rfl
theorem mX6_heldByAny_2 : Cond.static yX7_has ∈ wsX6_heldByAny := List.mem_of_getElem? (i := 2) rfl
theorem mX6_heldByAny_1 : Cond.fieldLink RX6 78 "TagCarrier$Source" "holds" "[I" ∈ wsX6_heldByAny := List.mem_of_getElem? (i := 1) rfl
theorem mX6_heldByAny_inX4 : ∀ w ∈ u_ws RX4 TX4 12, w ∈ wsX6_heldByAny := by decide +kernel
set_option maxHeartbeats 4000000 in
set_option maxRecDepth 100000 in
theorem c_X6_heldByAny (l : Launch) (D : va_G) (cy : Nat → ClassId) (a : Nat → Nat) (x1 : Int32) (I : xw_I) (F : xw_F) (G : xw_G) (post : Int32 → Prop) (h : sm_X6_heldByAny x1 I F G post) : xw_Ri l yX6_heldByAny wsX6_heldByAny ({ frames := 1, cells := 0, slots := 0, locals := 21 }) D cy [.ref (a 12), .int x1] (xC_w cy a I F G) post := by
  intro A
  refine Met.ofW (cc := cX6_heldByAny) (maxL := 4) (ret := (some .int)) (by decide) rfl ?_
  intro p e s m args below meth c s₁ B hml hv
  obtain ⟨rfl, hP, hB, hD⟩ := hv
  have hP : va_P D vwCl (xC_w cy a I F G) s.heap := hP
  have hx := B.exec
  have hb := B.bytes
  have hr := B.returns
  have hts := atoms_spec (ws := wsX6_heldByAny) B.pre
  have hown : s.vm.findClass RX6 = some m.cls := findClass_of_methodNamed B.named
  have hlocks := B.notSynchronized
  refine xw_go (fun WW hWW => ?_)
  have hl := lv_entry ([.ref (a 12), .int x1]) (n := 4) (Nat.le_of_ble_eq_true rfl)
  rw [lg_entry_eq]
  generalize (lg_sl ([.ref (a 12), .int x1]) ++ List.replicate (4 - (lg_sl ([.ref (a 12), .int x1])).length) Slot.unset).toArray = ls at hl ⊢
  have hl : lv_has ls 4 [(0, .ref (a 12)), (1, .int x1)] := hl
  obtain ⟨k4, mk4, el4⟩ : ∃ K : Int32 → Int32 → Prop, (∀ (y2 : Int32) (y3 : Int32), (∀ (ls : Array Slot), lv_has ls 4 [(0, .ref (a 12)), (1, .int x1), (2, .int y2), (3, .int y3)] → WW s.heap [] (F0 m 4 ls [])) → K y2 y3) ∧ (∀ (y2 : Int32) (y3 : Int32), K y2 y3 → (∀ (ls : Array Slot), lv_has ls 4 [(0, .ref (a 12)), (1, .int x1), (2, .int y2), (3, .int y3)] → WW s.heap [] (F0 m 4 ls []))) := ⟨fun (y2 : Int32) (y3 : Int32) => (∀ (ls : Array Slot), lv_has ls 4 [(0, .ref (a 12)), (1, .int x1), (2, .int y2), (3, .int y3)] → WW s.heap [] (F0 m 4 ls [])), fun _ _ h => h, fun _ _ h => h⟩
  have rl4 : ∀ (y2 : Int32) (y3 : Int32), (bd_X6_heldByAny_4 x1 I F G post k4 y2 y3) → k4 y2 y3 := by
    intro y2 y3 h
    refine mk4 _ _ ?_
    intro ls hl
    refine (hWW _ _ _).mpr ?_
    unfold bd_X6_heldByAny_4 at h
    refine lv_iload_n hx hb dX6_heldByAny_4 rfl (lv_at hl 3 rfl) ?_
    refine lv_iconst (v := 5) hx hb dX6_heldByAny_5 (by decide) ?_
    refine lv_icmp_ge (tgt := 32) hx hb dX6_heldByAny_6 (by decide) (fun c7 => ?_) (fun c7 => ?_)
    · have h := h.1 c7
      refine lv_iload_n hx hb dX6_heldByAny_32 rfl (lv_at hl 2 rfl) ?_
      exact xw_ireti hx hb hr hlocks h dX6_heldByAny_33
    · have h := h.2 c7
      refine lv_iload_n hx hb dX6_heldByAny_9 rfl (lv_at hl 1 rfl) ?_
      refine lv_iload_n hx hb dX6_heldByAny_10 rfl (lv_at hl 3 rfl) ?_
      refine xw_ri (va_runSN (rm := { frames := 0, cells := 0, slots := 0, locals := 0 }) (As := [.int x1, .int y3]) (rest := []) ⟨hx, hb, hml, hown, hts⟩ (c_X7_has l D cy x1 y3 _ h (fun _ => True)) (⟨va_cnB 2 hts gX6_heldByAny_X7_has_n44 rfl rfl rfl (hB.2 12 _ rfl) (hts _ mX6_heldByAny_3) (by decide +kernel) ⟨Nat.le_of_ble_eq_true rfl, Nat.le_of_ble_eq_true rfl⟩, hts _ mX6_heldByAny_2, trivial⟩) (xw_preS hB xw_P0 (xw_D0 (A := fun _ => True))) rfl rfl hl.1 rfl (lv_room (Nat.le_of_ble_eq_true rfl)) dX6_heldByAny_11 ⟨Nat.le_of_ble_eq_true rfl, Nat.le_of_ble_eq_true rfl⟩) (fun r8 h => ?_)
      refine lv_if_eq (tgt := 26) hx hb dX6_heldByAny_14 (by decide) (fun c9 => ?_) (fun c9 => ?_)
      · have h := h.1 c9
        obtain ⟨v10, ev10⟩ : ∃ y : Int32, y = y3 + 1 := ⟨_, rfl⟩
        have h := h v10 ev10
        refine lv_iinc (v := v10) (lv' := [(3, .int v10), (0, .ref (a 12)), (1, .int x1), (2, .int y2)]) hx hb dX6_heldByAny_26 hl (k := 3) rfl (by rw [ev10]; rfl) (by decide) rfl (fun ls hl => ?_)
        refine lv_goto (tgt := 4) hx hb dX6_heldByAny_29 (by decide) ?_
        exact (hWW _ _ _).mp (el4 _ _ h ls (lv_sub hl [1, 2, 3, 0] rfl))
      · have h := h.2 c9
        refine lv_iload_n hx hb dX6_heldByAny_17 rfl (lv_at hl 2 rfl) ?_
        refine lv_aload_n hx hb dX6_heldByAny_18 rfl (lv_at hl 0 rfl) ?_
        refine va_get (D := D) (ci := 4) (v := .ref (a 15)) (C := RX4) (T := TX4) (N := 12) hx hb hts mX6_heldByAny_inX4 hown hB.1 hP 12 xC_c12 rfl 7 (by decide) (hts _ mX6_heldByAny_1) (fun _ h9 => h9) rfl dX6_heldByAny_19 ?_
        refine lv_iload_n hx hb dX6_heldByAny_22 rfl (lv_at hl 3 rfl) ?_
        refine xw_iald hx hb hB hP 15 xC_c15 h.1 dX6_heldByAny_23 (fun v11 ev11 => ?_)
        have h := h.2 v11 ev11
        refine lv_ior hx hb dX6_heldByAny_24 ?_
        refine lv_topi (fun v12 ev12 => ?_)
        have h := h v12 ev12
        refine lv_istore_n (lv' := [(2, .int v12), (0, .ref (a 12)), (1, .int x1), (3, .int y3)]) hx hb dX6_heldByAny_25 rfl hl (by decide) rfl (fun ls hl => ?_)
        obtain ⟨v13, ev13⟩ : ∃ y : Int32, y = y3 + 1 := ⟨_, rfl⟩
        have h := h v13 ev13
        refine lv_iinc (v := v13) (lv' := [(3, .int v13), (2, .int v12), (0, .ref (a 12)), (1, .int x1)]) hx hb dX6_heldByAny_26 hl (k := 3) rfl (by rw [ev13]; rfl) (by decide) rfl (fun ls hl => ?_)
        refine lv_goto (tgt := 4) hx hb dX6_heldByAny_29 (by decide) ?_
        exact (hWW _ _ _).mp (el4 _ _ h ls (lv_sub hl [2, 3, 1, 0] rfl))
  have h := h k4 rl4
  unfold bd_X6_heldByAny_0 at h
  refine lv_iconst (v := 0) hx hb dX6_heldByAny_0 (by decide) ?_
  refine lv_istore_n (lv' := [(2, .int (0 : Int32)), (0, .ref (a 12)), (1, .int x1)]) hx hb dX6_heldByAny_1 rfl hl (by decide) rfl (fun ls hl => ?_)
  refine lv_iconst (v := 0) hx hb dX6_heldByAny_2 (by decide) ?_
  refine lv_istore_n (lv' := [(3, .int (0 : Int32)), (2, .int (0 : Int32)), (0, .ref (a 12)), (1, .int x1)]) hx hb dX6_heldByAny_3 rfl hl (by decide) rfl (fun ls hl => ?_)
  exact (hWW _ _ _).mp (el4 _ _ h ls (lv_sub hl [2, 3, 1, 0] rfl))

theorem mX6_addEmpty_2 : Cond.initialized RX7 ∈ wsX6_addEmpty := List.mem_of_getElem? (i := 2) rfl
theorem mX6_addEmpty_1 : Cond.static yX7_has ∈ wsX6_addEmpty := List.mem_of_getElem? (i := 1) rfl
set_option maxHeartbeats 4000000 in
set_option maxRecDepth 100000 in
theorem c_X6_addEmpty (l : Launch) (D : va_G) (cy : Nat → ClassId) (a : Nat → Nat) (x1 : Int32) (I : xw_I) (F : xw_F) (G : xw_G) (post : xw_I → xw_F → xw_G → Prop) (h : sm_X6_addEmpty x1 I F G post) : xw_Wv l yX6_addEmpty wsX6_addEmpty ({ frames := 1, cells := 0, slots := 0, locals := 21 }) D cy [.ref (a 36), .int x1] (xC_w cy a I F G) (xC_w cy a) post := by
  intro A
  refine Met.ofW (cc := cX6_addEmpty) (maxL := 3) (ret := none) (by decide) rfl ?_
  intro p e s m args below meth c s₁ B hml hv
  obtain ⟨rfl, hP, hB, hD⟩ := hv
  have hP : va_P D vwCl (xC_w cy a I F G) s.heap := hP
  have hx := B.exec
  have hb := B.bytes
  have hr := B.returns
  have hts := atoms_spec (ws := wsX6_addEmpty) B.pre
  have hown : s.vm.findClass RX6 = some m.cls := findClass_of_methodNamed B.named
  have hlocks := B.notSynchronized
  have hS : va_S A s.heap s.heap [] := va_S.rf
  refine xw_go (fun WW hWW => ?_)
  have hl := lv_entry ([.ref (a 36), .int x1]) (n := 3) (Nat.le_of_ble_eq_true rfl)
  rw [lg_entry_eq]
  generalize (lg_sl ([.ref (a 36), .int x1]) ++ List.replicate (3 - (lg_sl ([.ref (a 36), .int x1])).length) Slot.unset).toArray = ls at hl ⊢
  have hl : lv_has ls 3 [(0, .ref (a 36)), (1, .int x1)] := hl
  obtain ⟨k2, mk2, el2⟩ : ∃ K : Int32 → xw_I → xw_F → xw_G → Prop, (∀ (y2 : Int32) (I : xw_I) (F : xw_F) (G : xw_G), (∀ (H : Heap) (locs : List Loc) (ls : Array Slot), va_P D vwCl (xC_w cy a I F G) H → va_D A (xC_w cy a I F G) → va_S A s.heap H locs → lv_has ls 3 [(0, .ref (a 36)), (1, .int x1), (2, .int y2)] → WW H locs (F0 m 2 ls [])) → K y2 I F G) ∧ (∀ (y2 : Int32) (I : xw_I) (F : xw_F) (G : xw_G), K y2 I F G → (∀ (H : Heap) (locs : List Loc) (ls : Array Slot), va_P D vwCl (xC_w cy a I F G) H → va_D A (xC_w cy a I F G) → va_S A s.heap H locs → lv_has ls 3 [(0, .ref (a 36)), (1, .int x1), (2, .int y2)] → WW H locs (F0 m 2 ls []))) := ⟨fun (y2 : Int32) (I : xw_I) (F : xw_F) (G : xw_G) => (∀ (H : Heap) (locs : List Loc) (ls : Array Slot), va_P D vwCl (xC_w cy a I F G) H → va_D A (xC_w cy a I F G) → va_S A s.heap H locs → lv_has ls 3 [(0, .ref (a 36)), (1, .int x1), (2, .int y2)] → WW H locs (F0 m 2 ls [])), fun _ _ _ _ h => h, fun _ _ _ _ h => h⟩
  have rl2 : ∀ (y2 : Int32) (I : xw_I) (F : xw_F) (G : xw_G), (bd_X6_addEmpty_2 x1 post k2 y2 I F G) → k2 y2 I F G := by
    intro y2 I F G h
    refine mk2 _ _ _ _ ?_
    intro H locs ls hP hD hS hl
    refine (hWW _ _ _).mpr ?_
    unfold bd_X6_addEmpty_2 at h
    refine lv_iload_n hx hb dX6_addEmpty_2 rfl (lv_at hl 2 rfl) ?_
    refine lv_iconst (v := 5) hx hb dX6_addEmpty_3 (by decide) ?_
    refine lv_icmp_ge (tgt := 37) hx hb dX6_addEmpty_4 (by decide) (fun c5 => ?_) (fun c5 => ?_)
    · have h := h.1 c5
      exact xw_wretv hx hb hr hlocks hP hD hS h dX6_addEmpty_37
    · have h := h.2 c5
      refine lv_iload_n hx hb dX6_addEmpty_7 rfl (lv_at hl 1 rfl) ?_
      refine lv_iload_n hx hb dX6_addEmpty_8 rfl (lv_at hl 2 rfl) ?_
      refine xw_ri (va_runSN (rm := { frames := 0, cells := 0, slots := 0, locals := 0 }) (As := [.int x1, .int y2]) (rest := []) ⟨hx, hb, hml, hown, hts⟩ (c_X7_has l D cy x1 y2 _ h (fun _ => True)) (⟨va_cnB 2 hts gX6_addEmpty_X7_has_n44 rfl rfl rfl (hB.2 12 _ rfl) (hts _ mX6_addEmpty_2) (by decide +kernel) ⟨Nat.le_of_ble_eq_true rfl, Nat.le_of_ble_eq_true rfl⟩, hts _ mX6_addEmpty_1, trivial⟩) (xw_preS hB xw_P0 (xw_D0 (A := fun _ => True))) rfl rfl hl.1 rfl (lv_room (Nat.le_of_ble_eq_true rfl)) dX6_addEmpty_9 ⟨Nat.le_of_ble_eq_true rfl, Nat.le_of_ble_eq_true rfl⟩) (fun r6 h => ?_)
      refine lv_if_eq (tgt := 31) hx hb dX6_addEmpty_12 (by decide) (fun c7 => ?_) (fun c7 => ?_)
      · have h := h.1 c7
        obtain ⟨v8, ev8⟩ : ∃ y : Int32, y = y2 + 1 := ⟨_, rfl⟩
        have h := h v8 ev8
        refine lv_iinc (v := v8) (lv' := [(2, .int v8), (0, .ref (a 36)), (1, .int x1)]) hx hb dX6_addEmpty_31 hl (k := 2) rfl (by rw [ev8]; rfl) (by decide) rfl (fun ls hl => ?_)
        refine lv_goto (tgt := 2) hx hb dX6_addEmpty_34 (by decide) ?_
        exact (hWW _ _ _).mp (el2 _ _ _ _ h _ _ ls hP hD hS (lv_sub hl [1, 2, 0] rfl))
      · have h := h.2 c7
        refine lv_aload_n hx hb dX6_addEmpty_15 rfl (lv_at hl 0 rfl) ?_
        refine lv_bipush (v := 65) hx hb dX6_addEmpty_16 (by decide) ?_
        refine lv_iload_n hx hb dX6_addEmpty_18 rfl (lv_at hl 2 rfl) ?_
        refine lv_iadd hx hb dX6_addEmpty_19 ?_
        refine xw_wv (va_runV (rm := { frames := 0, cells := 0, slots := 0, locals := 0 }) (As := [.int ((65 : Int32) + y2)]) (rest := []) ⟨hx, hb, hml, hown, hts⟩ (c_X6_add l D cy a ((65 : Int32) + y2) I F G _ h A) (cwV 1 hts gX6_addEmpty_X6_add rfl rfl rfl (by decide +kernel) ⟨Nat.le_of_ble_eq_true rfl, Nat.le_of_ble_eq_true rfl⟩) (xw_preV hB hP hD (ci := 6) rfl xC_c36) rfl rfl hl.1 rfl (lv_room (Nat.le_of_ble_eq_true rfl)) dX6_addEmpty_20 ⟨Nat.le_of_ble_eq_true rfl, Nat.le_of_ble_eq_true rfl⟩) hS (fun I9 F9 G9 H locs h hP hD hS => ?_)
        refine lv_aload_n hx hb dX6_addEmpty_23 rfl (lv_at hl 0 rfl) ?_
        refine lv_bipush (v := 97) hx hb dX6_addEmpty_24 (by decide) ?_
        refine lv_iload_n hx hb dX6_addEmpty_26 rfl (lv_at hl 2 rfl) ?_
        refine lv_iadd hx hb dX6_addEmpty_27 ?_
        refine xw_wv (va_runV (rm := { frames := 0, cells := 0, slots := 0, locals := 0 }) (As := [.int ((97 : Int32) + y2)]) (rest := []) ⟨hx, hb, hml, hown, hts⟩ (c_X6_add l D cy a ((97 : Int32) + y2) I9 F9 G9 _ h A) (cwV 1 hts gX6_addEmpty_X6_add rfl rfl rfl (by decide +kernel) ⟨Nat.le_of_ble_eq_true rfl, Nat.le_of_ble_eq_true rfl⟩) (xw_preV hB hP hD (ci := 6) rfl xC_c36) rfl rfl hl.1 rfl (lv_room (Nat.le_of_ble_eq_true rfl)) dX6_addEmpty_28 ⟨Nat.le_of_ble_eq_true rfl, Nat.le_of_ble_eq_true rfl⟩) hS (fun I10 F10 G10 H locs h hP hD hS => ?_)
        obtain ⟨v11, ev11⟩ : ∃ y : Int32, y = y2 + 1 := ⟨_, rfl⟩
        have h := h v11 ev11
        refine lv_iinc (v := v11) (lv' := [(2, .int v11), (0, .ref (a 36)), (1, .int x1)]) hx hb dX6_addEmpty_31 hl (k := 2) rfl (by rw [ev11]; rfl) (by decide) rfl (fun ls hl => ?_)
        refine lv_goto (tgt := 2) hx hb dX6_addEmpty_34 (by decide) ?_
        exact (hWW _ _ _).mp (el2 _ _ _ _ h _ _ ls hP hD hS (lv_sub hl [1, 2, 0] rfl))
  have h := h k2 rl2
  unfold bd_X6_addEmpty_0 at h
  refine lv_iconst (v := 0) hx hb dX6_addEmpty_0 (by decide) ?_
  refine lv_istore_n (lv' := [(2, .int (0 : Int32)), (0, .ref (a 36)), (1, .int x1)]) hx hb dX6_addEmpty_1 rfl hl (by decide) rfl (fun ls hl => ?_)
  exact (hWW _ _ _).mp (el2 _ _ _ _ h _ _ ls hP hD hS (lv_sub hl [1, 2, 0] rfl))

theorem mX6_rankClosing_1 : Cond.fieldLink RX6 15 "TagCarrier$Writer" "ranks" "[I" ∈ wsX6_rankClosing := List.mem_of_getElem? (i := 1) rfl
theorem mX6_rankClosing_inX6 : ∀ w ∈ u_ws RX6 TX6 3, w ∈ wsX6_rankClosing := by decide +kernel
theorem mX6_rankClosing_2 : Cond.fieldLink RX6 48 "TagCarrier$PairPlacer" "from" "[I" ∈ wsX6_rankClosing := List.mem_of_getElem? (i := 2) rfl
theorem mX6_rankClosing_inX2 : ∀ w ∈ u_ws RX2 TX2 8, w ∈ wsX6_rankClosing := by decide +kernel
set_option maxHeartbeats 4000000 in
set_option maxRecDepth 100000 in
theorem c_X6_rankClosing (l : Launch) (D : va_G) (cy : Nat → ClassId) (a : Nat → Nat) (I : xw_I) (F : xw_F) (G : xw_G) (post : xw_I → xw_F → xw_G → Prop) (h : sm_X6_rankClosing I F G post) : xw_Wv l yX6_rankClosing wsX6_rankClosing ({ frames := 2, cells := 0, slots := 0, locals := 41 }) D cy [.ref (a 36), .ref (a 12), .ref (a 25)] (xC_w cy a I F G) (xC_w cy a) post := by
  intro A
  refine Met.ofW (cc := cX6_rankClosing) (maxL := 4) (ret := none) (by decide) rfl ?_
  intro p e s m args below meth c s₁ B hml hv
  obtain ⟨rfl, hP, hB, hD⟩ := hv
  have hP : va_P D vwCl (xC_w cy a I F G) s.heap := hP
  have hx := B.exec
  have hb := B.bytes
  have hr := B.returns
  have hts := atoms_spec (ws := wsX6_rankClosing) B.pre
  have hown : s.vm.findClass RX6 = some m.cls := findClass_of_methodNamed B.named
  have hlocks := B.notSynchronized
  have hS : va_S A s.heap s.heap [] := va_S.rf
  refine xw_go (fun WW hWW => ?_)
  have hl := lv_entry ([.ref (a 36), .ref (a 12), .ref (a 25)]) (n := 4) (Nat.le_of_ble_eq_true rfl)
  rw [lg_entry_eq]
  generalize (lg_sl ([.ref (a 36), .ref (a 12), .ref (a 25)]) ++ List.replicate (4 - (lg_sl ([.ref (a 36), .ref (a 12), .ref (a 25)])).length) Slot.unset).toArray = ls at hl ⊢
  have hl : lv_has ls 4 [(0, .ref (a 36)), (1, .ref (a 12)), (2, .ref (a 25))] := hl
  obtain ⟨k2, mk2, el2⟩ : ∃ K : Int32 → xw_I → xw_F → xw_G → Prop, (∀ (y3 : Int32) (I : xw_I) (F : xw_F) (G : xw_G), (∀ (H : Heap) (locs : List Loc) (ls : Array Slot), va_P D vwCl (xC_w cy a I F G) H → va_D A (xC_w cy a I F G) → va_S A s.heap H locs → lv_has ls 4 [(0, .ref (a 36)), (1, .ref (a 12)), (2, .ref (a 25)), (3, .int y3)] → WW H locs (F0 m 2 ls [])) → K y3 I F G) ∧ (∀ (y3 : Int32) (I : xw_I) (F : xw_F) (G : xw_G), K y3 I F G → (∀ (H : Heap) (locs : List Loc) (ls : Array Slot), va_P D vwCl (xC_w cy a I F G) H → va_D A (xC_w cy a I F G) → va_S A s.heap H locs → lv_has ls 4 [(0, .ref (a 36)), (1, .ref (a 12)), (2, .ref (a 25)), (3, .int y3)] → WW H locs (F0 m 2 ls []))) := ⟨fun (y3 : Int32) (I : xw_I) (F : xw_F) (G : xw_G) => (∀ (H : Heap) (locs : List Loc) (ls : Array Slot), va_P D vwCl (xC_w cy a I F G) H → va_D A (xC_w cy a I F G) → va_S A s.heap H locs → lv_has ls 4 [(0, .ref (a 36)), (1, .ref (a 12)), (2, .ref (a 25)), (3, .int y3)] → WW H locs (F0 m 2 ls [])), fun _ _ _ _ h => h, fun _ _ _ _ h => h⟩
  have rl2 : ∀ (y3 : Int32) (I : xw_I) (F : xw_F) (G : xw_G), (bd_X6_rankClosing_2 post k2 y3 I F G) → k2 y3 I F G := by
    intro y3 I F G h
    refine mk2 _ _ _ _ ?_
    intro H locs ls hP hD hS hl
    refine (hWW _ _ _).mpr ?_
    unfold bd_X6_rankClosing_2 at h
    refine lv_iload_n hx hb dX6_rankClosing_2 rfl (lv_at hl 3 rfl) ?_
    refine lv_iconst (v := 5) hx hb dX6_rankClosing_3 (by decide) ?_
    refine lv_icmp_ge (tgt := 37) hx hb dX6_rankClosing_4 (by decide) (fun c5 => ?_) (fun c5 => ?_)
    · have h := h.1 c5
      exact xw_wretv hx hb hr hlocks hP hD hS h dX6_rankClosing_37
    · have h := h.2 c5
      refine lv_aload_n hx hb dX6_rankClosing_7 rfl (lv_at hl 0 rfl) ?_
      refine va_get (D := D) (ci := 6) (v := .ref (a 38)) (C := RX6) (T := TX6) (N := 3) hx hb hts mX6_rankClosing_inX6 hown hB.1 hP 36 xC_c36 rfl 2 (by decide) (hts _ mX6_rankClosing_1) (fun _ h9 => h9) rfl dX6_rankClosing_8 ?_
      refine lv_iload_n hx hb dX6_rankClosing_11 rfl (lv_at hl 3 rfl) ?_
      refine lv_aload_n hx hb dX6_rankClosing_12 rfl (lv_at hl 2 rfl) ?_
      refine va_get (D := D) (ci := 2) (v := .ref (a 26)) (C := RX2) (T := TX2) (N := 8) hx hb hts mX6_rankClosing_inX2 hown hB.1 hP 25 xC_c25 rfl 0 (by decide) (hts _ mX6_rankClosing_2) (fun _ h9 => h9) rfl dX6_rankClosing_13 ?_
      refine lv_iload_n hx hb dX6_rankClosing_16 rfl (lv_at hl 3 rfl) ?_
      refine xw_iald hx hb hB hP 26 xC_c26 h.1 dX6_rankClosing_17 (fun v6 ev6 => ?_)
      have h := h.2 v6 ev6
      refine lv_iconst (v := 5) hx hb dX6_rankClosing_18 (by decide) ?_
      refine lv_imul hx hb dX6_rankClosing_19 ?_
      refine lv_aload_n hx hb dX6_rankClosing_20 rfl (lv_at hl 1 rfl) ?_
      refine lv_iload_n hx hb dX6_rankClosing_21 rfl (lv_at hl 3 rfl) ?_
      refine xw_ri (va_runV (rm := { frames := 1, cells := 0, slots := 0, locals := 20 }) (As := [.int y3]) (rest := [.int (v6 * (5 : Int32)), .int y3, .ref (a 38)]) ⟨hx, hb, hml, hown, hts⟩ (c_X4_depth l D cy a y3 I F G _ h A) (cwV 1 hts gX6_rankClosing_X4_depth rfl rfl rfl (by decide +kernel) ⟨Nat.le_of_ble_eq_true rfl, Nat.le_of_ble_eq_true rfl⟩) (xw_preV hB hP hD (ci := 4) rfl xC_c12) rfl rfl hl.1 rfl (lv_room (Nat.le_of_ble_eq_true rfl)) dX6_rankClosing_22 ⟨Nat.le_of_ble_eq_true rfl, Nat.le_of_ble_eq_true rfl⟩) (fun r7 h => ?_)
      refine lv_iadd hx hb dX6_rankClosing_25 ?_
      refine lv_iconst (v := 5) hx hb dX6_rankClosing_26 (by decide) ?_
      refine lv_imul hx hb dX6_rankClosing_27 ?_
      refine lv_iload_n hx hb dX6_rankClosing_28 rfl (lv_at hl 3 rfl) ?_
      refine lv_iadd hx hb dX6_rankClosing_29 ?_
      refine xw_iast hx hb hB hP hD hS 38 xC_c38 h.1 xC_f38 dX6_rankClosing_30 (fun H locs hP hD hS => ?_)
      have h := h.2
      obtain ⟨F8, eF8⟩ : ∃ f : xw_F, f = xw_up F 38 (upd (F 38) y3.toNatClampNeg ((((v6 * (5 : Int32)) + r7) * (5 : Int32)) + y3)) := ⟨_, rfl⟩
      rw [← eF8] at hP hD
      have h := h F8 eF8
      obtain ⟨v9, ev9⟩ : ∃ y : Int32, y = y3 + 1 := ⟨_, rfl⟩
      have h := h v9 ev9
      refine lv_iinc (v := v9) (lv' := [(3, .int v9), (0, .ref (a 36)), (1, .ref (a 12)), (2, .ref (a 25))]) hx hb dX6_rankClosing_31 hl (k := 3) rfl (by rw [ev9]; rfl) (by decide) rfl (fun ls hl => ?_)
      refine lv_goto (tgt := 2) hx hb dX6_rankClosing_34 (by decide) ?_
      exact (hWW _ _ _).mp (el2 _ _ _ _ h _ _ ls hP hD hS (lv_sub hl [1, 2, 3, 0] rfl))
  have h := h k2 rl2
  unfold bd_X6_rankClosing_0 at h
  refine lv_iconst (v := 0) hx hb dX6_rankClosing_0 (by decide) ?_
  refine lv_istore_n (lv' := [(3, .int (0 : Int32)), (0, .ref (a 36)), (1, .ref (a 12)), (2, .ref (a 25))]) hx hb dX6_rankClosing_1 rfl hl (by decide) rfl (fun ls hl => ?_)
  exact (hWW _ _ _).mp (el2 _ _ _ _ h _ _ ls hP hD hS (lv_sub hl [1, 2, 3, 0] rfl))

theorem mX6_rankOpening_1 : Cond.fieldLink RX6 15 "TagCarrier$Writer" "ranks" "[I" ∈ wsX6_rankOpening := List.mem_of_getElem? (i := 1) rfl
theorem mX6_rankOpening_inX6 : ∀ w ∈ u_ws RX6 TX6 3, w ∈ wsX6_rankOpening := by decide +kernel
theorem mX6_rankOpening_2 : Cond.fieldLink RX6 53 "TagCarrier$PairPlacer" "to" "[I" ∈ wsX6_rankOpening := List.mem_of_getElem? (i := 2) rfl
theorem mX6_rankOpening_inX2 : ∀ w ∈ u_ws RX2 TX2 8, w ∈ wsX6_rankOpening := by decide +kernel
set_option maxHeartbeats 4000000 in
set_option maxRecDepth 100000 in
theorem c_X6_rankOpening (l : Launch) (D : va_G) (cy : Nat → ClassId) (a : Nat → Nat) (I : xw_I) (F : xw_F) (G : xw_G) (post : xw_I → xw_F → xw_G → Prop) (h : sm_X6_rankOpening I F G post) : xw_Wv l yX6_rankOpening wsX6_rankOpening ({ frames := 2, cells := 0, slots := 0, locals := 41 }) D cy [.ref (a 36), .ref (a 12), .ref (a 25)] (xC_w cy a I F G) (xC_w cy a) post := by
  intro A
  refine Met.ofW (cc := cX6_rankOpening) (maxL := 4) (ret := none) (by decide) rfl ?_
  intro p e s m args below meth c s₁ B hml hv
  obtain ⟨rfl, hP, hB, hD⟩ := hv
  have hP : va_P D vwCl (xC_w cy a I F G) s.heap := hP
  have hx := B.exec
  have hb := B.bytes
  have hr := B.returns
  have hts := atoms_spec (ws := wsX6_rankOpening) B.pre
  have hown : s.vm.findClass RX6 = some m.cls := findClass_of_methodNamed B.named
  have hlocks := B.notSynchronized
  have hS : va_S A s.heap s.heap [] := va_S.rf
  refine xw_go (fun WW hWW => ?_)
  have hl := lv_entry ([.ref (a 36), .ref (a 12), .ref (a 25)]) (n := 4) (Nat.le_of_ble_eq_true rfl)
  rw [lg_entry_eq]
  generalize (lg_sl ([.ref (a 36), .ref (a 12), .ref (a 25)]) ++ List.replicate (4 - (lg_sl ([.ref (a 36), .ref (a 12), .ref (a 25)])).length) Slot.unset).toArray = ls at hl ⊢
  have hl : lv_has ls 4 [(0, .ref (a 36)), (1, .ref (a 12)), (2, .ref (a 25))] := hl
  obtain ⟨k2, mk2, el2⟩ : ∃ K : Int32 → xw_I → xw_F → xw_G → Prop, (∀ (y3 : Int32) (I : xw_I) (F : xw_F) (G : xw_G), (∀ (H : Heap) (locs : List Loc) (ls : Array Slot), va_P D vwCl (xC_w cy a I F G) H → va_D A (xC_w cy a I F G) → va_S A s.heap H locs → lv_has ls 4 [(0, .ref (a 36)), (1, .ref (a 12)), (2, .ref (a 25)), (3, .int y3)] → WW H locs (F0 m 2 ls [])) → K y3 I F G) ∧ (∀ (y3 : Int32) (I : xw_I) (F : xw_F) (G : xw_G), K y3 I F G → (∀ (H : Heap) (locs : List Loc) (ls : Array Slot), va_P D vwCl (xC_w cy a I F G) H → va_D A (xC_w cy a I F G) → va_S A s.heap H locs → lv_has ls 4 [(0, .ref (a 36)), (1, .ref (a 12)), (2, .ref (a 25)), (3, .int y3)] → WW H locs (F0 m 2 ls []))) := ⟨fun (y3 : Int32) (I : xw_I) (F : xw_F) (G : xw_G) => (∀ (H : Heap) (locs : List Loc) (ls : Array Slot), va_P D vwCl (xC_w cy a I F G) H → va_D A (xC_w cy a I F G) → va_S A s.heap H locs → lv_has ls 4 [(0, .ref (a 36)), (1, .ref (a 12)), (2, .ref (a 25)), (3, .int y3)] → WW H locs (F0 m 2 ls [])), fun _ _ _ _ h => h, fun _ _ _ _ h => h⟩
  have rl2 : ∀ (y3 : Int32) (I : xw_I) (F : xw_F) (G : xw_G), (bd_X6_rankOpening_2 post k2 y3 I F G) → k2 y3 I F G := by
    intro y3 I F G h
    refine mk2 _ _ _ _ ?_
    intro H locs ls hP hD hS hl
    refine (hWW _ _ _).mpr ?_
    unfold bd_X6_rankOpening_2 at h
    refine lv_iload_n hx hb dX6_rankOpening_2 rfl (lv_at hl 3 rfl) ?_
    refine lv_iconst (v := 5) hx hb dX6_rankOpening_3 (by decide) ?_
    refine lv_icmp_ge (tgt := 37) hx hb dX6_rankOpening_4 (by decide) (fun c5 => ?_) (fun c5 => ?_)
    · have h := h.1 c5
      exact xw_wretv hx hb hr hlocks hP hD hS h dX6_rankOpening_37
    · have h := h.2 c5
      refine lv_aload_n hx hb dX6_rankOpening_7 rfl (lv_at hl 0 rfl) ?_
      refine va_get (D := D) (ci := 6) (v := .ref (a 38)) (C := RX6) (T := TX6) (N := 3) hx hb hts mX6_rankOpening_inX6 hown hB.1 hP 36 xC_c36 rfl 2 (by decide) (hts _ mX6_rankOpening_1) (fun _ h9 => h9) rfl dX6_rankOpening_8 ?_
      refine lv_iload_n hx hb dX6_rankOpening_11 rfl (lv_at hl 3 rfl) ?_
      refine lv_aload_n hx hb dX6_rankOpening_12 rfl (lv_at hl 2 rfl) ?_
      refine va_get (D := D) (ci := 2) (v := .ref (a 27)) (C := RX2) (T := TX2) (N := 8) hx hb hts mX6_rankOpening_inX2 hown hB.1 hP 25 xC_c25 rfl 1 (by decide) (hts _ mX6_rankOpening_2) (fun _ h9 => h9) rfl dX6_rankOpening_13 ?_
      refine lv_iload_n hx hb dX6_rankOpening_16 rfl (lv_at hl 3 rfl) ?_
      refine xw_iald hx hb hB hP 27 xC_c27 h.1 dX6_rankOpening_17 (fun v6 ev6 => ?_)
      have h := h.2 v6 ev6
      refine lv_iconst (v := 5) hx hb dX6_rankOpening_18 (by decide) ?_
      refine lv_imul hx hb dX6_rankOpening_19 ?_
      refine lv_aload_n hx hb dX6_rankOpening_20 rfl (lv_at hl 1 rfl) ?_
      refine lv_iload_n hx hb dX6_rankOpening_21 rfl (lv_at hl 3 rfl) ?_
      refine xw_ri (va_runV (rm := { frames := 1, cells := 0, slots := 0, locals := 20 }) (As := [.int y3]) (rest := [.int (v6 * (5 : Int32)), .int y3, .ref (a 38)]) ⟨hx, hb, hml, hown, hts⟩ (c_X4_depth l D cy a y3 I F G _ h A) (cwV 1 hts gX6_rankOpening_X4_depth rfl rfl rfl (by decide +kernel) ⟨Nat.le_of_ble_eq_true rfl, Nat.le_of_ble_eq_true rfl⟩) (xw_preV hB hP hD (ci := 4) rfl xC_c12) rfl rfl hl.1 rfl (lv_room (Nat.le_of_ble_eq_true rfl)) dX6_rankOpening_22 ⟨Nat.le_of_ble_eq_true rfl, Nat.le_of_ble_eq_true rfl⟩) (fun r7 h => ?_)
      refine lv_isub hx hb dX6_rankOpening_25 ?_
      refine lv_iconst (v := 5) hx hb dX6_rankOpening_26 (by decide) ?_
      refine lv_imul hx hb dX6_rankOpening_27 ?_
      refine lv_iload_n hx hb dX6_rankOpening_28 rfl (lv_at hl 3 rfl) ?_
      refine lv_isub hx hb dX6_rankOpening_29 ?_
      refine xw_iast hx hb hB hP hD hS 38 xC_c38 h.1 xC_f38 dX6_rankOpening_30 (fun H locs hP hD hS => ?_)
      have h := h.2
      obtain ⟨F8, eF8⟩ : ∃ f : xw_F, f = xw_up F 38 (upd (F 38) y3.toNatClampNeg ((((v6 * (5 : Int32)) - r7) * (5 : Int32)) - y3)) := ⟨_, rfl⟩
      rw [← eF8] at hP hD
      have h := h F8 eF8
      obtain ⟨v9, ev9⟩ : ∃ y : Int32, y = y3 + 1 := ⟨_, rfl⟩
      have h := h v9 ev9
      refine lv_iinc (v := v9) (lv' := [(3, .int v9), (0, .ref (a 36)), (1, .ref (a 12)), (2, .ref (a 25))]) hx hb dX6_rankOpening_31 hl (k := 3) rfl (by rw [ev9]; rfl) (by decide) rfl (fun ls hl => ?_)
      refine lv_goto (tgt := 2) hx hb dX6_rankOpening_34 (by decide) ?_
      exact (hWW _ _ _).mp (el2 _ _ _ _ h _ _ ls hP hD hS (lv_sub hl [1, 2, 3, 0] rfl))
  have h := h k2 rl2
  unfold bd_X6_rankOpening_0 at h
  refine lv_iconst (v := 0) hx hb dX6_rankOpening_0 (by decide) ?_
  refine lv_istore_n (lv' := [(3, .int (0 : Int32)), (0, .ref (a 36)), (1, .ref (a 12)), (2, .ref (a 25))]) hx hb dX6_rankOpening_1 rfl hl (by decide) rfl (fun ls hl => ?_)
  exact (hWW _ _ _).mp (el2 _ _ _ _ h _ _ ls hP hD hS (lv_sub hl [1, 2, 3, 0] rfl))

theorem mX6_greatestRank_3 : Cond.initialized RX7 ∈ wsX6_greatestRank := List.mem_of_getElem? (i := 3) rfl
theorem mX6_greatestRank_2 : Cond.static yX7_has ∈ wsX6_greatestRank := List.mem_of_getElem? (i := 2) rfl
theorem mX6_greatestRank_1 : Cond.fieldLink RX6 15 "TagCarrier$Writer" "ranks" "[I" ∈ wsX6_greatestRank := List.mem_of_getElem? (i := 1) rfl
theorem mX6_greatestRank_inX6 : ∀ w ∈ u_ws RX6 TX6 3, w ∈ wsX6_greatestRank := by decide +kernel
set_option maxHeartbeats 4000000 in
set_option maxRecDepth 100000 in
theorem c_X6_greatestRank (l : Launch) (D : va_G) (cy : Nat → ClassId) (a : Nat → Nat) (x1 : Int32) (I : xw_I) (F : xw_F) (G : xw_G) (post : Int32 → Prop) (h : sm_X6_greatestRank x1 I F G post) : xw_Ri l yX6_greatestRank wsX6_greatestRank ({ frames := 1, cells := 0, slots := 0, locals := 21 }) D cy [.ref (a 36), .int x1] (xC_w cy a I F G) post := by
  intro A
  refine Met.ofW (cc := cX6_greatestRank) (maxL := 4) (ret := (some .int)) (by decide) rfl ?_
  intro p e s m args below meth c s₁ B hml hv
  obtain ⟨rfl, hP, hB, hD⟩ := hv
  have hP : va_P D vwCl (xC_w cy a I F G) s.heap := hP
  have hx := B.exec
  have hb := B.bytes
  have hr := B.returns
  have hts := atoms_spec (ws := wsX6_greatestRank) B.pre
  have hown : s.vm.findClass RX6 = some m.cls := findClass_of_methodNamed B.named
  have hlocks := B.notSynchronized
  refine xw_go (fun WW hWW => ?_)
  have hl := lv_entry ([.ref (a 36), .int x1]) (n := 4) (Nat.le_of_ble_eq_true rfl)
  rw [lg_entry_eq]
  generalize (lg_sl ([.ref (a 36), .int x1]) ++ List.replicate (4 - (lg_sl ([.ref (a 36), .int x1])).length) Slot.unset).toArray = ls at hl ⊢
  have hl : lv_has ls 4 [(0, .ref (a 36)), (1, .int x1)] := hl
  obtain ⟨k4, mk4, el4⟩ : ∃ K : Int32 → Int32 → Prop, (∀ (y2 : Int32) (y3 : Int32), (∀ (ls : Array Slot), lv_has ls 4 [(0, .ref (a 36)), (1, .int x1), (2, .int y2), (3, .int y3)] → WW s.heap [] (F0 m 4 ls [])) → K y2 y3) ∧ (∀ (y2 : Int32) (y3 : Int32), K y2 y3 → (∀ (ls : Array Slot), lv_has ls 4 [(0, .ref (a 36)), (1, .int x1), (2, .int y2), (3, .int y3)] → WW s.heap [] (F0 m 4 ls []))) := ⟨fun (y2 : Int32) (y3 : Int32) => (∀ (ls : Array Slot), lv_has ls 4 [(0, .ref (a 36)), (1, .int x1), (2, .int y2), (3, .int y3)] → WW s.heap [] (F0 m 4 ls [])), fun _ _ h => h, fun _ _ h => h⟩
  have rl4 : ∀ (y2 : Int32) (y3 : Int32), (bd_X6_greatestRank_4 x1 I F G post k4 y2 y3) → k4 y2 y3 := by
    intro y2 y3 h
    refine mk4 _ _ ?_
    intro ls hl
    refine (hWW _ _ _).mpr ?_
    unfold bd_X6_greatestRank_4 at h
    refine lv_iload_n hx hb dX6_greatestRank_4 rfl (lv_at hl 3 rfl) ?_
    refine lv_iconst (v := 5) hx hb dX6_greatestRank_5 (by decide) ?_
    refine lv_icmp_ge (tgt := 44) hx hb dX6_greatestRank_6 (by decide) (fun c11 => ?_) (fun c11 => ?_)
    · have h := h.1 c11
      refine lv_iload_n hx hb dX6_greatestRank_44 rfl (lv_at hl 2 rfl) ?_
      exact xw_ireti hx hb hr hlocks h dX6_greatestRank_45
    · have h := h.2 c11
      refine lv_iload_n hx hb dX6_greatestRank_9 rfl (lv_at hl 1 rfl) ?_
      refine lv_iload_n hx hb dX6_greatestRank_10 rfl (lv_at hl 3 rfl) ?_
      refine xw_ri (va_runSN (rm := { frames := 0, cells := 0, slots := 0, locals := 0 }) (As := [.int x1, .int y3]) (rest := []) ⟨hx, hb, hml, hown, hts⟩ (c_X7_has l D cy x1 y3 _ h (fun _ => True)) (⟨va_cnB 2 hts gX6_greatestRank_X7_has_n44 rfl rfl rfl (hB.2 12 _ rfl) (hts _ mX6_greatestRank_3) (by decide +kernel) ⟨Nat.le_of_ble_eq_true rfl, Nat.le_of_ble_eq_true rfl⟩, hts _ mX6_greatestRank_2, trivial⟩) (xw_preS hB xw_P0 (xw_D0 (A := fun _ => True))) rfl rfl hl.1 rfl (lv_room (Nat.le_of_ble_eq_true rfl)) dX6_greatestRank_11 ⟨Nat.le_of_ble_eq_true rfl, Nat.le_of_ble_eq_true rfl⟩) (fun r12 h => ?_)
      refine lv_if_eq (tgt := 38) hx hb dX6_greatestRank_14 (by decide) (fun c13 => ?_) (fun c13 => ?_)
      · have h := h.1 c13
        obtain ⟨v14, ev14⟩ : ∃ y : Int32, y = y3 + 1 := ⟨_, rfl⟩
        have h := h v14 ev14
        refine lv_iinc (v := v14) (lv' := [(3, .int v14), (0, .ref (a 36)), (1, .int x1), (2, .int y2)]) hx hb dX6_greatestRank_38 hl (k := 3) rfl (by rw [ev14]; rfl) (by decide) rfl (fun ls hl => ?_)
        refine lv_goto (tgt := 4) hx hb dX6_greatestRank_41 (by decide) ?_
        exact (hWW _ _ _).mp (el4 _ _ h ls (lv_sub hl [1, 2, 3, 0] rfl))
      · have h := h.2 c13
        refine lv_iload_n hx hb dX6_greatestRank_17 rfl (lv_at hl 2 rfl) ?_
        refine lv_if_lt (tgt := 36) hx hb dX6_greatestRank_18 (by decide) (fun c15 => ?_) (fun c15 => ?_)
        · have h := h.1 c15
          refine lv_iload_n hx hb dX6_greatestRank_36 rfl (lv_at hl 3 rfl) ?_
          refine lv_istore_n (lv' := [(2, .int y3), (0, .ref (a 36)), (1, .int x1), (3, .int y3)]) hx hb dX6_greatestRank_37 rfl hl (by decide) rfl (fun ls hl => ?_)
          obtain ⟨v16, ev16⟩ : ∃ y : Int32, y = y3 + 1 := ⟨_, rfl⟩
          have h := h v16 ev16
          refine lv_iinc (v := v16) (lv' := [(3, .int v16), (2, .int y3), (0, .ref (a 36)), (1, .int x1)]) hx hb dX6_greatestRank_38 hl (k := 3) rfl (by rw [ev16]; rfl) (by decide) rfl (fun ls hl => ?_)
          refine lv_goto (tgt := 4) hx hb dX6_greatestRank_41 (by decide) ?_
          exact (hWW _ _ _).mp (el4 _ _ h ls (lv_sub hl [2, 3, 1, 0] rfl))
        · have h := h.2 c15
          refine lv_aload_n hx hb dX6_greatestRank_21 rfl (lv_at hl 0 rfl) ?_
          refine va_get (D := D) (ci := 6) (v := .ref (a 38)) (C := RX6) (T := TX6) (N := 3) hx hb hts mX6_greatestRank_inX6 hown hB.1 hP 36 xC_c36 rfl 2 (by decide) (hts _ mX6_greatestRank_1) (fun _ h9 => h9) rfl dX6_greatestRank_22 ?_
          refine lv_iload_n hx hb dX6_greatestRank_25 rfl (lv_at hl 3 rfl) ?_
          refine xw_iald hx hb hB hP 38 xC_c38 h.1 dX6_greatestRank_26 (fun v17 ev17 => ?_)
          have h := h.2 v17 ev17
          refine lv_aload_n hx hb dX6_greatestRank_27 rfl (lv_at hl 0 rfl) ?_
          refine va_get (D := D) (ci := 6) (v := .ref (a 38)) (C := RX6) (T := TX6) (N := 3) hx hb hts mX6_greatestRank_inX6 hown hB.1 hP 36 xC_c36 rfl 2 (by decide) (hts _ mX6_greatestRank_1) (fun _ h9 => h9) rfl dX6_greatestRank_28 ?_
          refine lv_iload_n hx hb dX6_greatestRank_31 rfl (lv_at hl 2 rfl) ?_
          refine xw_iald hx hb hB hP 38 xC_c38 h.1 dX6_greatestRank_32 (fun v18 ev18 => ?_)
          have h := h.2 v18 ev18
          refine lv_icmp_le (tgt := 38) hx hb dX6_greatestRank_33 (by decide) (fun c19 => ?_) (fun c19 => ?_)
          · have h := h.1 c19
            obtain ⟨v20, ev20⟩ : ∃ y : Int32, y = y3 + 1 := ⟨_, rfl⟩
            have h := h v20 ev20
            refine lv_iinc (v := v20) (lv' := [(3, .int v20), (0, .ref (a 36)), (1, .int x1), (2, .int y2)]) hx hb dX6_greatestRank_38 hl (k := 3) rfl (by rw [ev20]; rfl) (by decide) rfl (fun ls hl => ?_)
            refine lv_goto (tgt := 4) hx hb dX6_greatestRank_41 (by decide) ?_
            exact (hWW _ _ _).mp (el4 _ _ h ls (lv_sub hl [1, 2, 3, 0] rfl))
          · have h := h.2 c19
            refine lv_iload_n hx hb dX6_greatestRank_36 rfl (lv_at hl 3 rfl) ?_
            refine lv_istore_n (lv' := [(2, .int y3), (0, .ref (a 36)), (1, .int x1), (3, .int y3)]) hx hb dX6_greatestRank_37 rfl hl (by decide) rfl (fun ls hl => ?_)
            obtain ⟨v21, ev21⟩ : ∃ y : Int32, y = y3 + 1 := ⟨_, rfl⟩
            have h := h v21 ev21
            refine lv_iinc (v := v21) (lv' := [(3, .int v21), (2, .int y3), (0, .ref (a 36)), (1, .int x1)]) hx hb dX6_greatestRank_38 hl (k := 3) rfl (by rw [ev21]; rfl) (by decide) rfl (fun ls hl => ?_)
            refine lv_goto (tgt := 4) hx hb dX6_greatestRank_41 (by decide) ?_
            exact (hWW _ _ _).mp (el4 _ _ h ls (lv_sub hl [2, 3, 1, 0] rfl))
  have h := h k4 rl4
  unfold bd_X6_greatestRank_0 at h
  refine lv_iconst (v := -1) hx hb dX6_greatestRank_0 (by decide) ?_
  refine lv_istore_n (lv' := [(2, .int (-1 : Int32)), (0, .ref (a 36)), (1, .int x1)]) hx hb dX6_greatestRank_1 rfl hl (by decide) rfl (fun ls hl => ?_)
  refine lv_iconst (v := 0) hx hb dX6_greatestRank_2 (by decide) ?_
  refine lv_istore_n (lv' := [(3, .int (0 : Int32)), (2, .int (-1 : Int32)), (0, .ref (a 36)), (1, .int x1)]) hx hb dX6_greatestRank_3 rfl hl (by decide) rfl (fun ls hl => ?_)
  exact (hWW _ _ _).mp (el4 _ _ h ls (lv_sub hl [2, 3, 1, 0] rfl))

set_option maxHeartbeats 4000000 in
set_option maxRecDepth 100000 in
theorem c_X6_addRanked (l : Launch) (D : va_G) (cy : Nat → ClassId) (a : Nat → Nat) (x1 : Int32) (x2 : Int32) (I : xw_I) (F : xw_F) (G : xw_G) (post : xw_I → xw_F → xw_G → Prop) (h : sm_X6_addRanked x1 x2 I F G post) : xw_Wv l yX6_addRanked wsX6_addRanked ({ frames := 2, cells := 0, slots := 0, locals := 44 }) D cy [.ref (a 36), .int x1, .int x2] (xC_w cy a I F G) (xC_w cy a) post := by
  intro A
  refine Met.ofW (cc := cX6_addRanked) (maxL := 6) (ret := none) (by decide) rfl ?_
  intro p e s m args below meth c s₁ B hml hv
  obtain ⟨rfl, hP, hB, hD⟩ := hv
  have hP : va_P D vwCl (xC_w cy a I F G) s.heap := hP
  have hx := B.exec
  have hb := B.bytes
  have hr := B.returns
  have hts := atoms_spec (ws := wsX6_addRanked) B.pre
  have hown : s.vm.findClass RX6 = some m.cls := findClass_of_methodNamed B.named
  have hlocks := B.notSynchronized
  have hS : va_S A s.heap s.heap [] := va_S.rf
  refine xw_go (fun WW hWW => ?_)
  have hl := lv_entry ([.ref (a 36), .int x1, .int x2]) (n := 6) (Nat.le_of_ble_eq_true rfl)
  rw [lg_entry_eq]
  generalize (lg_sl ([.ref (a 36), .int x1, .int x2]) ++ List.replicate (6 - (lg_sl ([.ref (a 36), .int x1, .int x2])).length) Slot.unset).toArray = ls at hl ⊢
  have hl : lv_has ls 6 [(0, .ref (a 36)), (1, .int x1), (2, .int x2)] := hl
  obtain ⟨k5, mk5, el5⟩ : ∃ K : Int32 → Int32 → xw_I → xw_F → xw_G → Prop, (∀ (y3 : Int32) (y4 : Int32) (I : xw_I) (F : xw_F) (G : xw_G), (∀ (H : Heap) (locs : List Loc) (ls : Array Slot), va_P D vwCl (xC_w cy a I F G) H → va_D A (xC_w cy a I F G) → va_S A s.heap H locs → lv_has ls 6 [(0, .ref (a 36)), (2, .int x2), (3, .int y3), (4, .int y4)] → WW H locs (F0 m 5 ls [])) → K y3 y4 I F G) ∧ (∀ (y3 : Int32) (y4 : Int32) (I : xw_I) (F : xw_F) (G : xw_G), K y3 y4 I F G → (∀ (H : Heap) (locs : List Loc) (ls : Array Slot), va_P D vwCl (xC_w cy a I F G) H → va_D A (xC_w cy a I F G) → va_S A s.heap H locs → lv_has ls 6 [(0, .ref (a 36)), (2, .int x2), (3, .int y3), (4, .int y4)] → WW H locs (F0 m 5 ls []))) := ⟨fun (y3 : Int32) (y4 : Int32) (I : xw_I) (F : xw_F) (G : xw_G) => (∀ (H : Heap) (locs : List Loc) (ls : Array Slot), va_P D vwCl (xC_w cy a I F G) H → va_D A (xC_w cy a I F G) → va_S A s.heap H locs → lv_has ls 6 [(0, .ref (a 36)), (2, .int x2), (3, .int y3), (4, .int y4)] → WW H locs (F0 m 5 ls [])), fun _ _ _ _ _ h => h, fun _ _ _ _ _ h => h⟩
  have rl5 : ∀ (y3 : Int32) (y4 : Int32) (I : xw_I) (F : xw_F) (G : xw_G), (bd_X6_addRanked_5 x1 x2 post k5 y3 y4 I F G) → k5 y3 y4 I F G := by
    intro y3 y4 I F G h
    refine mk5 _ _ _ _ _ ?_
    intro H locs ls hP hD hS hl
    refine (hWW _ _ _).mpr ?_
    unfold bd_X6_addRanked_5 at h
    refine lv_iload hx hb dX6_addRanked_5 (lv_at hl 3 rfl) ?_
    refine lv_iconst (v := 5) hx hb dX6_addRanked_7 (by decide) ?_
    refine lv_icmp_ge (tgt := 45) hx hb dX6_addRanked_8 (by decide) (fun c5 => ?_) (fun c5 => ?_)
    · have h := h.1 c5
      exact xw_wretv hx hb hr hlocks hP hD hS h dX6_addRanked_45
    · have h := h.2 c5
      refine lv_iload_n hx hb dX6_addRanked_11 rfl (lv_at hl 2 rfl) ?_
      refine lv_if_eq (tgt := 45) hx hb dX6_addRanked_12 (by decide) (fun c6 => ?_) (fun c6 => ?_)
      · have h := h.1 c6
        exact xw_wretv hx hb hr hlocks hP hD hS h dX6_addRanked_45
      · have h := h.2 c6
        refine lv_aload_n hx hb dX6_addRanked_15 rfl (lv_at hl 0 rfl) ?_
        refine lv_iload_n hx hb dX6_addRanked_16 rfl (lv_at hl 2 rfl) ?_
        refine xw_ri (va_runV (rm := { frames := 1, cells := 0, slots := 0, locals := 21 }) (As := [.int y3]) (rest := []) ⟨hx, hb, hml, hown, hts⟩ (c_X6_greatestRank l D cy a y3 I F G _ h A) (cwV 1 hts gX6_addRanked_X6_greatestRank rfl rfl rfl (by decide +kernel) ⟨Nat.le_of_ble_eq_true rfl, Nat.le_of_ble_eq_true rfl⟩) (xw_preV hB hP hD (ci := 6) rfl xC_c36) rfl rfl hl.1 rfl (lv_room (Nat.le_of_ble_eq_true rfl)) dX6_addRanked_17 ⟨Nat.le_of_ble_eq_true rfl, Nat.le_of_ble_eq_true rfl⟩) (fun r7 h => ?_)
        refine lv_istore (lv' := [(5, .int r7), (0, .ref (a 36)), (2, .int x2), (3, .int y3), (4, .int y4)]) hx hb dX6_addRanked_20 hl (by decide) rfl (fun ls hl => ?_)
        refine lv_aload_n hx hb dX6_addRanked_22 rfl (lv_at hl 1 rfl) ?_
        refine lv_iload_n hx hb dX6_addRanked_23 rfl (lv_at hl 2 rfl) ?_
        refine lv_iload hx hb dX6_addRanked_24 (lv_at hl 0 rfl) ?_
        refine lv_iadd hx hb dX6_addRanked_26 ?_
        refine xw_wv (va_runV (rm := { frames := 0, cells := 0, slots := 0, locals := 0 }) (As := [.int (x2 + r7)]) (rest := []) ⟨hx, hb, hml, hown, hts⟩ (c_X6_add l D cy a (x2 + r7) I F G _ h A) (cwV 1 hts gX6_addRanked_X6_add rfl rfl rfl (by decide +kernel) ⟨Nat.le_of_ble_eq_true rfl, Nat.le_of_ble_eq_true rfl⟩) (xw_preV hB hP hD (ci := 6) rfl xC_c36) rfl rfl hl.1 rfl (lv_room (Nat.le_of_ble_eq_true rfl)) dX6_addRanked_27 ⟨Nat.le_of_ble_eq_true rfl, Nat.le_of_ble_eq_true rfl⟩) hS (fun I8 F8 G8 H locs h hP hD hS => ?_)
        refine lv_iload_n hx hb dX6_addRanked_30 rfl (lv_at hl 3 rfl) ?_
        refine lv_iconst (v := 1) hx hb dX6_addRanked_31 (by decide) ?_
        refine lv_iload hx hb dX6_addRanked_32 (lv_at hl 0 rfl) ?_
        refine lv_ishl hx hb dX6_addRanked_34 ?_
        refine lv_iconst (v := -1) hx hb dX6_addRanked_35 (by decide) ?_
        refine lv_ixor hx hb dX6_addRanked_36 ?_
        refine lv_iand hx hb dX6_addRanked_37 ?_
        refine lv_topi (fun v9 ev9 => ?_)
        have h := h v9 ev9
        refine lv_istore_n (lv' := [(3, .int v9), (5, .int r7), (0, .ref (a 36)), (2, .int x2), (4, .int y4)]) hx hb dX6_addRanked_38 rfl hl (by decide) rfl (fun ls hl => ?_)
        obtain ⟨v10, ev10⟩ : ∃ y : Int32, y = y4 + 1 := ⟨_, rfl⟩
        have h := h v10 ev10
        refine lv_iinc (v := v10) (lv' := [(4, .int v10), (3, .int v9), (5, .int r7), (0, .ref (a 36)), (2, .int x2)]) hx hb dX6_addRanked_39 hl (k := 4) rfl (by rw [ev10]; rfl) (by decide) rfl (fun ls hl => ?_)
        refine lv_goto (tgt := 5) hx hb dX6_addRanked_42 (by decide) ?_
        exact (hWW _ _ _).mp (el5 _ _ _ _ _ h _ _ ls hP hD hS (lv_sub hl [3, 4, 1, 0] rfl))
  have h := h k5 rl5
  unfold bd_X6_addRanked_0 at h
  refine lv_iload_n hx hb dX6_addRanked_0 rfl (lv_at hl 1 rfl) ?_
  refine lv_istore_n (lv' := [(3, .int x1), (0, .ref (a 36)), (1, .int x1), (2, .int x2)]) hx hb dX6_addRanked_1 rfl hl (by decide) rfl (fun ls hl => ?_)
  refine lv_iconst (v := 0) hx hb dX6_addRanked_2 (by decide) ?_
  refine lv_istore (lv' := [(4, .int (0 : Int32)), (3, .int x1), (0, .ref (a 36)), (1, .int x1), (2, .int x2)]) hx hb dX6_addRanked_3 hl (by decide) rfl (fun ls hl => ?_)
  exact (hWW _ _ _).mp (el5 _ _ _ _ _ h _ _ ls hP hD hS (lv_sub hl [2, 4, 1, 0] rfl))

theorem mX6_addMarks_1 : Cond.fieldLink RX6 88 "TagCarrier$Source" "markCount" "I" ∈ wsX6_addMarks := List.mem_of_getElem? (i := 1) rfl
theorem mX6_addMarks_inX4 : ∀ w ∈ u_ws RX4 TX4 12, w ∈ wsX6_addMarks := by decide +kernel
theorem mX6_addMarks_2 : Cond.fieldLink RX6 91 "TagCarrier$Source" "markRow" "[I" ∈ wsX6_addMarks := List.mem_of_getElem? (i := 2) rfl
theorem mX6_addMarks_3 : Cond.fieldLink RX6 94 "TagCarrier$MarkPlacer" "at" "[I" ∈ wsX6_addMarks := List.mem_of_getElem? (i := 3) rfl
theorem mX6_addMarks_inX0 : ∀ w ∈ u_ws RX0 TX0 4, w ∈ wsX6_addMarks := by decide +kernel
set_option maxHeartbeats 4000000 in
set_option maxRecDepth 100000 in
theorem c_X6_addMarks (l : Launch) (D : va_G) (cy : Nat → ClassId) (a : Nat → Nat) (x3 : Int32) (I : xw_I) (F : xw_F) (G : xw_G) (post : xw_I → xw_F → xw_G → Prop) (h : sm_X6_addMarks x3 I F G post) : xw_Wv l yX6_addMarks wsX6_addMarks ({ frames := 1, cells := 0, slots := 0, locals := 21 }) D cy [.ref (a 36), .ref (a 12), .ref (a 32), .int x3] (xC_w cy a I F G) (xC_w cy a) post := by
  intro A
  refine Met.ofW (cc := cX6_addMarks) (maxL := 6) (ret := none) (by decide) rfl ?_
  intro p e s m args below meth c s₁ B hml hv
  obtain ⟨rfl, hP, hB, hD⟩ := hv
  have hP : va_P D vwCl (xC_w cy a I F G) s.heap := hP
  have hx := B.exec
  have hb := B.bytes
  have hr := B.returns
  have hts := atoms_spec (ws := wsX6_addMarks) B.pre
  have hown : s.vm.findClass RX6 = some m.cls := findClass_of_methodNamed B.named
  have hlocks := B.notSynchronized
  have hS : va_S A s.heap s.heap [] := va_S.rf
  refine xw_go (fun WW hWW => ?_)
  have hl := lv_entry ([.ref (a 36), .ref (a 12), .ref (a 32), .int x3]) (n := 6) (Nat.le_of_ble_eq_true rfl)
  rw [lg_entry_eq]
  generalize (lg_sl ([.ref (a 36), .ref (a 12), .ref (a 32), .int x3]) ++ List.replicate (6 - (lg_sl ([.ref (a 36), .ref (a 12), .ref (a 32), .int x3])).length) Slot.unset).toArray = ls at hl ⊢
  have hl : lv_has ls 6 [(0, .ref (a 36)), (1, .ref (a 12)), (2, .ref (a 32)), (3, .int x3)] := hl
  obtain ⟨k3, mk3, el3⟩ : ∃ K : Int32 → xw_I → xw_F → xw_G → Prop, (∀ (y4 : Int32) (I : xw_I) (F : xw_F) (G : xw_G), (∀ (H : Heap) (locs : List Loc) (ls : Array Slot), va_P D vwCl (xC_w cy a I F G) H → va_D A (xC_w cy a I F G) → va_S A s.heap H locs → lv_has ls 6 [(0, .ref (a 36)), (1, .ref (a 12)), (2, .ref (a 32)), (3, .int x3), (4, .int y4)] → WW H locs (F0 m 3 ls [])) → K y4 I F G) ∧ (∀ (y4 : Int32) (I : xw_I) (F : xw_F) (G : xw_G), K y4 I F G → (∀ (H : Heap) (locs : List Loc) (ls : Array Slot), va_P D vwCl (xC_w cy a I F G) H → va_D A (xC_w cy a I F G) → va_S A s.heap H locs → lv_has ls 6 [(0, .ref (a 36)), (1, .ref (a 12)), (2, .ref (a 32)), (3, .int x3), (4, .int y4)] → WW H locs (F0 m 3 ls []))) := ⟨fun (y4 : Int32) (I : xw_I) (F : xw_F) (G : xw_G) => (∀ (H : Heap) (locs : List Loc) (ls : Array Slot), va_P D vwCl (xC_w cy a I F G) H → va_D A (xC_w cy a I F G) → va_S A s.heap H locs → lv_has ls 6 [(0, .ref (a 36)), (1, .ref (a 12)), (2, .ref (a 32)), (3, .int x3), (4, .int y4)] → WW H locs (F0 m 3 ls [])), fun _ _ _ _ h => h, fun _ _ _ _ h => h⟩
  have rl3 : ∀ (y4 : Int32) (I : xw_I) (F : xw_F) (G : xw_G), (bd_X6_addMarks_3 x3 post k3 y4 I F G) → k3 y4 I F G := by
    intro y4 I F G h
    refine mk3 _ _ _ _ ?_
    intro H locs ls hP hD hS hl
    refine (hWW _ _ _).mpr ?_
    unfold bd_X6_addMarks_3 at h
    refine lv_iload hx hb dX6_addMarks_3 (lv_at hl 4 rfl) ?_
    refine lv_aload_n hx hb dX6_addMarks_5 rfl (lv_at hl 1 rfl) ?_
    refine va_get (D := D) (ci := 4) (v := .int (I 10)) (C := RX4) (T := TX4) (N := 12) hx hb hts mX6_addMarks_inX4 hown hB.1 hP 12 xC_c12 rfl 3 (by decide) (hts _ mX6_addMarks_1) (fun _ h9 => h9) rfl dX6_addMarks_6 ?_
    refine lv_icmp_ge (tgt := 47) hx hb dX6_addMarks_9 (by decide) (fun c7 => ?_) (fun c7 => ?_)
    · have h := h.1 c7
      exact xw_wretv hx hb hr hlocks hP hD hS h dX6_addMarks_47
    · have h := h.2 c7
      refine lv_aload_n hx hb dX6_addMarks_12 rfl (lv_at hl 1 rfl) ?_
      refine va_get (D := D) (ci := 4) (v := .ref (a 18)) (C := RX4) (T := TX4) (N := 12) hx hb hts mX6_addMarks_inX4 hown hB.1 hP 12 xC_c12 rfl 10 (by decide) (hts _ mX6_addMarks_2) (fun _ h9 => h9) rfl dX6_addMarks_13 ?_
      refine lv_iload hx hb dX6_addMarks_16 (lv_at hl 4 rfl) ?_
      refine xw_iald hx hb hB hP 18 xC_c18 h.1 dX6_addMarks_18 (fun v8 ev8 => ?_)
      have h := h.2 v8 ev8
      refine lv_istore (lv' := [(5, .int v8), (0, .ref (a 36)), (1, .ref (a 12)), (2, .ref (a 32)), (3, .int x3), (4, .int y4)]) hx hb dX6_addMarks_19 hl (by decide) rfl (fun ls hl => ?_)
      refine lv_aload_n hx hb dX6_addMarks_21 rfl (lv_at hl 3 rfl) ?_
      refine va_get (D := D) (ci := 0) (v := .ref (a 33)) (C := RX0) (T := TX0) (N := 4) hx hb hts mX6_addMarks_inX0 hown hB.1 hP 32 xC_c32 rfl 0 (by decide) (hts _ mX6_addMarks_3) (fun _ h9 => h9) rfl dX6_addMarks_22 ?_
      refine lv_iload hx hb dX6_addMarks_25 (lv_at hl 0 rfl) ?_
      refine xw_iald hx hb hB hP 33 xC_c33 h.1 dX6_addMarks_27 (fun v9 ev9 => ?_)
      have h := h.2 v9 ev9
      refine lv_iload_n hx hb dX6_addMarks_28 rfl (lv_at hl 4 rfl) ?_
      refine lv_icmp_ne (tgt := 41) hx hb dX6_addMarks_29 (by decide) (fun c10 => ?_) (fun c10 => ?_)
      · have h := h.1 c10
        obtain ⟨v11, ev11⟩ : ∃ y : Int32, y = y4 + 1 := ⟨_, rfl⟩
        have h := h v11 ev11
        refine lv_iinc (v := v11) (lv' := [(4, .int v11), (5, .int v8), (0, .ref (a 36)), (1, .ref (a 12)), (2, .ref (a 32)), (3, .int x3)]) hx hb dX6_addMarks_41 hl (k := 5) rfl (by rw [ev11]; rfl) (by decide) rfl (fun ls hl => ?_)
        refine lv_goto (tgt := 3) hx hb dX6_addMarks_44 (by decide) ?_
        exact (hWW _ _ _).mp (el3 _ _ _ _ h _ _ ls hP hD hS (lv_sub hl [2, 3, 4, 5, 0] rfl))
      · have h := h.2 c10
        refine lv_aload_n hx hb dX6_addMarks_32 rfl (lv_at hl 1 rfl) ?_
        refine lv_bipush (v := 120) hx hb dX6_addMarks_33 (by decide) ?_
        refine lv_iload hx hb dX6_addMarks_35 (lv_at hl 0 rfl) ?_
        refine lv_iadd hx hb dX6_addMarks_37 ?_
        refine xw_wv (va_runV (rm := { frames := 0, cells := 0, slots := 0, locals := 0 }) (As := [.int ((120 : Int32) + v8)]) (rest := []) ⟨hx, hb, hml, hown, hts⟩ (c_X6_add l D cy a ((120 : Int32) + v8) I F G _ h A) (cwV 1 hts gX6_addMarks_X6_add rfl rfl rfl (by decide +kernel) ⟨Nat.le_of_ble_eq_true rfl, Nat.le_of_ble_eq_true rfl⟩) (xw_preV hB hP hD (ci := 6) rfl xC_c36) rfl rfl hl.1 rfl (lv_room (Nat.le_of_ble_eq_true rfl)) dX6_addMarks_38 ⟨Nat.le_of_ble_eq_true rfl, Nat.le_of_ble_eq_true rfl⟩) hS (fun I12 F12 G12 H locs h hP hD hS => ?_)
        obtain ⟨v13, ev13⟩ : ∃ y : Int32, y = y4 + 1 := ⟨_, rfl⟩
        have h := h v13 ev13
        refine lv_iinc (v := v13) (lv' := [(4, .int v13), (5, .int v8), (0, .ref (a 36)), (1, .ref (a 12)), (2, .ref (a 32)), (3, .int x3)]) hx hb dX6_addMarks_41 hl (k := 5) rfl (by rw [ev13]; rfl) (by decide) rfl (fun ls hl => ?_)
        refine lv_goto (tgt := 3) hx hb dX6_addMarks_44 (by decide) ?_
        exact (hWW _ _ _).mp (el3 _ _ _ _ h _ _ ls hP hD hS (lv_sub hl [2, 3, 4, 5, 0] rfl))
  have h := h k3 rl3
  unfold bd_X6_addMarks_0 at h
  refine lv_iconst (v := 0) hx hb dX6_addMarks_0 (by decide) ?_
  refine lv_istore (lv' := [(4, .int (0 : Int32)), (0, .ref (a 36)), (1, .ref (a 12)), (2, .ref (a 32)), (3, .int x3)]) hx hb dX6_addMarks_1 hl (by decide) rfl (fun ls hl => ?_)
  exact (hWW _ _ _).mp (el3 _ _ _ _ h _ _ ls hP hD hS (lv_sub hl [1, 2, 3, 4, 0] rfl))

theorem mX6_writeGap_1 : Cond.fieldLink RX6 39 "TagCarrier$Source" "pairs" "I" ∈ wsX6_writeGap := List.mem_of_getElem? (i := 1) rfl
theorem mX6_writeGap_inX4 : ∀ w ∈ u_ws RX4 TX4 12, w ∈ wsX6_writeGap := by decide +kernel
theorem mX6_writeGap_5 : Cond.initialized RX7 ∈ wsX6_writeGap := List.mem_of_getElem? (i := 5) rfl
theorem mX6_writeGap_4 : Cond.static yX7_has ∈ wsX6_writeGap := List.mem_of_getElem? (i := 4) rfl
theorem mX6_writeGap_2 : Cond.fieldLink RX6 48 "TagCarrier$PairPlacer" "from" "[I" ∈ wsX6_writeGap := List.mem_of_getElem? (i := 2) rfl
theorem mX6_writeGap_inX2 : ∀ w ∈ u_ws RX2 TX2 8, w ∈ wsX6_writeGap := by decide +kernel
theorem mX6_writeGap_3 : Cond.fieldLink RX6 53 "TagCarrier$PairPlacer" "to" "[I" ∈ wsX6_writeGap := List.mem_of_getElem? (i := 3) rfl
set_option maxHeartbeats 4000000 in
set_option maxRecDepth 100000 in
theorem c_X6_writeGap (l : Launch) (D : va_G) (cy : Nat → ClassId) (a : Nat → Nat) (x4 : Int32) (I : xw_I) (F : xw_F) (G : xw_G) (post : xw_I → xw_F → xw_G → Prop) (h : sm_X6_writeGap x4 I F G post) : xw_Wv l yX6_writeGap wsX6_writeGap ({ frames := 3, cells := 0, slots := 0, locals := 69 }) D cy [.ref (a 36), .ref (a 12), .ref (a 25), .ref (a 32), .int x4] (xC_w cy a I F G) (xC_w cy a) post := by
  intro A
  refine Met.ofW (cc := cX6_writeGap) (maxL := 11) (ret := none) (by decide) rfl ?_
  intro p e s m args below meth c s₁ B hml hv
  obtain ⟨rfl, hP, hB, hD⟩ := hv
  have hP : va_P D vwCl (xC_w cy a I F G) s.heap := hP
  have hx := B.exec
  have hb := B.bytes
  have hr := B.returns
  have hts := atoms_spec (ws := wsX6_writeGap) B.pre
  have hown : s.vm.findClass RX6 = some m.cls := findClass_of_methodNamed B.named
  have hlocks := B.notSynchronized
  have hS : va_S A s.heap s.heap [] := va_S.rf
  refine xw_go (fun WW hWW => ?_)
  have hl := lv_entry ([.ref (a 36), .ref (a 12), .ref (a 25), .ref (a 32), .int x4]) (n := 11) (Nat.le_of_ble_eq_true rfl)
  rw [lg_entry_eq]
  generalize (lg_sl ([.ref (a 36), .ref (a 12), .ref (a 25), .ref (a 32), .int x4]) ++ List.replicate (11 - (lg_sl ([.ref (a 36), .ref (a 12), .ref (a 25), .ref (a 32), .int x4])).length) Slot.unset).toArray = ls at hl ⊢
  have hl : lv_has ls 11 [(0, .ref (a 36)), (1, .ref (a 12)), (2, .ref (a 25)), (3, .ref (a 32)), (4, .int x4)] := hl
  obtain ⟨k12, mk12, el12⟩ : ∃ K : Int32 → Int32 → Int32 → Int32 → xw_I → xw_F → xw_G → Prop, (∀ (y5 : Int32) (y6 : Int32) (y7 : Int32) (y8 : Int32) (I : xw_I) (F : xw_F) (G : xw_G), (∀ (H : Heap) (locs : List Loc) (ls : Array Slot), va_P D vwCl (xC_w cy a I F G) H → va_D A (xC_w cy a I F G) → va_S A s.heap H locs → lv_has ls 11 [(0, .ref (a 36)), (1, .ref (a 12)), (2, .ref (a 25)), (3, .ref (a 32)), (4, .int x4), (5, .int y5), (6, .int y6), (7, .int y7), (8, .int y8)] → WW H locs (F0 m 12 ls [])) → K y5 y6 y7 y8 I F G) ∧ (∀ (y5 : Int32) (y6 : Int32) (y7 : Int32) (y8 : Int32) (I : xw_I) (F : xw_F) (G : xw_G), K y5 y6 y7 y8 I F G → (∀ (H : Heap) (locs : List Loc) (ls : Array Slot), va_P D vwCl (xC_w cy a I F G) H → va_D A (xC_w cy a I F G) → va_S A s.heap H locs → lv_has ls 11 [(0, .ref (a 36)), (1, .ref (a 12)), (2, .ref (a 25)), (3, .ref (a 32)), (4, .int x4), (5, .int y5), (6, .int y6), (7, .int y7), (8, .int y8)] → WW H locs (F0 m 12 ls []))) := ⟨fun (y5 : Int32) (y6 : Int32) (y7 : Int32) (y8 : Int32) (I : xw_I) (F : xw_F) (G : xw_G) => (∀ (H : Heap) (locs : List Loc) (ls : Array Slot), va_P D vwCl (xC_w cy a I F G) H → va_D A (xC_w cy a I F G) → va_S A s.heap H locs → lv_has ls 11 [(0, .ref (a 36)), (1, .ref (a 12)), (2, .ref (a 25)), (3, .ref (a 32)), (4, .int x4), (5, .int y5), (6, .int y6), (7, .int y7), (8, .int y8)] → WW H locs (F0 m 12 ls [])), fun _ _ _ _ _ _ _ h => h, fun _ _ _ _ _ _ _ h => h⟩
  obtain ⟨k47, mk47, el47⟩ : ∃ K : Int32 → Int32 → Int32 → Int32 → Int32 → xw_I → xw_F → xw_G → Prop, (∀ (y5 : Int32) (y6 : Int32) (y7 : Int32) (y8 : Int32) (t0 : Int32) (I : xw_I) (F : xw_F) (G : xw_G), (∀ (H : Heap) (locs : List Loc) (ls : Array Slot), va_P D vwCl (xC_w cy a I F G) H → va_D A (xC_w cy a I F G) → va_S A s.heap H locs → lv_has ls 11 [(0, .ref (a 36)), (1, .ref (a 12)), (2, .ref (a 25)), (3, .ref (a 32)), (4, .int x4), (5, .int y5), (6, .int y6), (7, .int y7), (8, .int y8)] → WW H locs (F0 m 47 ls [.int t0])) → K y5 y6 y7 y8 t0 I F G) ∧ (∀ (y5 : Int32) (y6 : Int32) (y7 : Int32) (y8 : Int32) (t0 : Int32) (I : xw_I) (F : xw_F) (G : xw_G), K y5 y6 y7 y8 t0 I F G → (∀ (H : Heap) (locs : List Loc) (ls : Array Slot), va_P D vwCl (xC_w cy a I F G) H → va_D A (xC_w cy a I F G) → va_S A s.heap H locs → lv_has ls 11 [(0, .ref (a 36)), (1, .ref (a 12)), (2, .ref (a 25)), (3, .ref (a 32)), (4, .int x4), (5, .int y5), (6, .int y6), (7, .int y7), (8, .int y8)] → WW H locs (F0 m 47 ls [.int t0]))) := ⟨fun (y5 : Int32) (y6 : Int32) (y7 : Int32) (y8 : Int32) (t0 : Int32) (I : xw_I) (F : xw_F) (G : xw_G) => (∀ (H : Heap) (locs : List Loc) (ls : Array Slot), va_P D vwCl (xC_w cy a I F G) H → va_D A (xC_w cy a I F G) → va_S A s.heap H locs → lv_has ls 11 [(0, .ref (a 36)), (1, .ref (a 12)), (2, .ref (a 25)), (3, .ref (a 32)), (4, .int x4), (5, .int y5), (6, .int y6), (7, .int y7), (8, .int y8)] → WW H locs (F0 m 47 ls [.int t0])), fun _ _ _ _ _ _ _ _ h => h, fun _ _ _ _ _ _ _ _ h => h⟩
  obtain ⟨k66, mk66, el66⟩ : ∃ K : Int32 → Int32 → Int32 → Int32 → Int32 → Int32 → xw_I → xw_F → xw_G → Prop, (∀ (y5 : Int32) (y6 : Int32) (y7 : Int32) (y8 : Int32) (y9 : Int32) (t0 : Int32) (I : xw_I) (F : xw_F) (G : xw_G), (∀ (H : Heap) (locs : List Loc) (ls : Array Slot), va_P D vwCl (xC_w cy a I F G) H → va_D A (xC_w cy a I F G) → va_S A s.heap H locs → lv_has ls 11 [(0, .ref (a 36)), (1, .ref (a 12)), (2, .ref (a 25)), (3, .ref (a 32)), (4, .int x4), (5, .int y5), (6, .int y6), (7, .int y7), (8, .int y8), (9, .int y9)] → WW H locs (F0 m 66 ls [.int t0])) → K y5 y6 y7 y8 y9 t0 I F G) ∧ (∀ (y5 : Int32) (y6 : Int32) (y7 : Int32) (y8 : Int32) (y9 : Int32) (t0 : Int32) (I : xw_I) (F : xw_F) (G : xw_G), K y5 y6 y7 y8 y9 t0 I F G → (∀ (H : Heap) (locs : List Loc) (ls : Array Slot), va_P D vwCl (xC_w cy a I F G) H → va_D A (xC_w cy a I F G) → va_S A s.heap H locs → lv_has ls 11 [(0, .ref (a 36)), (1, .ref (a 12)), (2, .ref (a 25)), (3, .ref (a 32)), (4, .int x4), (5, .int y5), (6, .int y6), (7, .int y7), (8, .int y8), (9, .int y9)] → WW H locs (F0 m 66 ls [.int t0]))) := ⟨fun (y5 : Int32) (y6 : Int32) (y7 : Int32) (y8 : Int32) (y9 : Int32) (t0 : Int32) (I : xw_I) (F : xw_F) (G : xw_G) => (∀ (H : Heap) (locs : List Loc) (ls : Array Slot), va_P D vwCl (xC_w cy a I F G) H → va_D A (xC_w cy a I F G) → va_S A s.heap H locs → lv_has ls 11 [(0, .ref (a 36)), (1, .ref (a 12)), (2, .ref (a 25)), (3, .ref (a 32)), (4, .int x4), (5, .int y5), (6, .int y6), (7, .int y7), (8, .int y8), (9, .int y9)] → WW H locs (F0 m 66 ls [.int t0])), fun _ _ _ _ _ _ _ _ _ h => h, fun _ _ _ _ _ _ _ _ _ h => h⟩
  obtain ⟨k88, mk88, el88⟩ : ∃ K : Int32 → Int32 → Int32 → Int32 → Int32 → Int32 → Int32 → xw_I → xw_F → xw_G → Prop, (∀ (y6 : Int32) (y7 : Int32) (y8 : Int32) (y9 : Int32) (y10 : Int32) (t0 : Int32) (t1 : Int32) (I : xw_I) (F : xw_F) (G : xw_G), (∀ (H : Heap) (locs : List Loc) (ls : Array Slot), va_P D vwCl (xC_w cy a I F G) H → va_D A (xC_w cy a I F G) → va_S A s.heap H locs → lv_has ls 11 [(0, .ref (a 36)), (1, .ref (a 12)), (2, .ref (a 25)), (3, .ref (a 32)), (4, .int x4), (6, .int y6), (7, .int y7), (8, .int y8), (9, .int y9), (10, .int y10)] → WW H locs (F0 m 88 ls [.int t1, .int t0])) → K y6 y7 y8 y9 y10 t0 t1 I F G) ∧ (∀ (y6 : Int32) (y7 : Int32) (y8 : Int32) (y9 : Int32) (y10 : Int32) (t0 : Int32) (t1 : Int32) (I : xw_I) (F : xw_F) (G : xw_G), K y6 y7 y8 y9 y10 t0 t1 I F G → (∀ (H : Heap) (locs : List Loc) (ls : Array Slot), va_P D vwCl (xC_w cy a I F G) H → va_D A (xC_w cy a I F G) → va_S A s.heap H locs → lv_has ls 11 [(0, .ref (a 36)), (1, .ref (a 12)), (2, .ref (a 25)), (3, .ref (a 32)), (4, .int x4), (6, .int y6), (7, .int y7), (8, .int y8), (9, .int y9), (10, .int y10)] → WW H locs (F0 m 88 ls [.int t1, .int t0]))) := ⟨fun (y6 : Int32) (y7 : Int32) (y8 : Int32) (y9 : Int32) (y10 : Int32) (t0 : Int32) (t1 : Int32) (I : xw_I) (F : xw_F) (G : xw_G) => (∀ (H : Heap) (locs : List Loc) (ls : Array Slot), va_P D vwCl (xC_w cy a I F G) H → va_D A (xC_w cy a I F G) → va_S A s.heap H locs → lv_has ls 11 [(0, .ref (a 36)), (1, .ref (a 12)), (2, .ref (a 25)), (3, .ref (a 32)), (4, .int x4), (6, .int y6), (7, .int y7), (8, .int y8), (9, .int y9), (10, .int y10)] → WW H locs (F0 m 88 ls [.int t1, .int t0])), fun _ _ _ _ _ _ _ _ _ _ h => h, fun _ _ _ _ _ _ _ _ _ _ h => h⟩
  obtain ⟨k111, mk111, el111⟩ : ∃ K : Int32 → Int32 → Int32 → Int32 → Int32 → Int32 → Int32 → xw_I → xw_F → xw_G → Prop, (∀ (y5 : Int32) (y7 : Int32) (y8 : Int32) (y9 : Int32) (y10 : Int32) (t0 : Int32) (t1 : Int32) (I : xw_I) (F : xw_F) (G : xw_G), (∀ (H : Heap) (locs : List Loc) (ls : Array Slot), va_P D vwCl (xC_w cy a I F G) H → va_D A (xC_w cy a I F G) → va_S A s.heap H locs → lv_has ls 11 [(0, .ref (a 36)), (1, .ref (a 12)), (2, .ref (a 25)), (3, .ref (a 32)), (4, .int x4), (5, .int y5), (7, .int y7), (8, .int y8), (9, .int y9), (10, .int y10)] → WW H locs (F0 m 111 ls [.int t1, .int t0])) → K y5 y7 y8 y9 y10 t0 t1 I F G) ∧ (∀ (y5 : Int32) (y7 : Int32) (y8 : Int32) (y9 : Int32) (y10 : Int32) (t0 : Int32) (t1 : Int32) (I : xw_I) (F : xw_F) (G : xw_G), K y5 y7 y8 y9 y10 t0 t1 I F G → (∀ (H : Heap) (locs : List Loc) (ls : Array Slot), va_P D vwCl (xC_w cy a I F G) H → va_D A (xC_w cy a I F G) → va_S A s.heap H locs → lv_has ls 11 [(0, .ref (a 36)), (1, .ref (a 12)), (2, .ref (a 25)), (3, .ref (a 32)), (4, .int x4), (5, .int y5), (7, .int y7), (8, .int y8), (9, .int y9), (10, .int y10)] → WW H locs (F0 m 111 ls [.int t1, .int t0]))) := ⟨fun (y5 : Int32) (y7 : Int32) (y8 : Int32) (y9 : Int32) (y10 : Int32) (t0 : Int32) (t1 : Int32) (I : xw_I) (F : xw_F) (G : xw_G) => (∀ (H : Heap) (locs : List Loc) (ls : Array Slot), va_P D vwCl (xC_w cy a I F G) H → va_D A (xC_w cy a I F G) → va_S A s.heap H locs → lv_has ls 11 [(0, .ref (a 36)), (1, .ref (a 12)), (2, .ref (a 25)), (3, .ref (a 32)), (4, .int x4), (5, .int y5), (7, .int y7), (8, .int y8), (9, .int y9), (10, .int y10)] → WW H locs (F0 m 111 ls [.int t1, .int t0])), fun _ _ _ _ _ _ _ _ _ _ h => h, fun _ _ _ _ _ _ _ _ _ _ h => h⟩
  have rl12 : ∀ (y5 : Int32) (y6 : Int32) (y7 : Int32) (y8 : Int32) (I : xw_I) (F : xw_F) (G : xw_G), (bd_X6_writeGap_12 x4 post k12 k47 k66 k88 k111 y5 y6 y7 y8 I F G) → k12 y5 y6 y7 y8 I F G := by
    intro y5 y6 y7 y8 I F G h
    refine mk12 _ _ _ _ _ _ _ ?_
    intro H locs ls hP hD hS hl
    refine (hWW _ _ _).mpr ?_
    unfold bd_X6_writeGap_12 at h
    refine lv_iload hx hb dX6_writeGap_12 (lv_at hl 8 rfl) ?_
    refine lv_iconst (v := 5) hx hb dX6_writeGap_14 (by decide) ?_
    refine lv_icmp_ge (tgt := 143) hx hb dX6_writeGap_15 (by decide) (fun c24 => ?_) (fun c24 => ?_)
    · have h := h.1 c24
      refine lv_iload hx hb dX6_writeGap_143 (lv_at hl 5 rfl) ?_
      refine lv_aload_n hx hb dX6_writeGap_145 rfl (lv_at hl 1 rfl) ?_
      refine lv_iload hx hb dX6_writeGap_146 (lv_at hl 6 rfl) ?_
      refine xw_ri (va_runS (rm := { frames := 1, cells := 0, slots := 0, locals := 21 }) (As := [.ref (a 12), .int y6]) (rest := [.int y5]) ⟨hx, hb, hml, hown, hts⟩ (c_X6_heldByAny l D cy a y6 I F G _ h A) (va_cwS 2 hts gX6_writeGap_X6_heldByAny rfl rfl rfl (by decide +kernel) ⟨Nat.le_of_ble_eq_true rfl, Nat.le_of_ble_eq_true rfl⟩) (xw_preS hB hP hD) rfl rfl hl.1 rfl (lv_room (Nat.le_of_ble_eq_true rfl)) dX6_writeGap_148 ⟨Nat.le_of_ble_eq_true rfl, Nat.le_of_ble_eq_true rfl⟩) (fun r25 h => ?_)
      refine lv_iand hx hb dX6_writeGap_151 ?_
      refine lv_topi (fun v26 ev26 => ?_)
      have h := h v26 ev26
      refine lv_istore (lv' := [(8, .int v26), (0, .ref (a 36)), (1, .ref (a 12)), (2, .ref (a 25)), (3, .ref (a 32)), (4, .int x4), (5, .int y5), (6, .int y6), (7, .int y7)]) hx hb dX6_writeGap_152 hl (by decide) rfl (fun ls hl => ?_)
      refine lv_iload hx hb dX6_writeGap_154 (lv_at hl 6 rfl) ?_
      refine lv_iload hx hb dX6_writeGap_156 (lv_at hl 0 rfl) ?_
      refine lv_iconst (v := -1) hx hb dX6_writeGap_158 (by decide) ?_
      refine lv_ixor hx hb dX6_writeGap_159 ?_
      refine lv_iand hx hb dX6_writeGap_160 ?_
      refine lv_aload_n hx hb dX6_writeGap_161 rfl (lv_at hl 2 rfl) ?_
      refine lv_iload hx hb dX6_writeGap_162 (lv_at hl 8 rfl) ?_
      refine xw_ri (va_runS (rm := { frames := 1, cells := 0, slots := 0, locals := 21 }) (As := [.ref (a 12), .int y7]) (rest := [.int (y5 &&& (v26 ^^^ (-1 : Int32)))]) ⟨hx, hb, hml, hown, hts⟩ (c_X6_heldByAny l D cy a y7 I F G _ h A) (va_cwS 2 hts gX6_writeGap_X6_heldByAny rfl rfl rfl (by decide +kernel) ⟨Nat.le_of_ble_eq_true rfl, Nat.le_of_ble_eq_true rfl⟩) (xw_preS hB hP hD) rfl rfl hl.1 rfl (lv_room (Nat.le_of_ble_eq_true rfl)) dX6_writeGap_164 ⟨Nat.le_of_ble_eq_true rfl, Nat.le_of_ble_eq_true rfl⟩) (fun r27 h => ?_)
      refine lv_iand hx hb dX6_writeGap_167 ?_
      refine lv_topi (fun v28 ev28 => ?_)
      have h := h v28 ev28
      refine lv_istore (lv' := [(9, .int v28), (8, .int v26), (0, .ref (a 36)), (1, .ref (a 12)), (2, .ref (a 25)), (3, .ref (a 32)), (4, .int x4), (5, .int y5), (6, .int y6), (7, .int y7)]) hx hb dX6_writeGap_168 hl (by decide) rfl (fun ls hl => ?_)
      refine lv_aload_n hx hb dX6_writeGap_170 rfl (lv_at hl 2 rfl) ?_
      refine lv_iload hx hb dX6_writeGap_171 (lv_at hl 1 rfl) ?_
      refine xw_wv (va_runV (rm := { frames := 1, cells := 0, slots := 0, locals := 21 }) (As := [.int v26]) (rest := []) ⟨hx, hb, hml, hown, hts⟩ (c_X6_addEmpty l D cy a v26 I F G _ h A) (cwV 1 hts gX6_writeGap_X6_addEmpty rfl rfl rfl (by decide +kernel) ⟨Nat.le_of_ble_eq_true rfl, Nat.le_of_ble_eq_true rfl⟩) (xw_preV hB hP hD (ci := 6) rfl xC_c36) rfl rfl hl.1 rfl (lv_room (Nat.le_of_ble_eq_true rfl)) dX6_writeGap_173 ⟨Nat.le_of_ble_eq_true rfl, Nat.le_of_ble_eq_true rfl⟩) hS (fun I29 F29 G29 H locs h hP hD hS => ?_)
      refine lv_aload_n hx hb dX6_writeGap_176 rfl (lv_at hl 2 rfl) ?_
      refine lv_aload_n hx hb dX6_writeGap_177 rfl (lv_at hl 3 rfl) ?_
      refine lv_aload_n hx hb dX6_writeGap_178 rfl (lv_at hl 4 rfl) ?_
      refine xw_wv (va_runV (rm := { frames := 2, cells := 0, slots := 0, locals := 41 }) (As := [.ref (a 12), .ref (a 25)]) (rest := []) ⟨hx, hb, hml, hown, hts⟩ (c_X6_rankClosing l D cy a I29 F29 G29 _ h A) (cwV 2 hts gX6_writeGap_X6_rankClosing rfl rfl rfl (by decide +kernel) ⟨Nat.le_of_ble_eq_true rfl, Nat.le_of_ble_eq_true rfl⟩) (xw_preV hB hP hD (ci := 6) rfl xC_c36) rfl rfl hl.1 rfl (lv_room (Nat.le_of_ble_eq_true rfl)) dX6_writeGap_179 ⟨Nat.le_of_ble_eq_true rfl, Nat.le_of_ble_eq_true rfl⟩) hS (fun I30 F30 G30 H locs h hP hD hS => ?_)
      refine lv_aload_n hx hb dX6_writeGap_182 rfl (lv_at hl 2 rfl) ?_
      refine lv_iload hx hb dX6_writeGap_183 (lv_at hl 8 rfl) ?_
      refine lv_bipush (v := 97) hx hb dX6_writeGap_185 (by decide) ?_
      refine xw_wv (va_runV (rm := { frames := 2, cells := 0, slots := 0, locals := 44 }) (As := [.int y6, .int (97 : Int32)]) (rest := []) ⟨hx, hb, hml, hown, hts⟩ (c_X6_addRanked l D cy a y6 (97 : Int32) I30 F30 G30 _ h A) (cwV 2 hts gX6_writeGap_X6_addRanked rfl rfl rfl (by decide +kernel) ⟨Nat.le_of_ble_eq_true rfl, Nat.le_of_ble_eq_true rfl⟩) (xw_preV hB hP hD (ci := 6) rfl xC_c36) rfl rfl hl.1 rfl (lv_room (Nat.le_of_ble_eq_true rfl)) dX6_writeGap_187 ⟨Nat.le_of_ble_eq_true rfl, Nat.le_of_ble_eq_true rfl⟩) hS (fun I31 F31 G31 H locs h hP hD hS => ?_)
      refine lv_aload_n hx hb dX6_writeGap_190 rfl (lv_at hl 2 rfl) ?_
      refine lv_aload_n hx hb dX6_writeGap_191 rfl (lv_at hl 3 rfl) ?_
      refine lv_aload_n hx hb dX6_writeGap_192 rfl (lv_at hl 5 rfl) ?_
      refine lv_iload hx hb dX6_writeGap_193 (lv_at hl 6 rfl) ?_
      refine xw_wv (va_runV (rm := { frames := 1, cells := 0, slots := 0, locals := 21 }) (As := [.ref (a 12), .ref (a 32), .int x4]) (rest := []) ⟨hx, hb, hml, hown, hts⟩ (c_X6_addMarks l D cy a x4 I31 F31 G31 _ h A) (cwV 3 hts gX6_writeGap_X6_addMarks rfl rfl rfl (by decide +kernel) ⟨Nat.le_of_ble_eq_true rfl, Nat.le_of_ble_eq_true rfl⟩) (xw_preV hB hP hD (ci := 6) rfl xC_c36) rfl rfl hl.1 rfl (lv_room (Nat.le_of_ble_eq_true rfl)) dX6_writeGap_195 ⟨Nat.le_of_ble_eq_true rfl, Nat.le_of_ble_eq_true rfl⟩) hS (fun I32 F32 G32 H locs h hP hD hS => ?_)
      refine lv_aload_n hx hb dX6_writeGap_198 rfl (lv_at hl 2 rfl) ?_
      refine lv_iload hx hb dX6_writeGap_199 (lv_at hl 7 rfl) ?_
      refine lv_iload hx hb dX6_writeGap_201 (lv_at hl 1 rfl) ?_
      refine lv_iconst (v := -1) hx hb dX6_writeGap_203 (by decide) ?_
      refine lv_ixor hx hb dX6_writeGap_204 ?_
      refine lv_iand hx hb dX6_writeGap_205 ?_
      refine lv_iload hx hb dX6_writeGap_206 (lv_at hl 0 rfl) ?_
      refine lv_iconst (v := -1) hx hb dX6_writeGap_208 (by decide) ?_
      refine lv_ixor hx hb dX6_writeGap_209 ?_
      refine lv_iand hx hb dX6_writeGap_210 ?_
      refine xw_wv (va_runV (rm := { frames := 1, cells := 0, slots := 0, locals := 21 }) (As := [.int ((y5 &&& (v26 ^^^ (-1 : Int32))) &&& (v28 ^^^ (-1 : Int32)))]) (rest := []) ⟨hx, hb, hml, hown, hts⟩ (c_X6_addEmpty l D cy a ((y5 &&& (v26 ^^^ (-1 : Int32))) &&& (v28 ^^^ (-1 : Int32))) I32 F32 G32 _ h A) (cwV 1 hts gX6_writeGap_X6_addEmpty rfl rfl rfl (by decide +kernel) ⟨Nat.le_of_ble_eq_true rfl, Nat.le_of_ble_eq_true rfl⟩) (xw_preV hB hP hD (ci := 6) rfl xC_c36) rfl rfl hl.1 rfl (lv_room (Nat.le_of_ble_eq_true rfl)) dX6_writeGap_211 ⟨Nat.le_of_ble_eq_true rfl, Nat.le_of_ble_eq_true rfl⟩) hS (fun I33 F33 G33 H locs h hP hD hS => ?_)
      refine lv_aload_n hx hb dX6_writeGap_214 rfl (lv_at hl 2 rfl) ?_
      refine lv_aload_n hx hb dX6_writeGap_215 rfl (lv_at hl 3 rfl) ?_
      refine lv_aload_n hx hb dX6_writeGap_216 rfl (lv_at hl 4 rfl) ?_
      refine xw_wv (va_runV (rm := { frames := 2, cells := 0, slots := 0, locals := 41 }) (As := [.ref (a 12), .ref (a 25)]) (rest := []) ⟨hx, hb, hml, hown, hts⟩ (c_X6_rankOpening l D cy a I33 F33 G33 _ h A) (cwV 2 hts gX6_writeGap_X6_rankOpening rfl rfl rfl (by decide +kernel) ⟨Nat.le_of_ble_eq_true rfl, Nat.le_of_ble_eq_true rfl⟩) (xw_preV hB hP hD (ci := 6) rfl xC_c36) rfl rfl hl.1 rfl (lv_room (Nat.le_of_ble_eq_true rfl)) dX6_writeGap_217 ⟨Nat.le_of_ble_eq_true rfl, Nat.le_of_ble_eq_true rfl⟩) hS (fun I34 F34 G34 H locs h hP hD hS => ?_)
      refine lv_aload_n hx hb dX6_writeGap_220 rfl (lv_at hl 2 rfl) ?_
      refine lv_iload hx hb dX6_writeGap_221 (lv_at hl 9 rfl) ?_
      refine lv_bipush (v := 65) hx hb dX6_writeGap_223 (by decide) ?_
      refine xw_wv (va_runV (rm := { frames := 2, cells := 0, slots := 0, locals := 44 }) (As := [.int y7, .int (65 : Int32)]) (rest := []) ⟨hx, hb, hml, hown, hts⟩ (c_X6_addRanked l D cy a y7 (65 : Int32) I34 F34 G34 _ h A) (cwV 2 hts gX6_writeGap_X6_addRanked rfl rfl rfl (by decide +kernel) ⟨Nat.le_of_ble_eq_true rfl, Nat.le_of_ble_eq_true rfl⟩) (xw_preV hB hP hD (ci := 6) rfl xC_c36) rfl rfl hl.1 rfl (lv_room (Nat.le_of_ble_eq_true rfl)) dX6_writeGap_225 ⟨Nat.le_of_ble_eq_true rfl, Nat.le_of_ble_eq_true rfl⟩) hS (fun I35 F35 G35 H locs h hP hD hS => ?_)
      refine lv_aload_n hx hb dX6_writeGap_228 rfl (lv_at hl 2 rfl) ?_
      refine lv_iload hx hb dX6_writeGap_229 (lv_at hl 0 rfl) ?_
      refine xw_wv (va_runV (rm := { frames := 1, cells := 0, slots := 0, locals := 21 }) (As := [.int v28]) (rest := []) ⟨hx, hb, hml, hown, hts⟩ (c_X6_addEmpty l D cy a v28 I35 F35 G35 _ h A) (cwV 1 hts gX6_writeGap_X6_addEmpty rfl rfl rfl (by decide +kernel) ⟨Nat.le_of_ble_eq_true rfl, Nat.le_of_ble_eq_true rfl⟩) (xw_preV hB hP hD (ci := 6) rfl xC_c36) rfl rfl hl.1 rfl (lv_room (Nat.le_of_ble_eq_true rfl)) dX6_writeGap_231 ⟨Nat.le_of_ble_eq_true rfl, Nat.le_of_ble_eq_true rfl⟩) hS (fun I36 F36 G36 H locs h hP hD hS => ?_)
      exact xw_wretv hx hb hr hlocks hP hD hS h dX6_writeGap_234
    · have h := h.2 c24
      refine lv_aload_n hx hb dX6_writeGap_18 rfl (lv_at hl 1 rfl) ?_
      refine va_get (D := D) (ci := 4) (v := .int (I 8)) (C := RX4) (T := TX4) (N := 12) hx hb hts mX6_writeGap_inX4 hown hB.1 hP 12 xC_c12 rfl 1 (by decide) (hts _ mX6_writeGap_1) (fun _ h9 => h9) rfl dX6_writeGap_19 ?_
      refine lv_iload hx hb dX6_writeGap_22 (lv_at hl 8 rfl) ?_
      refine xw_ri (va_runSN (rm := { frames := 0, cells := 0, slots := 0, locals := 0 }) (As := [.int (I 8), .int y8]) (rest := []) ⟨hx, hb, hml, hown, hts⟩ (c_X7_has l D cy (I 8) y8 _ h (fun _ => True)) (⟨va_cnB 2 hts gX6_writeGap_X7_has_n44 rfl rfl rfl (hB.2 12 _ rfl) (hts _ mX6_writeGap_5) (by decide +kernel) ⟨Nat.le_of_ble_eq_true rfl, Nat.le_of_ble_eq_true rfl⟩, hts _ mX6_writeGap_4, trivial⟩) (xw_preS hB xw_P0 (xw_D0 (A := fun _ => True))) rfl rfl hl.1 rfl (lv_room (Nat.le_of_ble_eq_true rfl)) dX6_writeGap_24 ⟨Nat.le_of_ble_eq_true rfl, Nat.le_of_ble_eq_true rfl⟩) (fun r37 h => ?_)
      refine lv_if_eq (tgt := 137) hx hb dX6_writeGap_27 (by decide) (fun c38 => ?_) (fun c38 => ?_)
      · have h := h.1 c38
        obtain ⟨v39, ev39⟩ : ∃ y : Int32, y = y8 + 1 := ⟨_, rfl⟩
        have h := h v39 ev39
        refine lv_iinc (v := v39) (lv' := [(8, .int v39), (0, .ref (a 36)), (1, .ref (a 12)), (2, .ref (a 25)), (3, .ref (a 32)), (4, .int x4), (5, .int y5), (6, .int y6), (7, .int y7)]) hx hb dX6_writeGap_137 hl (k := 8) rfl (by rw [ev39]; rfl) (by decide) rfl (fun ls hl => ?_)
        refine lv_goto (tgt := 12) hx hb dX6_writeGap_140 (by decide) ?_
        exact (hWW _ _ _).mp (el12 _ _ _ _ _ _ _ h _ _ ls hP hD hS (lv_sub hl [1, 2, 3, 4, 5, 6, 7, 8, 0] rfl))
      · have h := h.2 c38
        refine lv_aload_n hx hb dX6_writeGap_30 rfl (lv_at hl 2 rfl) ?_
        refine va_get (D := D) (ci := 2) (v := .ref (a 26)) (C := RX2) (T := TX2) (N := 8) hx hb hts mX6_writeGap_inX2 hown hB.1 hP 25 xC_c25 rfl 0 (by decide) (hts _ mX6_writeGap_2) (fun _ h9 => h9) rfl dX6_writeGap_31 ?_
        refine lv_iload hx hb dX6_writeGap_34 (lv_at hl 8 rfl) ?_
        refine xw_iald hx hb hB hP 26 xC_c26 h.1 dX6_writeGap_36 (fun v40 ev40 => ?_)
        have h := h.2 v40 ev40
        refine lv_iload hx hb dX6_writeGap_37 (lv_at hl 4 rfl) ?_
        refine lv_icmp_ne (tgt := 46) hx hb dX6_writeGap_39 (by decide) (fun c41 => ?_) (fun c41 => ?_)
        · have h := h.1 c41
          refine lv_iconst (v := 0) hx hb dX6_writeGap_46 (by decide) ?_
          exact (hWW _ _ _).mp (el47 _ _ _ _ _ _ _ _ h _ _ ls hP hD hS (lv_sub hl [0, 1, 2, 3, 4, 5, 6, 7, 8] rfl))
        · have h := h.2 c41
          refine lv_iconst (v := 1) hx hb dX6_writeGap_42 (by decide) ?_
          refine lv_goto (tgt := 47) hx hb dX6_writeGap_43 (by decide) ?_
          exact (hWW _ _ _).mp (el47 _ _ _ _ _ _ _ _ h _ _ ls hP hD hS (lv_sub hl [0, 1, 2, 3, 4, 5, 6, 7, 8] rfl))
  have rl47 : ∀ (y5 : Int32) (y6 : Int32) (y7 : Int32) (y8 : Int32) (t0 : Int32) (I : xw_I) (F : xw_F) (G : xw_G), (bd_X6_writeGap_47 x4 post k12 k47 k66 k88 k111 y5 y6 y7 y8 t0 I F G) → k47 y5 y6 y7 y8 t0 I F G := by
    intro y5 y6 y7 y8 t0 I F G h
    refine mk47 _ _ _ _ _ _ _ _ ?_
    intro H locs ls hP hD hS hl
    refine (hWW _ _ _).mpr ?_
    unfold bd_X6_writeGap_47 at h
    refine lv_istore (lv' := [(9, .int t0), (0, .ref (a 36)), (1, .ref (a 12)), (2, .ref (a 25)), (3, .ref (a 32)), (4, .int x4), (5, .int y5), (6, .int y6), (7, .int y7), (8, .int y8)]) hx hb dX6_writeGap_47 hl (by decide) rfl (fun ls hl => ?_)
    refine lv_aload_n hx hb dX6_writeGap_49 rfl (lv_at hl 3 rfl) ?_
    refine va_get (D := D) (ci := 2) (v := .ref (a 27)) (C := RX2) (T := TX2) (N := 8) hx hb hts mX6_writeGap_inX2 hown hB.1 hP 25 xC_c25 rfl 1 (by decide) (hts _ mX6_writeGap_3) (fun _ h9 => h9) rfl dX6_writeGap_50 ?_
    refine lv_iload hx hb dX6_writeGap_53 (lv_at hl 9 rfl) ?_
    refine xw_iald hx hb hB hP 27 xC_c27 h.1 dX6_writeGap_55 (fun v42 ev42 => ?_)
    have h := h.2 v42 ev42
    refine lv_iload hx hb dX6_writeGap_56 (lv_at hl 5 rfl) ?_
    refine lv_icmp_ne (tgt := 65) hx hb dX6_writeGap_58 (by decide) (fun c43 => ?_) (fun c43 => ?_)
    · have h := h.1 c43
      refine lv_iconst (v := 0) hx hb dX6_writeGap_65 (by decide) ?_
      exact (hWW _ _ _).mp (el66 _ _ _ _ _ _ _ _ _ h _ _ ls hP hD hS (lv_sub hl [1, 2, 3, 4, 5, 6, 7, 8, 9, 0] rfl))
    · have h := h.2 c43
      refine lv_iconst (v := 1) hx hb dX6_writeGap_61 (by decide) ?_
      refine lv_goto (tgt := 66) hx hb dX6_writeGap_62 (by decide) ?_
      exact (hWW _ _ _).mp (el66 _ _ _ _ _ _ _ _ _ h _ _ ls hP hD hS (lv_sub hl [1, 2, 3, 4, 5, 6, 7, 8, 9, 0] rfl))
  have rl66 : ∀ (y5 : Int32) (y6 : Int32) (y7 : Int32) (y8 : Int32) (y9 : Int32) (t0 : Int32) (I : xw_I) (F : xw_F) (G : xw_G), (bd_X6_writeGap_66 x4 post k12 k47 k66 k88 k111 y5 y6 y7 y8 y9 t0 I F G) → k66 y5 y6 y7 y8 y9 t0 I F G := by
    intro y5 y6 y7 y8 y9 t0 I F G h
    refine mk66 _ _ _ _ _ _ _ _ _ ?_
    intro H locs ls hP hD hS hl
    refine (hWW _ _ _).mpr ?_
    unfold bd_X6_writeGap_66 at h
    refine lv_istore (lv' := [(10, .int t0), (0, .ref (a 36)), (1, .ref (a 12)), (2, .ref (a 25)), (3, .ref (a 32)), (4, .int x4), (5, .int y5), (6, .int y6), (7, .int y7), (8, .int y8), (9, .int y9)]) hx hb dX6_writeGap_66 hl (by decide) rfl (fun ls hl => ?_)
    refine lv_iload hx hb dX6_writeGap_68 (lv_at hl 6 rfl) ?_
    refine lv_iload hx hb dX6_writeGap_70 (lv_at hl 10 rfl) ?_
    refine lv_if_eq (tgt := 87) hx hb dX6_writeGap_72 (by decide) (fun c44 => ?_) (fun c44 => ?_)
    · have h := h.1 c44
      refine lv_iconst (v := 0) hx hb dX6_writeGap_87 (by decide) ?_
      exact (hWW _ _ _).mp (el88 _ _ _ _ _ _ _ _ _ _ h _ _ ls hP hD hS (lv_sub hl [1, 2, 3, 4, 5, 7, 8, 9, 10, 0] rfl))
    · have h := h.2 c44
      refine lv_iload hx hb dX6_writeGap_75 (lv_at hl 0 rfl) ?_
      refine lv_if_eq (tgt := 87) hx hb dX6_writeGap_77 (by decide) (fun c45 => ?_) (fun c45 => ?_)
      · have h := h.1 c45
        refine lv_iconst (v := 0) hx hb dX6_writeGap_87 (by decide) ?_
        exact (hWW _ _ _).mp (el88 _ _ _ _ _ _ _ _ _ _ h _ _ ls hP hD hS (lv_sub hl [1, 2, 3, 4, 5, 7, 8, 9, 10, 0] rfl))
      · have h := h.2 c45
        refine lv_iconst (v := 1) hx hb dX6_writeGap_80 (by decide) ?_
        refine lv_iload hx hb dX6_writeGap_81 (lv_at hl 9 rfl) ?_
        refine lv_ishl hx hb dX6_writeGap_83 ?_
        refine lv_goto (tgt := 88) hx hb dX6_writeGap_84 (by decide) ?_
        exact (hWW _ _ _).mp (el88 _ _ _ _ _ _ _ _ _ _ h _ _ ls hP hD hS (lv_sub hl [1, 2, 3, 4, 5, 7, 8, 9, 10, 0] rfl))
  have rl88 : ∀ (y6 : Int32) (y7 : Int32) (y8 : Int32) (y9 : Int32) (y10 : Int32) (t0 : Int32) (t1 : Int32) (I : xw_I) (F : xw_F) (G : xw_G), (bd_X6_writeGap_88 x4 post k12 k47 k66 k88 k111 y6 y7 y8 y9 y10 t0 t1 I F G) → k88 y6 y7 y8 y9 y10 t0 t1 I F G := by
    intro y6 y7 y8 y9 y10 t0 t1 I F G h
    refine mk88 _ _ _ _ _ _ _ _ _ _ ?_
    intro H locs ls hP hD hS hl
    refine (hWW _ _ _).mpr ?_
    unfold bd_X6_writeGap_88 at h
    refine lv_ior hx hb dX6_writeGap_88 ?_
    refine lv_topi (fun v46 ev46 => ?_)
    have h := h v46 ev46
    refine lv_istore (lv' := [(5, .int v46), (0, .ref (a 36)), (1, .ref (a 12)), (2, .ref (a 25)), (3, .ref (a 32)), (4, .int x4), (6, .int y6), (7, .int y7), (8, .int y8), (9, .int y9), (10, .int y10)]) hx hb dX6_writeGap_89 hl (by decide) rfl (fun ls hl => ?_)
    refine lv_iload hx hb dX6_writeGap_91 (lv_at hl 6 rfl) ?_
    refine lv_iload hx hb dX6_writeGap_93 (lv_at hl 10 rfl) ?_
    refine lv_if_eq (tgt := 110) hx hb dX6_writeGap_95 (by decide) (fun c47 => ?_) (fun c47 => ?_)
    · have h := h.1 c47
      refine lv_iconst (v := 0) hx hb dX6_writeGap_110 (by decide) ?_
      exact (hWW _ _ _).mp (el111 _ _ _ _ _ _ _ _ _ _ h _ _ ls hP hD hS (lv_sub hl [1, 2, 3, 4, 5, 0, 7, 8, 9, 10] rfl))
    · have h := h.2 c47
      refine lv_iload hx hb dX6_writeGap_98 (lv_at hl 9 rfl) ?_
      refine lv_if_ne (tgt := 110) hx hb dX6_writeGap_100 (by decide) (fun c48 => ?_) (fun c48 => ?_)
      · have h := h.1 c48
        refine lv_iconst (v := 0) hx hb dX6_writeGap_110 (by decide) ?_
        exact (hWW _ _ _).mp (el111 _ _ _ _ _ _ _ _ _ _ h _ _ ls hP hD hS (lv_sub hl [1, 2, 3, 4, 5, 0, 7, 8, 9, 10] rfl))
      · have h := h.2 c48
        refine lv_iconst (v := 1) hx hb dX6_writeGap_103 (by decide) ?_
        refine lv_iload hx hb dX6_writeGap_104 (lv_at hl 8 rfl) ?_
        refine lv_ishl hx hb dX6_writeGap_106 ?_
        refine lv_goto (tgt := 111) hx hb dX6_writeGap_107 (by decide) ?_
        exact (hWW _ _ _).mp (el111 _ _ _ _ _ _ _ _ _ _ h _ _ ls hP hD hS (lv_sub hl [1, 2, 3, 4, 5, 0, 7, 8, 9, 10] rfl))
  have rl111 : ∀ (y5 : Int32) (y7 : Int32) (y8 : Int32) (y9 : Int32) (y10 : Int32) (t0 : Int32) (t1 : Int32) (I : xw_I) (F : xw_F) (G : xw_G), (bd_X6_writeGap_111 x4 post k12 k47 k66 k88 k111 y5 y7 y8 y9 y10 t0 t1 I F G) → k111 y5 y7 y8 y9 y10 t0 t1 I F G := by
    intro y5 y7 y8 y9 y10 t0 t1 I F G h
    refine mk111 _ _ _ _ _ _ _ _ _ _ ?_
    intro H locs ls hP hD hS hl
    refine (hWW _ _ _).mpr ?_
    unfold bd_X6_writeGap_111 at h
    refine lv_ior hx hb dX6_writeGap_111 ?_
    refine lv_topi (fun v49 ev49 => ?_)
    have h := h v49 ev49
    refine lv_istore (lv' := [(6, .int v49), (0, .ref (a 36)), (1, .ref (a 12)), (2, .ref (a 25)), (3, .ref (a 32)), (4, .int x4), (5, .int y5), (7, .int y7), (8, .int y8), (9, .int y9), (10, .int y10)]) hx hb dX6_writeGap_112 hl (by decide) rfl (fun ls hl => ?_)
    refine lv_iload hx hb dX6_writeGap_114 (lv_at hl 7 rfl) ?_
    refine lv_iload hx hb dX6_writeGap_116 (lv_at hl 9 rfl) ?_
    refine lv_if_eq (tgt := 133) hx hb dX6_writeGap_118 (by decide) (fun c50 => ?_) (fun c50 => ?_)
    · have h := h.1 c50
      refine lv_iconst (v := 0) hx hb dX6_writeGap_133 (by decide) ?_
      refine lv_ior hx hb dX6_writeGap_134 ?_
      refine lv_topi (fun v51 ev51 => ?_)
      have h := h v51 ev51
      refine lv_istore (lv' := [(7, .int v51), (6, .int v49), (0, .ref (a 36)), (1, .ref (a 12)), (2, .ref (a 25)), (3, .ref (a 32)), (4, .int x4), (5, .int y5), (8, .int y8), (9, .int y9), (10, .int y10)]) hx hb dX6_writeGap_135 hl (by decide) rfl (fun ls hl => ?_)
      obtain ⟨v52, ev52⟩ : ∃ y : Int32, y = y8 + 1 := ⟨_, rfl⟩
      have h := h v52 ev52
      refine lv_iinc (v := v52) (lv' := [(8, .int v52), (7, .int v51), (6, .int v49), (0, .ref (a 36)), (1, .ref (a 12)), (2, .ref (a 25)), (3, .ref (a 32)), (4, .int x4), (5, .int y5), (9, .int y9), (10, .int y10)]) hx hb dX6_writeGap_137 hl (k := 8) rfl (by rw [ev52]; rfl) (by decide) rfl (fun ls hl => ?_)
      refine lv_goto (tgt := 12) hx hb dX6_writeGap_140 (by decide) ?_
      exact (hWW _ _ _).mp (el12 _ _ _ _ _ _ _ h _ _ ls hP hD hS (lv_sub hl [3, 4, 5, 6, 7, 8, 2, 1, 0] rfl))
    · have h := h.2 c50
      refine lv_iload hx hb dX6_writeGap_121 (lv_at hl 10 rfl) ?_
      refine lv_if_ne (tgt := 133) hx hb dX6_writeGap_123 (by decide) (fun c53 => ?_) (fun c53 => ?_)
      · have h := h.1 c53
        refine lv_iconst (v := 0) hx hb dX6_writeGap_133 (by decide) ?_
        refine lv_ior hx hb dX6_writeGap_134 ?_
        refine lv_topi (fun v54 ev54 => ?_)
        have h := h v54 ev54
        refine lv_istore (lv' := [(7, .int v54), (6, .int v49), (0, .ref (a 36)), (1, .ref (a 12)), (2, .ref (a 25)), (3, .ref (a 32)), (4, .int x4), (5, .int y5), (8, .int y8), (9, .int y9), (10, .int y10)]) hx hb dX6_writeGap_135 hl (by decide) rfl (fun ls hl => ?_)
        obtain ⟨v55, ev55⟩ : ∃ y : Int32, y = y8 + 1 := ⟨_, rfl⟩
        have h := h v55 ev55
        refine lv_iinc (v := v55) (lv' := [(8, .int v55), (7, .int v54), (6, .int v49), (0, .ref (a 36)), (1, .ref (a 12)), (2, .ref (a 25)), (3, .ref (a 32)), (4, .int x4), (5, .int y5), (9, .int y9), (10, .int y10)]) hx hb dX6_writeGap_137 hl (k := 8) rfl (by rw [ev55]; rfl) (by decide) rfl (fun ls hl => ?_)
        refine lv_goto (tgt := 12) hx hb dX6_writeGap_140 (by decide) ?_
        exact (hWW _ _ _).mp (el12 _ _ _ _ _ _ _ h _ _ ls hP hD hS (lv_sub hl [3, 4, 5, 6, 7, 8, 2, 1, 0] rfl))
      · have h := h.2 c53
        refine lv_iconst (v := 1) hx hb dX6_writeGap_126 (by decide) ?_
        refine lv_iload hx hb dX6_writeGap_127 (lv_at hl 8 rfl) ?_
        refine lv_ishl hx hb dX6_writeGap_129 ?_
        refine lv_goto (tgt := 134) hx hb dX6_writeGap_130 (by decide) ?_
        refine lv_ior hx hb dX6_writeGap_134 ?_
        refine lv_topi (fun v56 ev56 => ?_)
        have h := h v56 ev56
        refine lv_istore (lv' := [(7, .int v56), (6, .int v49), (0, .ref (a 36)), (1, .ref (a 12)), (2, .ref (a 25)), (3, .ref (a 32)), (4, .int x4), (5, .int y5), (8, .int y8), (9, .int y9), (10, .int y10)]) hx hb dX6_writeGap_135 hl (by decide) rfl (fun ls hl => ?_)
        obtain ⟨v57, ev57⟩ : ∃ y : Int32, y = y8 + 1 := ⟨_, rfl⟩
        have h := h v57 ev57
        refine lv_iinc (v := v57) (lv' := [(8, .int v57), (7, .int v56), (6, .int v49), (0, .ref (a 36)), (1, .ref (a 12)), (2, .ref (a 25)), (3, .ref (a 32)), (4, .int x4), (5, .int y5), (9, .int y9), (10, .int y10)]) hx hb dX6_writeGap_137 hl (k := 8) rfl (by rw [ev57]; rfl) (by decide) rfl (fun ls hl => ?_)
        refine lv_goto (tgt := 12) hx hb dX6_writeGap_140 (by decide) ?_
        exact (hWW _ _ _).mp (el12 _ _ _ _ _ _ _ h _ _ ls hP hD hS (lv_sub hl [3, 4, 5, 6, 7, 8, 2, 1, 0] rfl))
  have h := h k12 k47 k66 k88 k111 rl12 rl47 rl66 rl88 rl111
  unfold bd_X6_writeGap_0 at h
  refine lv_iconst (v := 0) hx hb dX6_writeGap_0 (by decide) ?_
  refine lv_istore (lv' := [(5, .int (0 : Int32)), (0, .ref (a 36)), (1, .ref (a 12)), (2, .ref (a 25)), (3, .ref (a 32)), (4, .int x4)]) hx hb dX6_writeGap_1 hl (by decide) rfl (fun ls hl => ?_)
  refine lv_iconst (v := 0) hx hb dX6_writeGap_3 (by decide) ?_
  refine lv_istore (lv' := [(6, .int (0 : Int32)), (5, .int (0 : Int32)), (0, .ref (a 36)), (1, .ref (a 12)), (2, .ref (a 25)), (3, .ref (a 32)), (4, .int x4)]) hx hb dX6_writeGap_4 hl (by decide) rfl (fun ls hl => ?_)
  refine lv_iconst (v := 0) hx hb dX6_writeGap_6 (by decide) ?_
  refine lv_istore (lv' := [(7, .int (0 : Int32)), (6, .int (0 : Int32)), (5, .int (0 : Int32)), (0, .ref (a 36)), (1, .ref (a 12)), (2, .ref (a 25)), (3, .ref (a 32)), (4, .int x4)]) hx hb dX6_writeGap_7 hl (by decide) rfl (fun ls hl => ?_)
  refine lv_iconst (v := 0) hx hb dX6_writeGap_9 (by decide) ?_
  refine lv_istore (lv' := [(8, .int (0 : Int32)), (7, .int (0 : Int32)), (6, .int (0 : Int32)), (5, .int (0 : Int32)), (0, .ref (a 36)), (1, .ref (a 12)), (2, .ref (a 25)), (3, .ref (a 32)), (4, .int x4)]) hx hb dX6_writeGap_10 hl (by decide) rfl (fun ls hl => ?_)
  exact (hWW _ _ _).mp (el12 _ _ _ _ _ _ _ h _ _ ls hP hD hS (lv_sub hl [4, 5, 6, 7, 8, 3, 2, 1, 0] rfl))

theorem mX6_write_1 : Cond.fieldLink RX6 18 "TagCarrier$Writer" "count" "I" ∈ wsX6_write := List.mem_of_getElem? (i := 1) rfl
theorem mX6_write_inX6 : ∀ w ∈ u_ws RX6 TX6 3, w ∈ wsX6_write := by decide +kernel
theorem mX6_write_2 : Cond.fieldLink RX6 22 "TagCarrier$Sentences" "targetWords" "I" ∈ wsX6_write := List.mem_of_getElem? (i := 2) rfl
theorem mX6_write_inX3 : ∀ w ∈ u_ws RX3 TX3 3, w ∈ wsX6_write := by decide +kernel
theorem mX6_write_3 : Cond.fieldLink RX6 27 "TagCarrier$Sentences" "source" "LTagCarrier$Source;" ∈ wsX6_write := List.mem_of_getElem? (i := 3) rfl
set_option maxHeartbeats 4000000 in
set_option maxRecDepth 100000 in
theorem c_X6_write (l : Launch) (D : va_G) (cy : Nat → ClassId) (a : Nat → Nat) (I : xw_I) (F : xw_F) (G : xw_G) (post : xw_I → xw_F → xw_G → Prop) (h : sm_X6_write I F G post) : xw_Wv l yX6_write wsX6_write ({ frames := 4, cells := 0, slots := 0, locals := 99 }) D cy [.ref (a 36), .ref (a 11), .ref (a 25), .ref (a 32)] (xC_w cy a I F G) (xC_w cy a) post := by
  intro A
  refine Met.ofW (cc := cX6_write) (maxL := 5) (ret := none) (by decide) rfl ?_
  intro p e s m args below meth c s₁ B hml hv
  obtain ⟨rfl, hP, hB, hD⟩ := hv
  have hP : va_P D vwCl (xC_w cy a I F G) s.heap := hP
  have hx := B.exec
  have hb := B.bytes
  have hr := B.returns
  have hts := atoms_spec (ws := wsX6_write) B.pre
  have hown : s.vm.findClass RX6 = some m.cls := findClass_of_methodNamed B.named
  have hlocks := B.notSynchronized
  have hS : va_S A s.heap s.heap [] := va_S.rf
  refine xw_go (fun WW hWW => ?_)
  have hl := lv_entry ([.ref (a 36), .ref (a 11), .ref (a 25), .ref (a 32)]) (n := 5) (Nat.le_of_ble_eq_true rfl)
  rw [lg_entry_eq]
  generalize (lg_sl ([.ref (a 36), .ref (a 11), .ref (a 25), .ref (a 32)]) ++ List.replicate (5 - (lg_sl ([.ref (a 36), .ref (a 11), .ref (a 25), .ref (a 32)])).length) Slot.unset).toArray = ls at hl ⊢
  have hl : lv_has ls 5 [(0, .ref (a 36)), (1, .ref (a 11)), (2, .ref (a 25)), (3, .ref (a 32))] := hl
  obtain ⟨k8, mk8, el8⟩ : ∃ K : Int32 → xw_I → xw_F → xw_G → Prop, (∀ (y4 : Int32) (I : xw_I) (F : xw_F) (G : xw_G), (∀ (H : Heap) (locs : List Loc) (ls : Array Slot), va_P D vwCl (xC_w cy a I F G) H → va_D A (xC_w cy a I F G) → va_S A s.heap H locs → lv_has ls 5 [(0, .ref (a 36)), (1, .ref (a 11)), (2, .ref (a 25)), (3, .ref (a 32)), (4, .int y4)] → WW H locs (F0 m 8 ls [])) → K y4 I F G) ∧ (∀ (y4 : Int32) (I : xw_I) (F : xw_F) (G : xw_G), K y4 I F G → (∀ (H : Heap) (locs : List Loc) (ls : Array Slot), va_P D vwCl (xC_w cy a I F G) H → va_D A (xC_w cy a I F G) → va_S A s.heap H locs → lv_has ls 5 [(0, .ref (a 36)), (1, .ref (a 11)), (2, .ref (a 25)), (3, .ref (a 32)), (4, .int y4)] → WW H locs (F0 m 8 ls []))) := ⟨fun (y4 : Int32) (I : xw_I) (F : xw_F) (G : xw_G) => (∀ (H : Heap) (locs : List Loc) (ls : Array Slot), va_P D vwCl (xC_w cy a I F G) H → va_D A (xC_w cy a I F G) → va_S A s.heap H locs → lv_has ls 5 [(0, .ref (a 36)), (1, .ref (a 11)), (2, .ref (a 25)), (3, .ref (a 32)), (4, .int y4)] → WW H locs (F0 m 8 ls [])), fun _ _ _ _ h => h, fun _ _ _ _ h => h⟩
  have rl8 : ∀ (y4 : Int32) (I : xw_I) (F : xw_F) (G : xw_G), (bd_X6_write_8 post k8 y4 I F G) → k8 y4 I F G := by
    intro y4 I F G h
    refine mk8 _ _ _ _ ?_
    intro H locs ls hP hD hS hl
    refine (hWW _ _ _).mpr ?_
    unfold bd_X6_write_8 at h
    refine lv_iload hx hb dX6_write_8 (lv_at hl 4 rfl) ?_
    refine lv_aload_n hx hb dX6_write_10 rfl (lv_at hl 1 rfl) ?_
    refine va_get (D := D) (ci := 3) (v := .int (I 12)) (C := RX3) (T := TX3) (N := 3) hx hb hts mX6_write_inX3 hown hB.1 hP 11 xC_c11 rfl 2 (by decide) (hts _ mX6_write_2) (fun _ h9 => h9) rfl dX6_write_11 ?_
    refine lv_icmp_gt (tgt := 50) hx hb dX6_write_14 (by decide) (fun c6 => ?_) (fun c6 => ?_)
    · have h := h.1 c6
      exact xw_wretv hx hb hr hlocks hP hD hS h dX6_write_50
    · have h := h.2 c6
      refine lv_aload_n hx hb dX6_write_17 rfl (lv_at hl 0 rfl) ?_
      refine lv_aload_n hx hb dX6_write_18 rfl (lv_at hl 1 rfl) ?_
      refine va_get (D := D) (ci := 3) (v := .ref (a 12)) (C := RX3) (T := TX3) (N := 3) hx hb hts mX6_write_inX3 hown hB.1 hP 11 xC_c11 rfl 0 (by decide) (hts _ mX6_write_3) (fun _ h9 => h9) rfl dX6_write_19 ?_
      refine lv_aload_n hx hb dX6_write_22 rfl (lv_at hl 2 rfl) ?_
      refine lv_aload_n hx hb dX6_write_23 rfl (lv_at hl 3 rfl) ?_
      refine lv_iload hx hb dX6_write_24 (lv_at hl 4 rfl) ?_
      refine xw_wv (va_runV (rm := { frames := 3, cells := 0, slots := 0, locals := 69 }) (As := [.ref (a 12), .ref (a 25), .ref (a 32), .int y4]) (rest := []) ⟨hx, hb, hml, hown, hts⟩ (c_X6_writeGap l D cy a y4 I F G _ h A) (cwV 4 hts gX6_write_X6_writeGap rfl rfl rfl (by decide +kernel) ⟨Nat.le_of_ble_eq_true rfl, Nat.le_of_ble_eq_true rfl⟩) (xw_preV hB hP hD (ci := 6) rfl xC_c36) rfl rfl hl.1 rfl (lv_room (Nat.le_of_ble_eq_true rfl)) dX6_write_26 ⟨Nat.le_of_ble_eq_true rfl, Nat.le_of_ble_eq_true rfl⟩) hS (fun I7 F7 G7 H locs h hP hD hS => ?_)
      refine lv_iload hx hb dX6_write_29 (lv_at hl 4 rfl) ?_
      refine lv_aload_n hx hb dX6_write_31 rfl (lv_at hl 1 rfl) ?_
      refine va_get (D := D) (ci := 3) (v := .int (I7 12)) (C := RX3) (T := TX3) (N := 3) hx hb hts mX6_write_inX3 hown hB.1 hP 11 xC_c11 rfl 2 (by decide) (hts _ mX6_write_2) (fun _ h9 => h9) rfl dX6_write_32 ?_
      refine lv_icmp_ge (tgt := 44) hx hb dX6_write_35 (by decide) (fun c8 => ?_) (fun c8 => ?_)
      · have h := h.1 c8
        obtain ⟨v9, ev9⟩ : ∃ y : Int32, y = y4 + 1 := ⟨_, rfl⟩
        have h := h v9 ev9
        refine lv_iinc (v := v9) (lv' := [(4, .int v9), (0, .ref (a 36)), (1, .ref (a 11)), (2, .ref (a 25)), (3, .ref (a 32))]) hx hb dX6_write_44 hl (k := 4) rfl (by rw [ev9]; rfl) (by decide) rfl (fun ls hl => ?_)
        refine lv_goto (tgt := 8) hx hb dX6_write_47 (by decide) ?_
        exact (hWW _ _ _).mp (el8 _ _ _ _ h _ _ ls hP hD hS (lv_sub hl [1, 2, 3, 4, 0] rfl))
      · have h := h.2 c8
        refine lv_aload_n hx hb dX6_write_38 rfl (lv_at hl 0 rfl) ?_
        refine lv_bipush (v := 46) hx hb dX6_write_39 (by decide) ?_
        refine xw_wv (va_runV (rm := { frames := 0, cells := 0, slots := 0, locals := 0 }) (As := [.int (46 : Int32)]) (rest := []) ⟨hx, hb, hml, hown, hts⟩ (c_X6_add l D cy a (46 : Int32) I7 F7 G7 _ h A) (cwV 1 hts gX6_write_X6_add rfl rfl rfl (by decide +kernel) ⟨Nat.le_of_ble_eq_true rfl, Nat.le_of_ble_eq_true rfl⟩) (xw_preV hB hP hD (ci := 6) rfl xC_c36) rfl rfl hl.1 rfl (lv_room (Nat.le_of_ble_eq_true rfl)) dX6_write_41 ⟨Nat.le_of_ble_eq_true rfl, Nat.le_of_ble_eq_true rfl⟩) hS (fun I10 F10 G10 H locs h hP hD hS => ?_)
        obtain ⟨v11, ev11⟩ : ∃ y : Int32, y = y4 + 1 := ⟨_, rfl⟩
        have h := h v11 ev11
        refine lv_iinc (v := v11) (lv' := [(4, .int v11), (0, .ref (a 36)), (1, .ref (a 11)), (2, .ref (a 25)), (3, .ref (a 32))]) hx hb dX6_write_44 hl (k := 4) rfl (by rw [ev11]; rfl) (by decide) rfl (fun ls hl => ?_)
        refine lv_goto (tgt := 8) hx hb dX6_write_47 (by decide) ?_
        exact (hWW _ _ _).mp (el8 _ _ _ _ h _ _ ls hP hD hS (lv_sub hl [1, 2, 3, 4, 0] rfl))
  have h := h k8 rl8
  unfold bd_X6_write_0 at h
  refine lv_aload_n hx hb dX6_write_0 rfl (lv_at hl 0 rfl) ?_
  refine lv_iconst (v := 0) hx hb dX6_write_1 (by decide) ?_
  refine xw_put (D := D) (ci := 6) (v := .int (0 : Int32)) (ty := .int) (C := RX6) (T := TX6) (N := 3) hx hb hts mX6_write_inX6 tyX6 tyX6_ok nmX6 hown hB hP hD hS 36 xC_c36 rfl 1 (by decide) (hts _ mX6_write_1) (fun _ h9 => h9) rfl (by decide +kernel) rfl rfl (Nat.le_of_ble_eq_true rfl) xC_i17 dX6_write_2 (fun H locs hP hD hS => ?_)
  obtain ⟨I5, eI5⟩ : ∃ f : xw_I, f = xw_up I 17 (0 : Int32) := ⟨_, rfl⟩
  rw [← eI5] at hP hD
  have h := h I5 eI5
  refine lv_iconst (v := 0) hx hb dX6_write_5 (by decide) ?_
  refine lv_istore (lv' := [(4, .int (0 : Int32)), (0, .ref (a 36)), (1, .ref (a 11)), (2, .ref (a 25)), (3, .ref (a 32))]) hx hb dX6_write_6 hl (by decide) rfl (fun ls hl => ?_)
  exact (hWW _ _ _).mp (el8 _ _ _ _ h _ _ ls hP hD hS (lv_sub hl [1, 2, 3, 4, 0] rfl))
