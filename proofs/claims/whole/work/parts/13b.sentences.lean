theorem mX3_dropLinks_1 : Cond.fieldLink RX3 18 "TagCarrier$Sentences" "links" "[I" ∈ wsX3_dropLinks := List.mem_of_getElem? (i := 1) rfl
theorem mX3_dropLinks_inX3 : ∀ w ∈ u_ws RX3 TX3 3, w ∈ wsX3_dropLinks := by decide +kernel
set_option maxHeartbeats 4000000 in
set_option maxRecDepth 100000 in
theorem c_X3_dropLinks (l : Launch) (D : va_G) (cy : Nat → ClassId) (a : Nat → Nat) (I : xw_I) (F : xw_F) (G : xw_G) (post : xw_I → xw_F → xw_G → Prop) (h : sm_X3_dropLinks I F G post) : xw_Wv l yX3_dropLinks wsX3_dropLinks ({ frames := 0, cells := 0, slots := 0, locals := 0 }) D cy [.ref (a 11)] (xC_w cy a I F G) (xC_w cy a) post := by
  intro A
  refine Met.ofW (cc := cX3_dropLinks) (maxL := 2) (ret := none) (by decide) rfl ?_
  intro p e s m args below meth c s₁ B hml hv
  obtain ⟨rfl, hP, hB, hD⟩ := hv
  have hP : va_P D vwCl (xC_w cy a I F G) s.heap := hP
  have hx := B.exec
  have hb := B.bytes
  have hr := B.returns
  have hts := atoms_spec (ws := wsX3_dropLinks) B.pre
  have hown : s.vm.findClass RX3 = some m.cls := findClass_of_methodNamed B.named
  have hlocks := B.notSynchronized
  have hS : va_S A s.heap s.heap [] := va_S.rf
  refine xw_go (fun WW hWW => ?_)
  have hl := lv_entry ([.ref (a 11)]) (n := 2) (Nat.le_of_ble_eq_true rfl)
  rw [lg_entry_eq]
  generalize (lg_sl ([.ref (a 11)]) ++ List.replicate (2 - (lg_sl ([.ref (a 11)])).length) Slot.unset).toArray = ls at hl ⊢
  have hl : lv_has ls 2 [(0, .ref (a 11))] := hl
  obtain ⟨k2, mk2, el2⟩ : ∃ K : Int32 → xw_I → xw_F → xw_G → Prop, (∀ (y1 : Int32) (I : xw_I) (F : xw_F) (G : xw_G), (∀ (H : Heap) (locs : List Loc) (ls : Array Slot), va_P D vwCl (xC_w cy a I F G) H → va_D A (xC_w cy a I F G) → va_S A s.heap H locs → lv_has ls 2 [(0, .ref (a 11)), (1, .int y1)] → WW H locs (F0 m 2 ls [])) → K y1 I F G) ∧ (∀ (y1 : Int32) (I : xw_I) (F : xw_F) (G : xw_G), K y1 I F G → (∀ (H : Heap) (locs : List Loc) (ls : Array Slot), va_P D vwCl (xC_w cy a I F G) H → va_D A (xC_w cy a I F G) → va_S A s.heap H locs → lv_has ls 2 [(0, .ref (a 11)), (1, .int y1)] → WW H locs (F0 m 2 ls []))) := ⟨fun (y1 : Int32) (I : xw_I) (F : xw_F) (G : xw_G) => (∀ (H : Heap) (locs : List Loc) (ls : Array Slot), va_P D vwCl (xC_w cy a I F G) H → va_D A (xC_w cy a I F G) → va_S A s.heap H locs → lv_has ls 2 [(0, .ref (a 11)), (1, .int y1)] → WW H locs (F0 m 2 ls [])), fun _ _ _ _ h => h, fun _ _ _ _ h => h⟩
  have rl2 : ∀ (y1 : Int32) (I : xw_I) (F : xw_F) (G : xw_G), (bd_X3_dropLinks_2 post k2 y1 I F G) → k2 y1 I F G := by
    intro y1 I F G h
    refine mk2 _ _ _ _ ?_
    intro H locs ls hP hD hS hl
    refine (hWW _ _ _).mpr ?_
    unfold bd_X3_dropLinks_2 at h
    refine lv_iload_n hx hb dX3_dropLinks_2 rfl (lv_at hl 1 rfl) ?_
    refine lv_bipush (v := 12) hx hb dX3_dropLinks_3 (by decide) ?_
    refine lv_icmp_ge (tgt := 21) hx hb dX3_dropLinks_5 (by decide) (fun c4 => ?_) (fun c4 => ?_)
    · have h := h.1 c4
      exact xw_wretv hx hb hr hlocks hP hD hS h dX3_dropLinks_21
    · have h := h.2 c4
      refine lv_aload_n hx hb dX3_dropLinks_8 rfl (lv_at hl 0 rfl) ?_
      refine va_get (D := D) (ci := 3) (v := .ref (a 20)) (C := RX3) (T := TX3) (N := 3) hx hb hts mX3_dropLinks_inX3 hown hB.1 hP 11 xC_c11 rfl 1 (by decide) (hts _ mX3_dropLinks_1) (fun _ h9 => h9) rfl dX3_dropLinks_9 ?_
      refine lv_iload_n hx hb dX3_dropLinks_12 rfl (lv_at hl 1 rfl) ?_
      refine lv_iconst (v := 0) hx hb dX3_dropLinks_13 (by decide) ?_
      refine xw_iast hx hb hB hP hD hS 20 xC_c20 h.1 xC_f20 dX3_dropLinks_14 (fun H locs hP hD hS => ?_)
      have h := h.2
      obtain ⟨F5, eF5⟩ : ∃ f : xw_F, f = xw_up F 20 (upd (F 20) y1.toNatClampNeg (0 : Int32)) := ⟨_, rfl⟩
      rw [← eF5] at hP hD
      have h := h F5 eF5
      obtain ⟨v6, ev6⟩ : ∃ y : Int32, y = y1 + 1 := ⟨_, rfl⟩
      have h := h v6 ev6
      refine lv_iinc (v := v6) (lv' := [(1, .int v6), (0, .ref (a 11))]) hx hb dX3_dropLinks_15 hl (k := 1) rfl (by rw [ev6]; rfl) (by decide) rfl (fun ls hl => ?_)
      refine lv_goto (tgt := 2) hx hb dX3_dropLinks_18 (by decide) ?_
      exact (hWW _ _ _).mp (el2 _ _ _ _ h _ _ ls hP hD hS (lv_sub hl [1, 0] rfl))
  have h := h k2 rl2
  unfold bd_X3_dropLinks_0 at h
  refine lv_iconst (v := 0) hx hb dX3_dropLinks_0 (by decide) ?_
  refine lv_istore_n (lv' := [(1, .int (0 : Int32)), (0, .ref (a 11))]) hx hb dX3_dropLinks_1 rfl hl (by decide) rfl (fun ls hl => ?_)
  exact (hWW _ _ _).mp (el2 _ _ _ _ h _ _ ls hP hD hS (lv_sub hl [1, 0] rfl))

theorem mX3_countLinks_1 : Cond.fieldLink RX3 18 "TagCarrier$Sentences" "links" "[I" ∈ wsX3_countLinks := List.mem_of_getElem? (i := 1) rfl
theorem mX3_countLinks_inX3 : ∀ w ∈ u_ws RX3 TX3 3, w ∈ wsX3_countLinks := by decide +kernel
set_option maxHeartbeats 4000000 in
set_option maxRecDepth 100000 in
theorem c_X3_countLinks (l : Launch) (D : va_G) (cy : Nat → ClassId) (a : Nat → Nat) (I : xw_I) (F : xw_F) (G : xw_G) (post : Int32 → Prop) (h : sm_X3_countLinks I F G post) : xw_Ri l yX3_countLinks wsX3_countLinks ({ frames := 1, cells := 0, slots := 0, locals := 20 }) D cy [.ref (a 11)] (xC_w cy a I F G) post := by
  intro A
  refine Met.ofW (cc := cX3_countLinks) (maxL := 3) (ret := (some .int)) (by decide) rfl ?_
  intro p e s m args below meth c s₁ B hml hv
  obtain ⟨rfl, hP, hB, hD⟩ := hv
  have hP : va_P D vwCl (xC_w cy a I F G) s.heap := hP
  have hx := B.exec
  have hb := B.bytes
  have hr := B.returns
  have hts := atoms_spec (ws := wsX3_countLinks) B.pre
  have hown : s.vm.findClass RX3 = some m.cls := findClass_of_methodNamed B.named
  have hlocks := B.notSynchronized
  refine xw_go (fun WW hWW => ?_)
  have hl := lv_entry ([.ref (a 11)]) (n := 3) (Nat.le_of_ble_eq_true rfl)
  rw [lg_entry_eq]
  generalize (lg_sl ([.ref (a 11)]) ++ List.replicate (3 - (lg_sl ([.ref (a 11)])).length) Slot.unset).toArray = ls at hl ⊢
  have hl : lv_has ls 3 [(0, .ref (a 11))] := hl
  obtain ⟨k4, mk4, el4⟩ : ∃ K : Int32 → Int32 → Prop, (∀ (y1 : Int32) (y2 : Int32), (∀ (ls : Array Slot), lv_has ls 3 [(0, .ref (a 11)), (1, .int y1), (2, .int y2)] → WW s.heap [] (F0 m 4 ls [])) → K y1 y2) ∧ (∀ (y1 : Int32) (y2 : Int32), K y1 y2 → (∀ (ls : Array Slot), lv_has ls 3 [(0, .ref (a 11)), (1, .int y1), (2, .int y2)] → WW s.heap [] (F0 m 4 ls []))) := ⟨fun (y1 : Int32) (y2 : Int32) => (∀ (ls : Array Slot), lv_has ls 3 [(0, .ref (a 11)), (1, .int y1), (2, .int y2)] → WW s.heap [] (F0 m 4 ls [])), fun _ _ h => h, fun _ _ h => h⟩
  have rl4 : ∀ (y1 : Int32) (y2 : Int32), (bd_X3_countLinks_4 I F G post k4 y1 y2) → k4 y1 y2 := by
    intro y1 y2 h
    refine mk4 _ _ ?_
    intro ls hl
    refine (hWW _ _ _).mpr ?_
    unfold bd_X3_countLinks_4 at h
    refine lv_iload_n hx hb dX3_countLinks_4 rfl (lv_at hl 2 rfl) ?_
    refine lv_bipush (v := 12) hx hb dX3_countLinks_5 (by decide) ?_
    refine lv_icmp_ge (tgt := 28) hx hb dX3_countLinks_7 (by decide) (fun c5 => ?_) (fun c5 => ?_)
    · have h := h.1 c5
      refine lv_iload_n hx hb dX3_countLinks_28 rfl (lv_at hl 1 rfl) ?_
      exact xw_ireti hx hb hr hlocks h dX3_countLinks_29
    · have h := h.2 c5
      refine lv_iload_n hx hb dX3_countLinks_10 rfl (lv_at hl 1 rfl) ?_
      refine lv_aload_n hx hb dX3_countLinks_11 rfl (lv_at hl 0 rfl) ?_
      refine va_get (D := D) (ci := 3) (v := .ref (a 20)) (C := RX3) (T := TX3) (N := 3) hx hb hts mX3_countLinks_inX3 hown hB.1 hP 11 xC_c11 rfl 1 (by decide) (hts _ mX3_countLinks_1) (fun _ h9 => h9) rfl dX3_countLinks_12 ?_
      refine lv_iload_n hx hb dX3_countLinks_15 rfl (lv_at hl 2 rfl) ?_
      refine xw_iald hx hb hB hP 20 xC_c20 h.1 dX3_countLinks_16 (fun v6 ev6 => ?_)
      have h := h.2 v6 ev6
      refine xw_ri (va_runS (rm := { frames := 0, cells := 0, slots := 0, locals := 0 }) (As := [.int v6]) (rest := [.int y1]) ⟨hx, hb, hml, hown, hts⟩ (c_J6_bitCount_0f7a4 l D cy v6 _ h (fun _ => True)) (va_cwS 1 hts gX3_countLinks_J6_bitCount_0f7a4 rfl rfl rfl (by decide +kernel) ⟨Nat.le_of_ble_eq_true rfl, Nat.le_of_ble_eq_true rfl⟩) (xw_preS hB xw_P0 (xw_D0 (A := fun _ => True))) rfl rfl hl.1 rfl (lv_room (Nat.le_of_ble_eq_true rfl)) dX3_countLinks_17 ⟨Nat.le_of_ble_eq_true rfl, Nat.le_of_ble_eq_true rfl⟩) (fun r7 h => ?_)
      refine lv_iadd hx hb dX3_countLinks_20 ?_
      refine lv_topi (fun v8 ev8 => ?_)
      have h := h v8 ev8
      refine lv_istore_n (lv' := [(1, .int v8), (0, .ref (a 11)), (2, .int y2)]) hx hb dX3_countLinks_21 rfl hl (by decide) rfl (fun ls hl => ?_)
      obtain ⟨v9, ev9⟩ : ∃ y : Int32, y = y2 + 1 := ⟨_, rfl⟩
      have h := h v9 ev9
      refine lv_iinc (v := v9) (lv' := [(2, .int v9), (1, .int v8), (0, .ref (a 11))]) hx hb dX3_countLinks_22 hl (k := 2) rfl (by rw [ev9]; rfl) (by decide) rfl (fun ls hl => ?_)
      refine lv_goto (tgt := 4) hx hb dX3_countLinks_25 (by decide) ?_
      exact (hWW _ _ _).mp (el4 _ _ h ls (lv_sub hl [2, 1, 0] rfl))
  have h := h k4 rl4
  unfold bd_X3_countLinks_0 at h
  refine lv_iconst (v := 0) hx hb dX3_countLinks_0 (by decide) ?_
  refine lv_istore_n (lv' := [(1, .int (0 : Int32)), (0, .ref (a 11))]) hx hb dX3_countLinks_1 rfl hl (by decide) rfl (fun ls hl => ?_)
  refine lv_iconst (v := 0) hx hb dX3_countLinks_2 (by decide) ?_
  refine lv_istore_n (lv' := [(2, .int (0 : Int32)), (1, .int (0 : Int32)), (0, .ref (a 11))]) hx hb dX3_countLinks_3 rfl hl (by decide) rfl (fun ls hl => ?_)
  exact (hWW _ _ _).mp (el4 _ _ h ls (lv_sub hl [2, 1, 0] rfl))

theorem mX3_linkedBetween_1 : Cond.fieldLink RX3 18 "TagCarrier$Sentences" "links" "[I" ∈ wsX3_linkedBetween := List.mem_of_getElem? (i := 1) rfl
theorem mX3_linkedBetween_inX3 : ∀ w ∈ u_ws RX3 TX3 3, w ∈ wsX3_linkedBetween := by decide +kernel
set_option maxHeartbeats 4000000 in
set_option maxRecDepth 100000 in
theorem c_X3_linkedBetween (l : Launch) (D : va_G) (cy : Nat → ClassId) (a : Nat → Nat) (x1 : Int32) (x2 : Int32) (I : xw_I) (F : xw_F) (G : xw_G) (post : Int32 → Prop) (h : sm_X3_linkedBetween x1 x2 I F G post) : xw_Ri l yX3_linkedBetween wsX3_linkedBetween ({ frames := 0, cells := 0, slots := 0, locals := 0 }) D cy [.ref (a 11), .int x1, .int x2] (xC_w cy a I F G) post := by
  intro A
  refine Met.ofW (cc := cX3_linkedBetween) (maxL := 5) (ret := (some .int)) (by decide) rfl ?_
  intro p e s m args below meth c s₁ B hml hv
  obtain ⟨rfl, hP, hB, hD⟩ := hv
  have hP : va_P D vwCl (xC_w cy a I F G) s.heap := hP
  have hx := B.exec
  have hb := B.bytes
  have hr := B.returns
  have hts := atoms_spec (ws := wsX3_linkedBetween) B.pre
  have hown : s.vm.findClass RX3 = some m.cls := findClass_of_methodNamed B.named
  have hlocks := B.notSynchronized
  refine xw_go (fun WW hWW => ?_)
  have hl := lv_entry ([.ref (a 11), .int x1, .int x2]) (n := 5) (Nat.le_of_ble_eq_true rfl)
  rw [lg_entry_eq]
  generalize (lg_sl ([.ref (a 11), .int x1, .int x2]) ++ List.replicate (5 - (lg_sl ([.ref (a 11), .int x1, .int x2])).length) Slot.unset).toArray = ls at hl ⊢
  have hl : lv_has ls 5 [(0, .ref (a 11)), (1, .int x1), (2, .int x2)] := hl
  obtain ⟨k5, mk5, el5⟩ : ∃ K : Int32 → Int32 → Prop, (∀ (y3 : Int32) (y4 : Int32), (∀ (ls : Array Slot), lv_has ls 5 [(0, .ref (a 11)), (1, .int x1), (2, .int x2), (3, .int y3), (4, .int y4)] → WW s.heap [] (F0 m 5 ls [])) → K y3 y4) ∧ (∀ (y3 : Int32) (y4 : Int32), K y3 y4 → (∀ (ls : Array Slot), lv_has ls 5 [(0, .ref (a 11)), (1, .int x1), (2, .int x2), (3, .int y3), (4, .int y4)] → WW s.heap [] (F0 m 5 ls []))) := ⟨fun (y3 : Int32) (y4 : Int32) => (∀ (ls : Array Slot), lv_has ls 5 [(0, .ref (a 11)), (1, .int x1), (2, .int x2), (3, .int y3), (4, .int y4)] → WW s.heap [] (F0 m 5 ls [])), fun _ _ h => h, fun _ _ h => h⟩
  have rl5 : ∀ (y3 : Int32) (y4 : Int32), (bd_X3_linkedBetween_5 x1 x2 I F G post k5 y3 y4) → k5 y3 y4 := by
    intro y3 y4 h
    refine mk5 _ _ ?_
    intro ls hl
    refine (hWW _ _ _).mpr ?_
    unfold bd_X3_linkedBetween_5 at h
    refine lv_iload hx hb dX3_linkedBetween_5 (lv_at hl 4 rfl) ?_
    refine lv_bipush (v := 12) hx hb dX3_linkedBetween_7 (by decide) ?_
    refine lv_icmp_ge (tgt := 40) hx hb dX3_linkedBetween_9 (by decide) (fun c9 => ?_) (fun c9 => ?_)
    · have h := h.1 c9
      refine lv_iload_n hx hb dX3_linkedBetween_40 rfl (lv_at hl 3 rfl) ?_
      exact xw_ireti hx hb hr hlocks h dX3_linkedBetween_41
    · have h := h.2 c9
      refine lv_iload hx hb dX3_linkedBetween_12 (lv_at hl 4 rfl) ?_
      refine lv_iload_n hx hb dX3_linkedBetween_14 rfl (lv_at hl 1 rfl) ?_
      refine lv_icmp_lt (tgt := 34) hx hb dX3_linkedBetween_15 (by decide) (fun c10 => ?_) (fun c10 => ?_)
      · have h := h.1 c10
        obtain ⟨v11, ev11⟩ : ∃ y : Int32, y = y4 + 1 := ⟨_, rfl⟩
        have h := h v11 ev11
        refine lv_iinc (v := v11) (lv' := [(4, .int v11), (0, .ref (a 11)), (1, .int x1), (2, .int x2), (3, .int y3)]) hx hb dX3_linkedBetween_34 hl (k := 4) rfl (by rw [ev11]; rfl) (by decide) rfl (fun ls hl => ?_)
        refine lv_goto (tgt := 5) hx hb dX3_linkedBetween_37 (by decide) ?_
        exact (hWW _ _ _).mp (el5 _ _ h ls (lv_sub hl [1, 2, 3, 4, 0] rfl))
      · have h := h.2 c10
        refine lv_iload hx hb dX3_linkedBetween_18 (lv_at hl 4 rfl) ?_
        refine lv_iload_n hx hb dX3_linkedBetween_20 rfl (lv_at hl 2 rfl) ?_
        refine lv_icmp_ge (tgt := 34) hx hb dX3_linkedBetween_21 (by decide) (fun c12 => ?_) (fun c12 => ?_)
        · have h := h.1 c12
          obtain ⟨v13, ev13⟩ : ∃ y : Int32, y = y4 + 1 := ⟨_, rfl⟩
          have h := h v13 ev13
          refine lv_iinc (v := v13) (lv' := [(4, .int v13), (0, .ref (a 11)), (1, .int x1), (2, .int x2), (3, .int y3)]) hx hb dX3_linkedBetween_34 hl (k := 4) rfl (by rw [ev13]; rfl) (by decide) rfl (fun ls hl => ?_)
          refine lv_goto (tgt := 5) hx hb dX3_linkedBetween_37 (by decide) ?_
          exact (hWW _ _ _).mp (el5 _ _ h ls (lv_sub hl [1, 2, 3, 4, 0] rfl))
        · have h := h.2 c12
          refine lv_iload_n hx hb dX3_linkedBetween_24 rfl (lv_at hl 3 rfl) ?_
          refine lv_aload_n hx hb dX3_linkedBetween_25 rfl (lv_at hl 0 rfl) ?_
          refine va_get (D := D) (ci := 3) (v := .ref (a 20)) (C := RX3) (T := TX3) (N := 3) hx hb hts mX3_linkedBetween_inX3 hown hB.1 hP 11 xC_c11 rfl 1 (by decide) (hts _ mX3_linkedBetween_1) (fun _ h9 => h9) rfl dX3_linkedBetween_26 ?_
          refine lv_iload hx hb dX3_linkedBetween_29 (lv_at hl 4 rfl) ?_
          refine xw_iald hx hb hB hP 20 xC_c20 h.1 dX3_linkedBetween_31 (fun v14 ev14 => ?_)
          have h := h.2 v14 ev14
          refine lv_ior hx hb dX3_linkedBetween_32 ?_
          refine lv_topi (fun v15 ev15 => ?_)
          have h := h v15 ev15
          refine lv_istore_n (lv' := [(3, .int v15), (0, .ref (a 11)), (1, .int x1), (2, .int x2), (4, .int y4)]) hx hb dX3_linkedBetween_33 rfl hl (by decide) rfl (fun ls hl => ?_)
          obtain ⟨v16, ev16⟩ : ∃ y : Int32, y = y4 + 1 := ⟨_, rfl⟩
          have h := h v16 ev16
          refine lv_iinc (v := v16) (lv' := [(4, .int v16), (3, .int v15), (0, .ref (a 11)), (1, .int x1), (2, .int x2)]) hx hb dX3_linkedBetween_34 hl (k := 4) rfl (by rw [ev16]; rfl) (by decide) rfl (fun ls hl => ?_)
          refine lv_goto (tgt := 5) hx hb dX3_linkedBetween_37 (by decide) ?_
          exact (hWW _ _ _).mp (el5 _ _ h ls (lv_sub hl [2, 3, 4, 1, 0] rfl))
  have h := h k5 rl5
  unfold bd_X3_linkedBetween_0 at h
  refine lv_iconst (v := 0) hx hb dX3_linkedBetween_0 (by decide) ?_
  refine lv_istore_n (lv' := [(3, .int (0 : Int32)), (0, .ref (a 11)), (1, .int x1), (2, .int x2)]) hx hb dX3_linkedBetween_1 rfl hl (by decide) rfl (fun ls hl => ?_)
  refine lv_iconst (v := 0) hx hb dX3_linkedBetween_2 (by decide) ?_
  refine lv_istore (lv' := [(4, .int (0 : Int32)), (3, .int (0 : Int32)), (0, .ref (a 11)), (1, .int x1), (2, .int x2)]) hx hb dX3_linkedBetween_3 hl (by decide) rfl (fun ls hl => ?_)
  exact (hWW _ _ _).mp (el5 _ _ h ls (lv_sub hl [2, 3, 4, 1, 0] rfl))

theorem mX3_behindGreatest_2 : Cond.initialized RX7 ∈ wsX3_behindGreatest := List.mem_of_getElem? (i := 2) rfl
theorem mX3_behindGreatest_1 : Cond.static yX7_has ∈ wsX3_behindGreatest := List.mem_of_getElem? (i := 1) rfl
set_option maxHeartbeats 4000000 in
set_option maxRecDepth 100000 in
theorem c_X3_behindGreatest (l : Launch) (D : va_G) (cy : Nat → ClassId) (x0 : Int32) (post : Int32 → Prop) (h : sm_X3_behindGreatest x0 post) : xw_Ri l yX3_behindGreatest wsX3_behindGreatest ({ frames := 1, cells := 0, slots := 0, locals := 21 }) D cy [.int x0] ([]) post := by
  intro A
  refine Met.ofW (cc := cX3_behindGreatest) (maxL := 2) (ret := (some .int)) (by decide) rfl ?_
  intro p e s m args below meth c s₁ B hml hv
  obtain ⟨rfl, hP, hB, hD⟩ := hv
  have hP : va_P D vwCl ([]) s.heap := hP
  have hx := B.exec
  have hb := B.bytes
  have hr := B.returns
  have hts := atoms_spec (ws := wsX3_behindGreatest) B.pre
  have hown : s.vm.findClass RX3 = some m.cls := findClass_of_methodNamed B.named
  have hlocks := B.notSynchronized
  refine xw_go (fun WW hWW => ?_)
  have hl := lv_entry ([.int x0]) (n := 2) (Nat.le_of_ble_eq_true rfl)
  rw [lg_entry_eq]
  generalize (lg_sl ([.int x0]) ++ List.replicate (2 - (lg_sl ([.int x0])).length) Slot.unset).toArray = ls at hl ⊢
  have hl : lv_has ls 2 [(0, .int x0)] := hl
  obtain ⟨k3, mk3, el3⟩ : ∃ K : Int32 → Prop, (∀ (y1 : Int32), (∀ (ls : Array Slot), lv_has ls 2 [(0, .int x0), (1, .int y1)] → WW s.heap [] (F0 m 3 ls [])) → K y1) ∧ (∀ (y1 : Int32), K y1 → (∀ (ls : Array Slot), lv_has ls 2 [(0, .int x0), (1, .int y1)] → WW s.heap [] (F0 m 3 ls []))) := ⟨fun (y1 : Int32) => (∀ (ls : Array Slot), lv_has ls 2 [(0, .int x0), (1, .int y1)] → WW s.heap [] (F0 m 3 ls [])), fun _ h => h, fun _ h => h⟩
  have rl3 : ∀ (y1 : Int32), (bd_X3_behindGreatest_3 x0 post k3 y1) → k3 y1 := by
    intro y1 h
    refine mk3 _ ?_
    intro ls hl
    refine (hWW _ _ _).mpr ?_
    unfold bd_X3_behindGreatest_3 at h
    refine lv_iload_n hx hb dX3_behindGreatest_3 rfl (lv_at hl 1 rfl) ?_
    refine lv_if_lt (tgt := 25) hx hb dX3_behindGreatest_4 (by decide) (fun c4 => ?_) (fun c4 => ?_)
    · have h := h.1 c4
      refine lv_iconst (v := 0) hx hb dX3_behindGreatest_25 (by decide) ?_
      exact xw_ireti hx hb hr hlocks h dX3_behindGreatest_26
    · have h := h.2 c4
      refine lv_iload_n hx hb dX3_behindGreatest_7 rfl (lv_at hl 0 rfl) ?_
      refine lv_iload_n hx hb dX3_behindGreatest_8 rfl (lv_at hl 1 rfl) ?_
      refine xw_ri (va_runSN (rm := { frames := 0, cells := 0, slots := 0, locals := 0 }) (As := [.int x0, .int y1]) (rest := []) ⟨hx, hb, hml, hown, hts⟩ (c_X7_has l D cy x0 y1 _ h (fun _ => True)) (⟨va_cnB 2 hts gX3_behindGreatest_X7_has_n39 rfl rfl rfl (hB.2 10 _ rfl) (hts _ mX3_behindGreatest_2) (by decide +kernel) ⟨Nat.le_of_ble_eq_true rfl, Nat.le_of_ble_eq_true rfl⟩, hts _ mX3_behindGreatest_1, trivial⟩) (xw_preS hB xw_P0 (xw_D0 (A := fun _ => True))) rfl rfl hl.1 rfl (lv_room (Nat.le_of_ble_eq_true rfl)) dX3_behindGreatest_9 ⟨Nat.le_of_ble_eq_true rfl, Nat.le_of_ble_eq_true rfl⟩) (fun r5 h => ?_)
      refine lv_if_eq (tgt := 19) hx hb dX3_behindGreatest_12 (by decide) (fun c6 => ?_) (fun c6 => ?_)
      · have h := h.1 c6
        obtain ⟨v7, ev7⟩ : ∃ y : Int32, y = y1 + (-1) := ⟨_, rfl⟩
        have h := h v7 ev7
        refine lv_iinc (v := v7) (lv' := [(1, .int v7), (0, .int x0)]) hx hb dX3_behindGreatest_19 hl (k := 1) rfl (by rw [ev7]; rfl) (by decide) rfl (fun ls hl => ?_)
        refine lv_goto (tgt := 3) hx hb dX3_behindGreatest_22 (by decide) ?_
        exact (hWW _ _ _).mp (el3 _ h ls (lv_sub hl [1, 0] rfl))
      · have h := h.2 c6
        refine lv_iload_n hx hb dX3_behindGreatest_15 rfl (lv_at hl 1 rfl) ?_
        refine lv_iconst (v := 1) hx hb dX3_behindGreatest_16 (by decide) ?_
        refine lv_iadd hx hb dX3_behindGreatest_17 ?_
        exact xw_ireti hx hb hr hlocks h dX3_behindGreatest_18
  have h := h k3 rl3
  unfold bd_X3_behindGreatest_0 at h
  refine lv_bipush (v := 7) hx hb dX3_behindGreatest_0 (by decide) ?_
  refine lv_istore_n (lv' := [(1, .int (7 : Int32)), (0, .int x0)]) hx hb dX3_behindGreatest_2 rfl hl (by decide) rfl (fun ls hl => ?_)
  exact (hWW _ _ _).mp (el3 _ h ls (lv_sub hl [1, 0] rfl))

theorem mX3_least_2 : Cond.initialized RX7 ∈ wsX3_least := List.mem_of_getElem? (i := 2) rfl
theorem mX3_least_1 : Cond.static yX7_has ∈ wsX3_least := List.mem_of_getElem? (i := 1) rfl
set_option maxHeartbeats 4000000 in
set_option maxRecDepth 100000 in
theorem c_X3_least (l : Launch) (D : va_G) (cy : Nat → ClassId) (x0 : Int32) (post : Int32 → Prop) (h : sm_X3_least x0 post) : xw_Ri l yX3_least wsX3_least ({ frames := 1, cells := 0, slots := 0, locals := 21 }) D cy [.int x0] ([]) post := by
  intro A
  refine Met.ofW (cc := cX3_least) (maxL := 2) (ret := (some .int)) (by decide) rfl ?_
  intro p e s m args below meth c s₁ B hml hv
  obtain ⟨rfl, hP, hB, hD⟩ := hv
  have hP : va_P D vwCl ([]) s.heap := hP
  have hx := B.exec
  have hb := B.bytes
  have hr := B.returns
  have hts := atoms_spec (ws := wsX3_least) B.pre
  have hown : s.vm.findClass RX3 = some m.cls := findClass_of_methodNamed B.named
  have hlocks := B.notSynchronized
  refine xw_go (fun WW hWW => ?_)
  have hl := lv_entry ([.int x0]) (n := 2) (Nat.le_of_ble_eq_true rfl)
  rw [lg_entry_eq]
  generalize (lg_sl ([.int x0]) ++ List.replicate (2 - (lg_sl ([.int x0])).length) Slot.unset).toArray = ls at hl ⊢
  have hl : lv_has ls 2 [(0, .int x0)] := hl
  obtain ⟨k2, mk2, el2⟩ : ∃ K : Int32 → Prop, (∀ (y1 : Int32), (∀ (ls : Array Slot), lv_has ls 2 [(0, .int x0), (1, .int y1)] → WW s.heap [] (F0 m 2 ls [])) → K y1) ∧ (∀ (y1 : Int32), K y1 → (∀ (ls : Array Slot), lv_has ls 2 [(0, .int x0), (1, .int y1)] → WW s.heap [] (F0 m 2 ls []))) := ⟨fun (y1 : Int32) => (∀ (ls : Array Slot), lv_has ls 2 [(0, .int x0), (1, .int y1)] → WW s.heap [] (F0 m 2 ls [])), fun _ h => h, fun _ h => h⟩
  have rl2 : ∀ (y1 : Int32), (bd_X3_least_2 x0 post k2 y1) → k2 y1 := by
    intro y1 h
    refine mk2 _ ?_
    intro ls hl
    refine (hWW _ _ _).mpr ?_
    unfold bd_X3_least_2 at h
    refine lv_iload_n hx hb dX3_least_2 rfl (lv_at hl 1 rfl) ?_
    refine lv_bipush (v := 8) hx hb dX3_least_3 (by decide) ?_
    refine lv_icmp_ge (tgt := 24) hx hb dX3_least_5 (by decide) (fun c4 => ?_) (fun c4 => ?_)
    · have h := h.1 c4
      refine lv_iconst (v := 0) hx hb dX3_least_24 (by decide) ?_
      exact xw_ireti hx hb hr hlocks h dX3_least_25
    · have h := h.2 c4
      refine lv_iload_n hx hb dX3_least_8 rfl (lv_at hl 0 rfl) ?_
      refine lv_iload_n hx hb dX3_least_9 rfl (lv_at hl 1 rfl) ?_
      refine xw_ri (va_runSN (rm := { frames := 0, cells := 0, slots := 0, locals := 0 }) (As := [.int x0, .int y1]) (rest := []) ⟨hx, hb, hml, hown, hts⟩ (c_X7_has l D cy x0 y1 _ h (fun _ => True)) (⟨va_cnB 2 hts gX3_least_X7_has_n39 rfl rfl rfl (hB.2 10 _ rfl) (hts _ mX3_least_2) (by decide +kernel) ⟨Nat.le_of_ble_eq_true rfl, Nat.le_of_ble_eq_true rfl⟩, hts _ mX3_least_1, trivial⟩) (xw_preS hB xw_P0 (xw_D0 (A := fun _ => True))) rfl rfl hl.1 rfl (lv_room (Nat.le_of_ble_eq_true rfl)) dX3_least_10 ⟨Nat.le_of_ble_eq_true rfl, Nat.le_of_ble_eq_true rfl⟩) (fun r5 h => ?_)
      refine lv_if_eq (tgt := 18) hx hb dX3_least_13 (by decide) (fun c6 => ?_) (fun c6 => ?_)
      · have h := h.1 c6
        obtain ⟨v7, ev7⟩ : ∃ y : Int32, y = y1 + 1 := ⟨_, rfl⟩
        have h := h v7 ev7
        refine lv_iinc (v := v7) (lv' := [(1, .int v7), (0, .int x0)]) hx hb dX3_least_18 hl (k := 1) rfl (by rw [ev7]; rfl) (by decide) rfl (fun ls hl => ?_)
        refine lv_goto (tgt := 2) hx hb dX3_least_21 (by decide) ?_
        exact (hWW _ _ _).mp (el2 _ h ls (lv_sub hl [1, 0] rfl))
      · have h := h.2 c6
        refine lv_iload_n hx hb dX3_least_16 rfl (lv_at hl 1 rfl) ?_
        exact xw_ireti hx hb hr hlocks h dX3_least_17
  have h := h k2 rl2
  unfold bd_X3_least_0 at h
  refine lv_iconst (v := 0) hx hb dX3_least_0 (by decide) ?_
  refine lv_istore_n (lv' := [(1, .int (0 : Int32)), (0, .int x0)]) hx hb dX3_least_1 rfl hl (by decide) rfl (fun ls hl => ?_)
  exact (hWW _ _ _).mp (el2 _ h ls (lv_sub hl [1, 0] rfl))

theorem mX3_anchor_1 : Cond.fieldLink RX3 18 "TagCarrier$Sentences" "links" "[I" ∈ wsX3_anchor := List.mem_of_getElem? (i := 1) rfl
theorem mX3_anchor_inX3 : ∀ w ∈ u_ws RX3 TX3 3, w ∈ wsX3_anchor := by decide +kernel
set_option maxHeartbeats 4000000 in
set_option maxRecDepth 100000 in
theorem c_X3_anchor (l : Launch) (D : va_G) (cy : Nat → ClassId) (a : Nat → Nat) (x1 : Int32) (I : xw_I) (F : xw_F) (G : xw_G) (post : Int32 → Prop) (h : sm_X3_anchor x1 I F G post) : xw_Ri l yX3_anchor wsX3_anchor ({ frames := 2, cells := 0, slots := 0, locals := 42 }) D cy [.ref (a 11), .int x1] (xC_w cy a I F G) post := by
  intro A
  refine Met.ofW (cc := cX3_anchor) (maxL := 4) (ret := (some .int)) (by decide) rfl ?_
  intro p e s m args below meth c s₁ B hml hv
  obtain ⟨rfl, hP, hB, hD⟩ := hv
  have hP : va_P D vwCl (xC_w cy a I F G) s.heap := hP
  have hx := B.exec
  have hb := B.bytes
  have hr := B.returns
  have hts := atoms_spec (ws := wsX3_anchor) B.pre
  have hown : s.vm.findClass RX3 = some m.cls := findClass_of_methodNamed B.named
  have hlocks := B.notSynchronized
  refine xw_go (fun WW hWW => ?_)
  have hl := lv_entry ([.ref (a 11), .int x1]) (n := 4) (Nat.le_of_ble_eq_true rfl)
  rw [lg_entry_eq]
  generalize (lg_sl ([.ref (a 11), .int x1]) ++ List.replicate (4 - (lg_sl ([.ref (a 11), .int x1])).length) Slot.unset).toArray = ls at hl ⊢
  have hl : lv_has ls 4 [(0, .ref (a 11)), (1, .int x1)] := hl
  obtain ⟨k4, mk4, el4⟩ : ∃ K : Int32 → Int32 → Prop, (∀ (y2 : Int32) (y3 : Int32), (∀ (ls : Array Slot), lv_has ls 4 [(0, .ref (a 11)), (1, .int x1), (2, .int y2), (3, .int y3)] → WW s.heap [] (F0 m 4 ls [])) → K y2 y3) ∧ (∀ (y2 : Int32) (y3 : Int32), K y2 y3 → (∀ (ls : Array Slot), lv_has ls 4 [(0, .ref (a 11)), (1, .int x1), (2, .int y2), (3, .int y3)] → WW s.heap [] (F0 m 4 ls []))) := ⟨fun (y2 : Int32) (y3 : Int32) => (∀ (ls : Array Slot), lv_has ls 4 [(0, .ref (a 11)), (1, .int x1), (2, .int y2), (3, .int y3)] → WW s.heap [] (F0 m 4 ls [])), fun _ _ h => h, fun _ _ h => h⟩
  have rl4 : ∀ (y2 : Int32) (y3 : Int32), (bd_X3_anchor_4 x1 I F G post k4 y2 y3) → k4 y2 y3 := by
    intro y2 y3 h
    refine mk4 _ _ ?_
    intro ls hl
    refine (hWW _ _ _).mpr ?_
    unfold bd_X3_anchor_4 at h
    refine lv_iload_n hx hb dX3_anchor_4 rfl (lv_at hl 3 rfl) ?_
    refine lv_bipush (v := 12) hx hb dX3_anchor_5 (by decide) ?_
    refine lv_icmp_ge (tgt := 37) hx hb dX3_anchor_7 (by decide) (fun c9 => ?_) (fun c9 => ?_)
    · have h := h.1 c9
      refine lv_iload_n hx hb dX3_anchor_37 rfl (lv_at hl 2 rfl) ?_
      refine xw_ri (va_runS (rm := { frames := 1, cells := 0, slots := 0, locals := 21 }) (As := [.int y2]) (rest := []) ⟨hx, hb, hml, hown, hts⟩ (c_X3_behindGreatest l D cy y2 _ h (fun _ => True)) (va_cwS 1 hts gX3_anchor_X3_behindGreatest rfl rfl rfl (by decide +kernel) ⟨Nat.le_of_ble_eq_true rfl, Nat.le_of_ble_eq_true rfl⟩) (xw_preS hB xw_P0 (xw_D0 (A := fun _ => True))) rfl rfl hl.1 rfl (lv_room (Nat.le_of_ble_eq_true rfl)) dX3_anchor_38 ⟨Nat.le_of_ble_eq_true rfl, Nat.le_of_ble_eq_true rfl⟩) (fun r10 h => ?_)
      exact xw_ireti hx hb hr hlocks h dX3_anchor_41
    · have h := h.2 c9
      refine lv_iload_n hx hb dX3_anchor_10 rfl (lv_at hl 3 rfl) ?_
      refine lv_iload_n hx hb dX3_anchor_11 rfl (lv_at hl 1 rfl) ?_
      refine lv_icmp_ge (tgt := 31) hx hb dX3_anchor_12 (by decide) (fun c11 => ?_) (fun c11 => ?_)
      · have h := h.1 c11
        obtain ⟨v12, ev12⟩ : ∃ y : Int32, y = y3 + 1 := ⟨_, rfl⟩
        have h := h v12 ev12
        refine lv_iinc (v := v12) (lv' := [(3, .int v12), (0, .ref (a 11)), (1, .int x1), (2, .int y2)]) hx hb dX3_anchor_31 hl (k := 3) rfl (by rw [ev12]; rfl) (by decide) rfl (fun ls hl => ?_)
        refine lv_goto (tgt := 4) hx hb dX3_anchor_34 (by decide) ?_
        exact (hWW _ _ _).mp (el4 _ _ h ls (lv_sub hl [1, 2, 3, 0] rfl))
      · have h := h.2 c11
        refine lv_aload_n hx hb dX3_anchor_15 rfl (lv_at hl 0 rfl) ?_
        refine va_get (D := D) (ci := 3) (v := .ref (a 20)) (C := RX3) (T := TX3) (N := 3) hx hb hts mX3_anchor_inX3 hown hB.1 hP 11 xC_c11 rfl 1 (by decide) (hts _ mX3_anchor_1) (fun _ h9 => h9) rfl dX3_anchor_16 ?_
        refine lv_iload_n hx hb dX3_anchor_19 rfl (lv_at hl 3 rfl) ?_
        refine xw_iald hx hb hB hP 20 xC_c20 h.1 dX3_anchor_20 (fun v13 ev13 => ?_)
        have h := h.2 v13 ev13
        refine lv_if_eq (tgt := 31) hx hb dX3_anchor_21 (by decide) (fun c14 => ?_) (fun c14 => ?_)
        · have h := h.1 c14
          obtain ⟨v15, ev15⟩ : ∃ y : Int32, y = y3 + 1 := ⟨_, rfl⟩
          have h := h v15 ev15
          refine lv_iinc (v := v15) (lv' := [(3, .int v15), (0, .ref (a 11)), (1, .int x1), (2, .int y2)]) hx hb dX3_anchor_31 hl (k := 3) rfl (by rw [ev15]; rfl) (by decide) rfl (fun ls hl => ?_)
          refine lv_goto (tgt := 4) hx hb dX3_anchor_34 (by decide) ?_
          exact (hWW _ _ _).mp (el4 _ _ h ls (lv_sub hl [1, 2, 3, 0] rfl))
        · have h := h.2 c14
          refine lv_aload_n hx hb dX3_anchor_24 rfl (lv_at hl 0 rfl) ?_
          refine va_get (D := D) (ci := 3) (v := .ref (a 20)) (C := RX3) (T := TX3) (N := 3) hx hb hts mX3_anchor_inX3 hown hB.1 hP 11 xC_c11 rfl 1 (by decide) (hts _ mX3_anchor_1) (fun _ h9 => h9) rfl dX3_anchor_25 ?_
          refine lv_iload_n hx hb dX3_anchor_28 rfl (lv_at hl 3 rfl) ?_
          refine xw_iald hx hb hB hP 20 xC_c20 h.1 dX3_anchor_29 (fun v16 ev16 => ?_)
          have h := h.2 v16 ev16
          refine lv_istore_n (lv' := [(2, .int v16), (0, .ref (a 11)), (1, .int x1), (3, .int y3)]) hx hb dX3_anchor_30 rfl hl (by decide) rfl (fun ls hl => ?_)
          obtain ⟨v17, ev17⟩ : ∃ y : Int32, y = y3 + 1 := ⟨_, rfl⟩
          have h := h v17 ev17
          refine lv_iinc (v := v17) (lv' := [(3, .int v17), (2, .int v16), (0, .ref (a 11)), (1, .int x1)]) hx hb dX3_anchor_31 hl (k := 3) rfl (by rw [ev17]; rfl) (by decide) rfl (fun ls hl => ?_)
          refine lv_goto (tgt := 4) hx hb dX3_anchor_34 (by decide) ?_
          exact (hWW _ _ _).mp (el4 _ _ h ls (lv_sub hl [2, 3, 1, 0] rfl))
  have h := h k4 rl4
  unfold bd_X3_anchor_0 at h
  refine lv_iconst (v := 0) hx hb dX3_anchor_0 (by decide) ?_
  refine lv_istore_n (lv' := [(2, .int (0 : Int32)), (0, .ref (a 11)), (1, .int x1)]) hx hb dX3_anchor_1 rfl hl (by decide) rfl (fun ls hl => ?_)
  refine lv_iconst (v := 0) hx hb dX3_anchor_2 (by decide) ?_
  refine lv_istore_n (lv' := [(3, .int (0 : Int32)), (2, .int (0 : Int32)), (0, .ref (a 11)), (1, .int x1)]) hx hb dX3_anchor_3 rfl hl (by decide) rfl (fun ls hl => ?_)
  exact (hWW _ _ _).mp (el4 _ _ h ls (lv_sub hl [2, 3, 1, 0] rfl))

theorem mX4_depth_1 : Cond.fieldLink RX4 21 "TagCarrier$Source" "heldBy" "[I" ∈ wsX4_depth := List.mem_of_getElem? (i := 1) rfl
theorem mX4_depth_inX4 : ∀ w ∈ u_ws RX4 TX4 12, w ∈ wsX4_depth := by decide +kernel
set_option maxHeartbeats 4000000 in
set_option maxRecDepth 100000 in
theorem c_X4_depth (l : Launch) (D : va_G) (cy : Nat → ClassId) (a : Nat → Nat) (x1 : Int32) (I : xw_I) (F : xw_F) (G : xw_G) (post : Int32 → Prop) (h : sm_X4_depth x1 I F G post) : xw_Ri l yX4_depth wsX4_depth ({ frames := 1, cells := 0, slots := 0, locals := 20 }) D cy [.ref (a 12), .int x1] (xC_w cy a I F G) post := by
  intro A
  refine Met.ofW (cc := cX4_depth) (maxL := 2) (ret := (some .int)) (by decide) rfl ?_
  intro p e s m args below meth c s₁ B hml hv
  obtain ⟨rfl, hP, hB, hD⟩ := hv
  have hP : va_P D vwCl (xC_w cy a I F G) s.heap := hP
  have hx := B.exec
  have hb := B.bytes
  have hr := B.returns
  have hts := atoms_spec (ws := wsX4_depth) B.pre
  have hown : s.vm.findClass RX4 = some m.cls := findClass_of_methodNamed B.named
  have hlocks := B.notSynchronized
  refine xw_go (fun WW hWW => ?_)
  have hl := lv_entry ([.ref (a 12), .int x1]) (n := 2) (Nat.le_of_ble_eq_true rfl)
  rw [lg_entry_eq]
  generalize (lg_sl ([.ref (a 12), .int x1]) ++ List.replicate (2 - (lg_sl ([.ref (a 12), .int x1])).length) Slot.unset).toArray = ls at hl ⊢
  have hl : lv_has ls 2 [(0, .ref (a 12)), (1, .int x1)] := hl
  unfold sm_X4_depth at h
  refine lv_aload_n hx hb dX4_depth_0 rfl (lv_at hl 0 rfl) ?_
  refine va_get (D := D) (ci := 4) (v := .ref (a 16)) (C := RX4) (T := TX4) (N := 12) hx hb hts mX4_depth_inX4 hown hB.1 hP 12 xC_c12 rfl 8 (by decide) (hts _ mX4_depth_1) (fun _ h9 => h9) rfl dX4_depth_1 ?_
  refine lv_iload_n hx hb dX4_depth_4 rfl (lv_at hl 1 rfl) ?_
  refine xw_iald hx hb hB hP 16 xC_c16 h.1 dX4_depth_5 (fun v2 ev2 => ?_)
  have h := h.2 v2 ev2
  refine xw_ri (va_runS (rm := { frames := 0, cells := 0, slots := 0, locals := 0 }) (As := [.int v2]) (rest := []) ⟨hx, hb, hml, hown, hts⟩ (c_J6_bitCount_0f7a4 l D cy v2 _ h (fun _ => True)) (va_cwS 1 hts gX4_depth_J6_bitCount_0f7a4 rfl rfl rfl (by decide +kernel) ⟨Nat.le_of_ble_eq_true rfl, Nat.le_of_ble_eq_true rfl⟩) (xw_preS hB xw_P0 (xw_D0 (A := fun _ => True))) rfl rfl hl.1 rfl (lv_room (Nat.le_of_ble_eq_true rfl)) dX4_depth_6 ⟨Nat.le_of_ble_eq_true rfl, Nat.le_of_ble_eq_true rfl⟩) (fun r3 h => ?_)
  exact xw_ireti hx hb hr hlocks h dX4_depth_9

theorem mX4_countHolds_1 : Cond.fieldLink RX4 37 "TagCarrier$Source" "pairs" "I" ∈ wsX4_countHolds := List.mem_of_getElem? (i := 1) rfl
theorem mX4_countHolds_inX4 : ∀ w ∈ u_ws RX4 TX4 12, w ∈ wsX4_countHolds := by decide +kernel
theorem mX4_countHolds_4 : Cond.initialized RX7 ∈ wsX4_countHolds := List.mem_of_getElem? (i := 4) rfl
theorem mX4_countHolds_3 : Cond.static yX7_has ∈ wsX4_countHolds := List.mem_of_getElem? (i := 3) rfl
theorem mX4_countHolds_2 : Cond.fieldLink RX4 18 "TagCarrier$Source" "holds" "[I" ∈ wsX4_countHolds := List.mem_of_getElem? (i := 2) rfl
set_option maxHeartbeats 4000000 in
set_option maxRecDepth 100000 in
theorem c_X4_countHolds (l : Launch) (D : va_G) (cy : Nat → ClassId) (a : Nat → Nat) (I : xw_I) (F : xw_F) (G : xw_G) (post : Int32 → Prop) (h : sm_X4_countHolds I F G post) : xw_Ri l yX4_countHolds wsX4_countHolds ({ frames := 1, cells := 0, slots := 0, locals := 21 }) D cy [.ref (a 12)] (xC_w cy a I F G) post := by
  intro A
  refine Met.ofW (cc := cX4_countHolds) (maxL := 3) (ret := (some .int)) (by decide) rfl ?_
  intro p e s m args below meth c s₁ B hml hv
  obtain ⟨rfl, hP, hB, hD⟩ := hv
  have hP : va_P D vwCl (xC_w cy a I F G) s.heap := hP
  have hx := B.exec
  have hb := B.bytes
  have hr := B.returns
  have hts := atoms_spec (ws := wsX4_countHolds) B.pre
  have hown : s.vm.findClass RX4 = some m.cls := findClass_of_methodNamed B.named
  have hlocks := B.notSynchronized
  refine xw_go (fun WW hWW => ?_)
  have hl := lv_entry ([.ref (a 12)]) (n := 3) (Nat.le_of_ble_eq_true rfl)
  rw [lg_entry_eq]
  generalize (lg_sl ([.ref (a 12)]) ++ List.replicate (3 - (lg_sl ([.ref (a 12)])).length) Slot.unset).toArray = ls at hl ⊢
  have hl : lv_has ls 3 [(0, .ref (a 12))] := hl
  obtain ⟨k4, mk4, el4⟩ : ∃ K : Int32 → Int32 → Prop, (∀ (y1 : Int32) (y2 : Int32), (∀ (ls : Array Slot), lv_has ls 3 [(0, .ref (a 12)), (1, .int y1), (2, .int y2)] → WW s.heap [] (F0 m 4 ls [])) → K y1 y2) ∧ (∀ (y1 : Int32) (y2 : Int32), K y1 y2 → (∀ (ls : Array Slot), lv_has ls 3 [(0, .ref (a 12)), (1, .int y1), (2, .int y2)] → WW s.heap [] (F0 m 4 ls []))) := ⟨fun (y1 : Int32) (y2 : Int32) => (∀ (ls : Array Slot), lv_has ls 3 [(0, .ref (a 12)), (1, .int y1), (2, .int y2)] → WW s.heap [] (F0 m 4 ls [])), fun _ _ h => h, fun _ _ h => h⟩
  have rl4 : ∀ (y1 : Int32) (y2 : Int32), (bd_X4_countHolds_4 I F G post k4 y1 y2) → k4 y1 y2 := by
    intro y1 y2 h
    refine mk4 _ _ ?_
    intro ls hl
    refine (hWW _ _ _).mpr ?_
    unfold bd_X4_countHolds_4 at h
    refine lv_iload_n hx hb dX4_countHolds_4 rfl (lv_at hl 2 rfl) ?_
    refine lv_iconst (v := 5) hx hb dX4_countHolds_5 (by decide) ?_
    refine lv_icmp_ge (tgt := 38) hx hb dX4_countHolds_6 (by decide) (fun c7 => ?_) (fun c7 => ?_)
    · have h := h.1 c7
      refine lv_iload_n hx hb dX4_countHolds_38 rfl (lv_at hl 1 rfl) ?_
      exact xw_ireti hx hb hr hlocks h dX4_countHolds_39
    · have h := h.2 c7
      refine lv_aload_n hx hb dX4_countHolds_9 rfl (lv_at hl 0 rfl) ?_
      refine va_get (D := D) (ci := 4) (v := .int (I 8)) (C := RX4) (T := TX4) (N := 12) hx hb hts mX4_countHolds_inX4 hown hB.1 hP 12 xC_c12 rfl 1 (by decide) (hts _ mX4_countHolds_1) (fun _ h9 => h9) rfl dX4_countHolds_10 ?_
      refine lv_iload_n hx hb dX4_countHolds_13 rfl (lv_at hl 2 rfl) ?_
      refine xw_ri (va_runSN (rm := { frames := 0, cells := 0, slots := 0, locals := 0 }) (As := [.int (I 8), .int y2]) (rest := []) ⟨hx, hb, hml, hown, hts⟩ (c_X7_has l D cy (I 8) y2 _ h (fun _ => True)) (⟨va_cnB 2 hts gX4_countHolds_X7_has_n63 rfl rfl rfl (hB.2 8 _ rfl) (hts _ mX4_countHolds_4) (by decide +kernel) ⟨Nat.le_of_ble_eq_true rfl, Nat.le_of_ble_eq_true rfl⟩, hts _ mX4_countHolds_3, trivial⟩) (xw_preS hB xw_P0 (xw_D0 (A := fun _ => True))) rfl rfl hl.1 rfl (lv_room (Nat.le_of_ble_eq_true rfl)) dX4_countHolds_14 ⟨Nat.le_of_ble_eq_true rfl, Nat.le_of_ble_eq_true rfl⟩) (fun r8 h => ?_)
      refine lv_if_eq (tgt := 32) hx hb dX4_countHolds_17 (by decide) (fun c9 => ?_) (fun c9 => ?_)
      · have h := h.1 c9
        obtain ⟨v10, ev10⟩ : ∃ y : Int32, y = y2 + 1 := ⟨_, rfl⟩
        have h := h v10 ev10
        refine lv_iinc (v := v10) (lv' := [(2, .int v10), (0, .ref (a 12)), (1, .int y1)]) hx hb dX4_countHolds_32 hl (k := 2) rfl (by rw [ev10]; rfl) (by decide) rfl (fun ls hl => ?_)
        refine lv_goto (tgt := 4) hx hb dX4_countHolds_35 (by decide) ?_
        exact (hWW _ _ _).mp (el4 _ _ h ls (lv_sub hl [1, 2, 0] rfl))
      · have h := h.2 c9
        refine lv_iload_n hx hb dX4_countHolds_20 rfl (lv_at hl 1 rfl) ?_
        refine lv_aload_n hx hb dX4_countHolds_21 rfl (lv_at hl 0 rfl) ?_
        refine va_get (D := D) (ci := 4) (v := .ref (a 15)) (C := RX4) (T := TX4) (N := 12) hx hb hts mX4_countHolds_inX4 hown hB.1 hP 12 xC_c12 rfl 7 (by decide) (hts _ mX4_countHolds_2) (fun _ h9 => h9) rfl dX4_countHolds_22 ?_
        refine lv_iload_n hx hb dX4_countHolds_25 rfl (lv_at hl 2 rfl) ?_
        refine xw_iald hx hb hB hP 15 xC_c15 h.1 dX4_countHolds_26 (fun v11 ev11 => ?_)
        have h := h.2 v11 ev11
        refine xw_ri (va_runS (rm := { frames := 0, cells := 0, slots := 0, locals := 0 }) (As := [.int v11]) (rest := [.int y1]) ⟨hx, hb, hml, hown, hts⟩ (c_J6_bitCount_0f7a4 l D cy v11 _ h (fun _ => True)) (va_cwS 1 hts gX4_countHolds_J6_bitCount_0f7a4 rfl rfl rfl (by decide +kernel) ⟨Nat.le_of_ble_eq_true rfl, Nat.le_of_ble_eq_true rfl⟩) (xw_preS hB xw_P0 (xw_D0 (A := fun _ => True))) rfl rfl hl.1 rfl (lv_room (Nat.le_of_ble_eq_true rfl)) dX4_countHolds_27 ⟨Nat.le_of_ble_eq_true rfl, Nat.le_of_ble_eq_true rfl⟩) (fun r12 h => ?_)
        refine lv_iadd hx hb dX4_countHolds_30 ?_
        refine lv_topi (fun v13 ev13 => ?_)
        have h := h v13 ev13
        refine lv_istore_n (lv' := [(1, .int v13), (0, .ref (a 12)), (2, .int y2)]) hx hb dX4_countHolds_31 rfl hl (by decide) rfl (fun ls hl => ?_)
        obtain ⟨v14, ev14⟩ : ∃ y : Int32, y = y2 + 1 := ⟨_, rfl⟩
        have h := h v14 ev14
        refine lv_iinc (v := v14) (lv' := [(2, .int v14), (1, .int v13), (0, .ref (a 12))]) hx hb dX4_countHolds_32 hl (k := 2) rfl (by rw [ev14]; rfl) (by decide) rfl (fun ls hl => ?_)
        refine lv_goto (tgt := 4) hx hb dX4_countHolds_35 (by decide) ?_
        exact (hWW _ _ _).mp (el4 _ _ h ls (lv_sub hl [2, 1, 0] rfl))
  have h := h k4 rl4
  unfold bd_X4_countHolds_0 at h
  refine lv_iconst (v := 0) hx hb dX4_countHolds_0 (by decide) ?_
  refine lv_istore_n (lv' := [(1, .int (0 : Int32)), (0, .ref (a 12))]) hx hb dX4_countHolds_1 rfl hl (by decide) rfl (fun ls hl => ?_)
  refine lv_iconst (v := 0) hx hb dX4_countHolds_2 (by decide) ?_
  refine lv_istore_n (lv' := [(2, .int (0 : Int32)), (1, .int (0 : Int32)), (0, .ref (a 12))]) hx hb dX4_countHolds_3 rfl hl (by decide) rfl (fun ls hl => ?_)
  exact (hWW _ _ _).mp (el4 _ _ h ls (lv_sub hl [2, 1, 0] rfl))

theorem mX5_findPair_1 : Cond.fieldLink RX5 25 "TagCarrier$Sentences" "source" "LTagCarrier$Source;" ∈ wsX5_findPair := List.mem_of_getElem? (i := 1) rfl
theorem mX5_findPair_inX3 : ∀ w ∈ u_ws RX3 TX3 3, w ∈ wsX5_findPair := by decide +kernel
theorem mX5_findPair_2 : Cond.fieldLink RX5 54 "TagCarrier$Source" "opens" "[I" ∈ wsX5_findPair := List.mem_of_getElem? (i := 2) rfl
theorem mX5_findPair_inX4 : ∀ w ∈ u_ws RX4 TX4 12, w ∈ wsX5_findPair := by decide +kernel
theorem mX5_findPair_3 : Cond.fieldLink RX5 57 "TagCarrier$Source" "closes" "[I" ∈ wsX5_findPair := List.mem_of_getElem? (i := 3) rfl
theorem mX5_findPair_5 : Cond.fieldLink RX5 9 "TagCarrier$Wanted" "from" "[I" ∈ wsX5_findPair := List.mem_of_getElem? (i := 5) rfl
theorem mX5_findPair_inX5 : ∀ w ∈ u_ws RX5 TX5 4, w ∈ wsX5_findPair := by decide +kernel
theorem mX5_findPair_6 : Cond.fieldLink RX5 15 "TagCarrier$Wanted" "to" "[I" ∈ wsX5_findPair := List.mem_of_getElem? (i := 6) rfl
theorem mX5_findPair_4 : Cond.fieldLink RX5 21 "TagCarrier$Wanted" "missing" "I" ∈ wsX5_findPair := List.mem_of_getElem? (i := 4) rfl
set_option maxHeartbeats 4000000 in
set_option maxRecDepth 100000 in
theorem c_X5_findPair (l : Launch) (D : va_G) (cy : Nat → ClassId) (a : Nat → Nat) (x2 : Int32) (I : xw_I) (F : xw_F) (G : xw_G) (post : xw_I → xw_F → xw_G → Prop) (h : sm_X5_findPair x2 I F G post) : xw_Wv l yX5_findPair wsX5_findPair ({ frames := 3, cells := 0, slots := 0, locals := 65 }) D cy [.ref (a 21), .ref (a 11), .int x2] (xC_w cy a I F G) (xC_w cy a) post := by
  intro A
  refine Met.ofW (cc := cX5_findPair) (maxL := 5) (ret := none) (by decide) rfl ?_
  intro p e s m args below meth c s₁ B hml hv
  obtain ⟨rfl, hP, hB, hD⟩ := hv
  have hP : va_P D vwCl (xC_w cy a I F G) s.heap := hP
  have hx := B.exec
  have hb := B.bytes
  have hr := B.returns
  have hts := atoms_spec (ws := wsX5_findPair) B.pre
  have hown : s.vm.findClass RX5 = some m.cls := findClass_of_methodNamed B.named
  have hlocks := B.notSynchronized
  have hS : va_S A s.heap s.heap [] := va_S.rf
  refine xw_go (fun WW hWW => ?_)
  have hl := lv_entry ([.ref (a 21), .ref (a 11), .int x2]) (n := 5) (Nat.le_of_ble_eq_true rfl)
  rw [lg_entry_eq]
  generalize (lg_sl ([.ref (a 21), .ref (a 11), .int x2]) ++ List.replicate (5 - (lg_sl ([.ref (a 21), .ref (a 11), .int x2])).length) Slot.unset).toArray = ls at hl ⊢
  have hl : lv_has ls 5 [(0, .ref (a 21)), (1, .ref (a 11)), (2, .int x2)] := hl
  unfold sm_X5_findPair at h
  refine lv_aload_n hx hb dX5_findPair_0 rfl (lv_at hl 1 rfl) ?_
  refine va_get (D := D) (ci := 3) (v := .ref (a 12)) (C := RX3) (T := TX3) (N := 3) hx hb hts mX5_findPair_inX3 hown hB.1 hP 11 xC_c11 rfl 0 (by decide) (hts _ mX5_findPair_1) (fun _ h9 => h9) rfl dX5_findPair_1 ?_
  refine va_get (D := D) (ci := 4) (v := .ref (a 13)) (C := RX4) (T := TX4) (N := 12) hx hb hts mX5_findPair_inX4 hown hB.1 hP 12 xC_c12 rfl 5 (by decide) (hts _ mX5_findPair_2) (fun _ h9 => h9) rfl dX5_findPair_4 ?_
  refine lv_iload_n hx hb dX5_findPair_7 rfl (lv_at hl 2 rfl) ?_
  refine xw_iald hx hb hB hP 13 xC_c13 h.1 dX5_findPair_8 (fun v9 ev9 => ?_)
  have h := h.2 v9 ev9
  refine lv_istore_n (lv' := [(3, .int v9), (0, .ref (a 21)), (1, .ref (a 11)), (2, .int x2)]) hx hb dX5_findPair_9 rfl hl (by decide) rfl (fun ls hl => ?_)
  refine lv_aload_n hx hb dX5_findPair_10 rfl (lv_at hl 2 rfl) ?_
  refine lv_iload_n hx hb dX5_findPair_11 rfl (lv_at hl 0 rfl) ?_
  refine lv_aload_n hx hb dX5_findPair_12 rfl (lv_at hl 2 rfl) ?_
  refine va_get (D := D) (ci := 3) (v := .ref (a 12)) (C := RX3) (T := TX3) (N := 3) hx hb hts mX5_findPair_inX3 hown hB.1 hP 11 xC_c11 rfl 0 (by decide) (hts _ mX5_findPair_1) (fun _ h9 => h9) rfl dX5_findPair_13 ?_
  refine va_get (D := D) (ci := 4) (v := .ref (a 14)) (C := RX4) (T := TX4) (N := 12) hx hb hts mX5_findPair_inX4 hown hB.1 hP 12 xC_c12 rfl 6 (by decide) (hts _ mX5_findPair_3) (fun _ h9 => h9) rfl dX5_findPair_16 ?_
  refine lv_iload_n hx hb dX5_findPair_19 rfl (lv_at hl 3 rfl) ?_
  refine xw_iald hx hb hB hP 14 xC_c14 h.1 dX5_findPair_20 (fun v10 ev10 => ?_)
  have h := h.2 v10 ev10
  refine xw_ri (va_runV (rm := { frames := 0, cells := 0, slots := 0, locals := 0 }) (As := [.int v9, .int v10]) (rest := []) ⟨hx, hb, hml, hown, hts⟩ (c_X3_linkedBetween l D cy a v9 v10 I F G _ h A) (cwV 2 hts gX5_findPair_X3_linkedBetween rfl rfl rfl (by decide +kernel) ⟨Nat.le_of_ble_eq_true rfl, Nat.le_of_ble_eq_true rfl⟩) (xw_preV hB hP hD (ci := 3) rfl xC_c11) rfl rfl hl.1 rfl (lv_room (Nat.le_of_ble_eq_true rfl)) dX5_findPair_21 ⟨Nat.le_of_ble_eq_true rfl, Nat.le_of_ble_eq_true rfl⟩) (fun r11 h => ?_)
  refine lv_istore (lv' := [(4, .int r11), (3, .int v9), (0, .ref (a 21)), (1, .ref (a 11)), (2, .int x2)]) hx hb dX5_findPair_24 hl (by decide) rfl (fun ls hl => ?_)
  refine lv_iload hx hb dX5_findPair_26 (lv_at hl 0 rfl) ?_
  refine lv_if_ne (tgt := 69) hx hb dX5_findPair_28 (by decide) (fun c12 => ?_) (fun c12 => ?_)
  · have h := h.1 c12
    refine lv_aload_n hx hb dX5_findPair_69 rfl (lv_at hl 2 rfl) ?_
    refine va_get (D := D) (ci := 5) (v := .ref (a 22)) (C := RX5) (T := TX5) (N := 4) hx hb hts mX5_findPair_inX5 hown hB.1 hP 21 xC_c21 rfl 0 (by decide) (hts _ mX5_findPair_5) (fun _ h9 => h9) rfl dX5_findPair_70 ?_
    refine lv_iload_n hx hb dX5_findPair_73 rfl (lv_at hl 4 rfl) ?_
    refine lv_iload hx hb dX5_findPair_74 (lv_at hl 0 rfl) ?_
    refine xw_ri (va_runS (rm := { frames := 1, cells := 0, slots := 0, locals := 21 }) (As := [.int r11]) (rest := [.int x2, .ref (a 22)]) ⟨hx, hb, hml, hown, hts⟩ (c_X3_least l D cy r11 _ h (fun _ => True)) (va_cwS 1 hts gX5_findPair_X3_least rfl rfl rfl (by decide +kernel) ⟨Nat.le_of_ble_eq_true rfl, Nat.le_of_ble_eq_true rfl⟩) (xw_preS hB xw_P0 (xw_D0 (A := fun _ => True))) rfl rfl hl.1 rfl (lv_room (Nat.le_of_ble_eq_true rfl)) dX5_findPair_76 ⟨Nat.le_of_ble_eq_true rfl, Nat.le_of_ble_eq_true rfl⟩) (fun r13 h => ?_)
    refine xw_iast hx hb hB hP hD hS 22 xC_c22 h.1 xC_f22 dX5_findPair_79 (fun H locs hP hD hS => ?_)
    have h := h.2
    obtain ⟨F14, eF14⟩ : ∃ f : xw_F, f = xw_up F 22 (upd (F 22) x2.toNatClampNeg r13) := ⟨_, rfl⟩
    rw [← eF14] at hP hD
    have h := h F14 eF14
    refine lv_aload_n hx hb dX5_findPair_80 rfl (lv_at hl 2 rfl) ?_
    refine va_get (D := D) (ci := 5) (v := .ref (a 23)) (C := RX5) (T := TX5) (N := 4) hx hb hts mX5_findPair_inX5 hown hB.1 hP 21 xC_c21 rfl 1 (by decide) (hts _ mX5_findPair_6) (fun _ h9 => h9) rfl dX5_findPair_81 ?_
    refine lv_iload_n hx hb dX5_findPair_84 rfl (lv_at hl 4 rfl) ?_
    refine lv_iload hx hb dX5_findPair_85 (lv_at hl 0 rfl) ?_
    refine xw_ri (va_runS (rm := { frames := 1, cells := 0, slots := 0, locals := 21 }) (As := [.int r11]) (rest := [.int x2, .ref (a 23)]) ⟨hx, hb, hml, hown, hts⟩ (c_X3_behindGreatest l D cy r11 _ h (fun _ => True)) (va_cwS 1 hts gX5_findPair_X3_behindGreatest rfl rfl rfl (by decide +kernel) ⟨Nat.le_of_ble_eq_true rfl, Nat.le_of_ble_eq_true rfl⟩) (xw_preS hB xw_P0 (xw_D0 (A := fun _ => True))) rfl rfl hl.1 rfl (lv_room (Nat.le_of_ble_eq_true rfl)) dX5_findPair_87 ⟨Nat.le_of_ble_eq_true rfl, Nat.le_of_ble_eq_true rfl⟩) (fun r15 h => ?_)
    refine xw_iast hx hb hB hP hD hS 23 xC_c23 h.1 xC_f23 dX5_findPair_90 (fun H locs hP hD hS => ?_)
    have h := h.2
    obtain ⟨F16, eF16⟩ : ∃ f : xw_F, f = xw_up F14 23 (upd (F14 23) x2.toNatClampNeg r15) := ⟨_, rfl⟩
    rw [← eF16] at hP hD
    have h := h F16 eF16
    exact xw_wretv hx hb hr hlocks hP hD hS h dX5_findPair_91
  · have h := h.2 c12
    refine lv_aload_n hx hb dX5_findPair_31 rfl (lv_at hl 2 rfl) ?_
    refine lv_dup hx hb dX5_findPair_32 rfl ?_
    refine va_get (D := D) (ci := 5) (v := .int (I 13)) (C := RX5) (T := TX5) (N := 4) hx hb hts mX5_findPair_inX5 hown hB.1 hP 21 xC_c21 rfl 3 (by decide) (hts _ mX5_findPair_4) (fun _ h9 => h9) rfl dX5_findPair_33 ?_
    refine lv_iconst (v := 1) hx hb dX5_findPair_36 (by decide) ?_
    refine lv_iload_n hx hb dX5_findPair_37 rfl (lv_at hl 4 rfl) ?_
    refine lv_ishl hx hb dX5_findPair_38 ?_
    refine lv_ior hx hb dX5_findPair_39 ?_
    refine xw_put (D := D) (ci := 5) (v := .int ((I 13) ||| ((1 : Int32) <<< (x2 &&& 31)))) (ty := .int) (C := RX5) (T := TX5) (N := 4) hx hb hts mX5_findPair_inX5 tyX5 tyX5_ok nmX5 hown hB hP hD hS 21 xC_c21 rfl 3 (by decide) (hts _ mX5_findPair_4) (fun _ h9 => h9) rfl (by decide +kernel) rfl rfl (Nat.le_of_ble_eq_true rfl) xC_i13 dX5_findPair_40 (fun H locs hP hD hS => ?_)
    obtain ⟨I17, eI17⟩ : ∃ f : xw_I, f = xw_up I 13 ((I 13) ||| ((1 : Int32) <<< (x2 &&& 31))) := ⟨_, rfl⟩
    rw [← eI17] at hP hD
    have h := h I17 eI17
    refine lv_aload_n hx hb dX5_findPair_43 rfl (lv_at hl 2 rfl) ?_
    refine va_get (D := D) (ci := 5) (v := .ref (a 22)) (C := RX5) (T := TX5) (N := 4) hx hb hts mX5_findPair_inX5 hown hB.1 hP 21 xC_c21 rfl 0 (by decide) (hts _ mX5_findPair_5) (fun _ h9 => h9) rfl dX5_findPair_44 ?_
    refine lv_iload_n hx hb dX5_findPair_47 rfl (lv_at hl 4 rfl) ?_
    refine lv_aload_n hx hb dX5_findPair_48 rfl (lv_at hl 3 rfl) ?_
    refine lv_iload_n hx hb dX5_findPair_49 rfl (lv_at hl 1 rfl) ?_
    refine xw_ri (va_runV (rm := { frames := 2, cells := 0, slots := 0, locals := 42 }) (As := [.int v9]) (rest := [.int x2, .ref (a 22)]) ⟨hx, hb, hml, hown, hts⟩ (c_X3_anchor l D cy a v9 I17 F G _ h A) (cwV 1 hts gX5_findPair_X3_anchor rfl rfl rfl (by decide +kernel) ⟨Nat.le_of_ble_eq_true rfl, Nat.le_of_ble_eq_true rfl⟩) (xw_preV hB hP hD (ci := 3) rfl xC_c11) rfl rfl hl.1 rfl (lv_room (Nat.le_of_ble_eq_true rfl)) dX5_findPair_50 ⟨Nat.le_of_ble_eq_true rfl, Nat.le_of_ble_eq_true rfl⟩) (fun r18 h => ?_)
    refine xw_iast hx hb hB hP hD hS 22 xC_c22 h.1 xC_f22 dX5_findPair_53 (fun H locs hP hD hS => ?_)
    have h := h.2
    obtain ⟨F19, eF19⟩ : ∃ f : xw_F, f = xw_up F 22 (upd (F 22) x2.toNatClampNeg r18) := ⟨_, rfl⟩
    rw [← eF19] at hP hD
    have h := h F19 eF19
    refine lv_aload_n hx hb dX5_findPair_54 rfl (lv_at hl 2 rfl) ?_
    refine va_get (D := D) (ci := 5) (v := .ref (a 23)) (C := RX5) (T := TX5) (N := 4) hx hb hts mX5_findPair_inX5 hown hB.1 hP 21 xC_c21 rfl 1 (by decide) (hts _ mX5_findPair_6) (fun _ h9 => h9) rfl dX5_findPair_55 ?_
    refine lv_iload_n hx hb dX5_findPair_58 rfl (lv_at hl 4 rfl) ?_
    refine lv_aload_n hx hb dX5_findPair_59 rfl (lv_at hl 2 rfl) ?_
    refine va_get (D := D) (ci := 5) (v := .ref (a 22)) (C := RX5) (T := TX5) (N := 4) hx hb hts mX5_findPair_inX5 hown hB.1 hP 21 xC_c21 rfl 0 (by decide) (hts _ mX5_findPair_5) (fun _ h9 => h9) rfl dX5_findPair_60 ?_
    refine lv_iload_n hx hb dX5_findPair_63 rfl (lv_at hl 4 rfl) ?_
    refine xw_iald hx hb hB hP 22 xC_c22 h.1 dX5_findPair_64 (fun v20 ev20 => ?_)
    have h := h.2 v20 ev20
    refine xw_iast hx hb hB hP hD hS 23 xC_c23 h.1 xC_f23 dX5_findPair_65 (fun H locs hP hD hS => ?_)
    have h := h.2
    obtain ⟨F21, eF21⟩ : ∃ f : xw_F, f = xw_up F19 23 (upd (F19 23) x2.toNatClampNeg v20) := ⟨_, rfl⟩
    rw [← eF21] at hP hD
    have h := h F21 eF21
    refine lv_goto (tgt := 91) hx hb dX5_findPair_66 (by decide) ?_
    exact xw_wretv hx hb hr hlocks hP hD hS h dX5_findPair_91

theorem mX5_find_1 : Cond.fieldLink RX5 21 "TagCarrier$Wanted" "missing" "I" ∈ wsX5_find := List.mem_of_getElem? (i := 1) rfl
theorem mX5_find_inX5 : ∀ w ∈ u_ws RX5 TX5 4, w ∈ wsX5_find := by decide +kernel
theorem mX5_find_2 : Cond.fieldLink RX5 25 "TagCarrier$Sentences" "source" "LTagCarrier$Source;" ∈ wsX5_find := List.mem_of_getElem? (i := 2) rfl
theorem mX5_find_inX3 : ∀ w ∈ u_ws RX3 TX3 3, w ∈ wsX5_find := by decide +kernel
theorem mX5_find_3 : Cond.fieldLink RX5 31 "TagCarrier$Source" "pairs" "I" ∈ wsX5_find := List.mem_of_getElem? (i := 3) rfl
theorem mX5_find_inX4 : ∀ w ∈ u_ws RX4 TX4 12, w ∈ wsX5_find := by decide +kernel
theorem mX5_find_8 : Cond.initialized RX7 ∈ wsX5_find := List.mem_of_getElem? (i := 8) rfl
theorem mX5_find_7 : Cond.static yX7_has ∈ wsX5_find := List.mem_of_getElem? (i := 7) rfl
theorem mX5_find_4 : Cond.fieldLink RX5 44 "TagCarrier$Source" "marks" "I" ∈ wsX5_find := List.mem_of_getElem? (i := 4) rfl
theorem mX5_find_5 : Cond.fieldLink RX5 18 "TagCarrier$Wanted" "mark" "[I" ∈ wsX5_find := List.mem_of_getElem? (i := 5) rfl
theorem mX5_find_6 : Cond.fieldLink RX5 47 "TagCarrier$Source" "markGap" "[I" ∈ wsX5_find := List.mem_of_getElem? (i := 6) rfl
set_option maxHeartbeats 4000000 in
set_option maxRecDepth 100000 in
theorem c_X5_find (l : Launch) (D : va_G) (cy : Nat → ClassId) (a : Nat → Nat) (I : xw_I) (F : xw_F) (G : xw_G) (post : xw_I → xw_F → xw_G → Prop) (h : sm_X5_find I F G post) : xw_Wv l yX5_find wsX5_find ({ frames := 4, cells := 0, slots := 0, locals := 89 }) D cy [.ref (a 21), .ref (a 11)] (xC_w cy a I F G) (xC_w cy a) post := by
  intro A
  refine Met.ofW (cc := cX5_find) (maxL := 3) (ret := none) (by decide) rfl ?_
  intro p e s m args below meth c s₁ B hml hv
  obtain ⟨rfl, hP, hB, hD⟩ := hv
  have hP : va_P D vwCl (xC_w cy a I F G) s.heap := hP
  have hx := B.exec
  have hb := B.bytes
  have hr := B.returns
  have hts := atoms_spec (ws := wsX5_find) B.pre
  have hown : s.vm.findClass RX5 = some m.cls := findClass_of_methodNamed B.named
  have hlocks := B.notSynchronized
  have hS : va_S A s.heap s.heap [] := va_S.rf
  refine xw_go (fun WW hWW => ?_)
  have hl := lv_entry ([.ref (a 21), .ref (a 11)]) (n := 3) (Nat.le_of_ble_eq_true rfl)
  rw [lg_entry_eq]
  generalize (lg_sl ([.ref (a 21), .ref (a 11)]) ++ List.replicate (3 - (lg_sl ([.ref (a 21), .ref (a 11)])).length) Slot.unset).toArray = ls at hl ⊢
  have hl : lv_has ls 3 [(0, .ref (a 21)), (1, .ref (a 11))] := hl
  obtain ⟨k7, mk7, el7⟩ : ∃ K : Int32 → xw_I → xw_F → xw_G → Prop, (∀ (y2 : Int32) (I : xw_I) (F : xw_F) (G : xw_G), (∀ (H : Heap) (locs : List Loc) (ls : Array Slot), va_P D vwCl (xC_w cy a I F G) H → va_D A (xC_w cy a I F G) → va_S A s.heap H locs → lv_has ls 3 [(0, .ref (a 21)), (1, .ref (a 11)), (2, .int y2)] → WW H locs (F0 m 7 ls [])) → K y2 I F G) ∧ (∀ (y2 : Int32) (I : xw_I) (F : xw_F) (G : xw_G), K y2 I F G → (∀ (H : Heap) (locs : List Loc) (ls : Array Slot), va_P D vwCl (xC_w cy a I F G) H → va_D A (xC_w cy a I F G) → va_S A s.heap H locs → lv_has ls 3 [(0, .ref (a 21)), (1, .ref (a 11)), (2, .int y2)] → WW H locs (F0 m 7 ls []))) := ⟨fun (y2 : Int32) (I : xw_I) (F : xw_F) (G : xw_G) => (∀ (H : Heap) (locs : List Loc) (ls : Array Slot), va_P D vwCl (xC_w cy a I F G) H → va_D A (xC_w cy a I F G) → va_S A s.heap H locs → lv_has ls 3 [(0, .ref (a 21)), (1, .ref (a 11)), (2, .int y2)] → WW H locs (F0 m 7 ls [])), fun _ _ _ _ h => h, fun _ _ _ _ h => h⟩
  obtain ⟨k40, mk40, el40⟩ : ∃ K : Int32 → xw_I → xw_F → xw_G → Prop, (∀ (y2 : Int32) (I : xw_I) (F : xw_F) (G : xw_G), (∀ (H : Heap) (locs : List Loc) (ls : Array Slot), va_P D vwCl (xC_w cy a I F G) H → va_D A (xC_w cy a I F G) → va_S A s.heap H locs → lv_has ls 3 [(0, .ref (a 21)), (1, .ref (a 11)), (2, .int y2)] → WW H locs (F0 m 40 ls [])) → K y2 I F G) ∧ (∀ (y2 : Int32) (I : xw_I) (F : xw_F) (G : xw_G), K y2 I F G → (∀ (H : Heap) (locs : List Loc) (ls : Array Slot), va_P D vwCl (xC_w cy a I F G) H → va_D A (xC_w cy a I F G) → va_S A s.heap H locs → lv_has ls 3 [(0, .ref (a 21)), (1, .ref (a 11)), (2, .int y2)] → WW H locs (F0 m 40 ls []))) := ⟨fun (y2 : Int32) (I : xw_I) (F : xw_F) (G : xw_G) => (∀ (H : Heap) (locs : List Loc) (ls : Array Slot), va_P D vwCl (xC_w cy a I F G) H → va_D A (xC_w cy a I F G) → va_S A s.heap H locs → lv_has ls 3 [(0, .ref (a 21)), (1, .ref (a 11)), (2, .int y2)] → WW H locs (F0 m 40 ls [])), fun _ _ _ _ h => h, fun _ _ _ _ h => h⟩
  have rl7 : ∀ (y2 : Int32) (I : xw_I) (F : xw_F) (G : xw_G), (bd_X5_find_7 post k7 k40 y2 I F G) → k7 y2 I F G := by
    intro y2 I F G h
    refine mk7 _ _ _ _ ?_
    intro H locs ls hP hD hS hl
    refine (hWW _ _ _).mpr ?_
    unfold bd_X5_find_7 at h
    refine lv_iload_n hx hb dX5_find_7 rfl (lv_at hl 2 rfl) ?_
    refine lv_iconst (v := 5) hx hb dX5_find_8 (by decide) ?_
    refine lv_icmp_ge (tgt := 38) hx hb dX5_find_9 (by decide) (fun c12 => ?_) (fun c12 => ?_)
    · have h := h.1 c12
      refine lv_iconst (v := 0) hx hb dX5_find_38 (by decide) ?_
      refine lv_istore_n (lv' := [(2, .int (0 : Int32)), (0, .ref (a 21)), (1, .ref (a 11))]) hx hb dX5_find_39 rfl hl (by decide) rfl (fun ls hl => ?_)
      exact (hWW _ _ _).mp (el40 _ _ _ _ h _ _ ls hP hD hS (lv_sub hl [1, 2, 0] rfl))
    · have h := h.2 c12
      refine lv_aload_n hx hb dX5_find_12 rfl (lv_at hl 1 rfl) ?_
      refine va_get (D := D) (ci := 3) (v := .ref (a 12)) (C := RX3) (T := TX3) (N := 3) hx hb hts mX5_find_inX3 hown hB.1 hP 11 xC_c11 rfl 0 (by decide) (hts _ mX5_find_2) (fun _ h9 => h9) rfl dX5_find_13 ?_
      refine va_get (D := D) (ci := 4) (v := .int (I 8)) (C := RX4) (T := TX4) (N := 12) hx hb hts mX5_find_inX4 hown hB.1 hP 12 xC_c12 rfl 1 (by decide) (hts _ mX5_find_3) (fun _ h9 => h9) rfl dX5_find_16 ?_
      refine lv_iload_n hx hb dX5_find_19 rfl (lv_at hl 2 rfl) ?_
      refine xw_ri (va_runSN (rm := { frames := 0, cells := 0, slots := 0, locals := 0 }) (As := [.int (I 8), .int y2]) (rest := []) ⟨hx, hb, hml, hown, hts⟩ (c_X7_has l D cy (I 8) y2 _ h (fun _ => True)) (⟨va_cnB 2 hts gX5_find_X7_has_n36 rfl rfl rfl (hB.2 9 _ rfl) (hts _ mX5_find_8) (by decide +kernel) ⟨Nat.le_of_ble_eq_true rfl, Nat.le_of_ble_eq_true rfl⟩, hts _ mX5_find_7, trivial⟩) (xw_preS hB xw_P0 (xw_D0 (A := fun _ => True))) rfl rfl hl.1 rfl (lv_room (Nat.le_of_ble_eq_true rfl)) dX5_find_20 ⟨Nat.le_of_ble_eq_true rfl, Nat.le_of_ble_eq_true rfl⟩) (fun r13 h => ?_)
      refine lv_if_eq (tgt := 32) hx hb dX5_find_23 (by decide) (fun c14 => ?_) (fun c14 => ?_)
      · have h := h.1 c14
        obtain ⟨v15, ev15⟩ : ∃ y : Int32, y = y2 + 1 := ⟨_, rfl⟩
        have h := h v15 ev15
        refine lv_iinc (v := v15) (lv' := [(2, .int v15), (0, .ref (a 21)), (1, .ref (a 11))]) hx hb dX5_find_32 hl (k := 2) rfl (by rw [ev15]; rfl) (by decide) rfl (fun ls hl => ?_)
        refine lv_goto (tgt := 7) hx hb dX5_find_35 (by decide) ?_
        exact (hWW _ _ _).mp (el7 _ _ _ _ h _ _ ls hP hD hS (lv_sub hl [1, 2, 0] rfl))
      · have h := h.2 c14
        refine lv_aload_n hx hb dX5_find_26 rfl (lv_at hl 0 rfl) ?_
        refine lv_aload_n hx hb dX5_find_27 rfl (lv_at hl 1 rfl) ?_
        refine lv_iload_n hx hb dX5_find_28 rfl (lv_at hl 2 rfl) ?_
        refine xw_wv (va_runV (rm := { frames := 3, cells := 0, slots := 0, locals := 65 }) (As := [.ref (a 11), .int y2]) (rest := []) ⟨hx, hb, hml, hown, hts⟩ (c_X5_findPair l D cy a y2 I F G _ h A) (cwV 2 hts gX5_find_X5_findPair rfl rfl rfl (by decide +kernel) ⟨Nat.le_of_ble_eq_true rfl, Nat.le_of_ble_eq_true rfl⟩) (xw_preV hB hP hD (ci := 5) rfl xC_c21) rfl rfl hl.1 rfl (lv_room (Nat.le_of_ble_eq_true rfl)) dX5_find_29 ⟨Nat.le_of_ble_eq_true rfl, Nat.le_of_ble_eq_true rfl⟩) hS (fun I16 F16 G16 H locs h hP hD hS => ?_)
        obtain ⟨v17, ev17⟩ : ∃ y : Int32, y = y2 + 1 := ⟨_, rfl⟩
        have h := h v17 ev17
        refine lv_iinc (v := v17) (lv' := [(2, .int v17), (0, .ref (a 21)), (1, .ref (a 11))]) hx hb dX5_find_32 hl (k := 2) rfl (by rw [ev17]; rfl) (by decide) rfl (fun ls hl => ?_)
        refine lv_goto (tgt := 7) hx hb dX5_find_35 (by decide) ?_
        exact (hWW _ _ _).mp (el7 _ _ _ _ h _ _ ls hP hD hS (lv_sub hl [1, 2, 0] rfl))
  have rl40 : ∀ (y2 : Int32) (I : xw_I) (F : xw_F) (G : xw_G), (bd_X5_find_40 post k7 k40 y2 I F G) → k40 y2 I F G := by
    intro y2 I F G h
    refine mk40 _ _ _ _ ?_
    intro H locs ls hP hD hS hl
    refine (hWW _ _ _).mpr ?_
    unfold bd_X5_find_40 at h
    refine lv_iload_n hx hb dX5_find_40 rfl (lv_at hl 2 rfl) ?_
    refine lv_iconst (v := 3) hx hb dX5_find_41 (by decide) ?_
    refine lv_icmp_ge (tgt := 84) hx hb dX5_find_42 (by decide) (fun c18 => ?_) (fun c18 => ?_)
    · have h := h.1 c18
      exact xw_wretv hx hb hr hlocks hP hD hS h dX5_find_84
    · have h := h.2 c18
      refine lv_aload_n hx hb dX5_find_45 rfl (lv_at hl 1 rfl) ?_
      refine va_get (D := D) (ci := 3) (v := .ref (a 12)) (C := RX3) (T := TX3) (N := 3) hx hb hts mX5_find_inX3 hown hB.1 hP 11 xC_c11 rfl 0 (by decide) (hts _ mX5_find_2) (fun _ h9 => h9) rfl dX5_find_46 ?_
      refine va_get (D := D) (ci := 4) (v := .int (I 9)) (C := RX4) (T := TX4) (N := 12) hx hb hts mX5_find_inX4 hown hB.1 hP 12 xC_c12 rfl 2 (by decide) (hts _ mX5_find_4) (fun _ h9 => h9) rfl dX5_find_49 ?_
      refine lv_iload_n hx hb dX5_find_52 rfl (lv_at hl 2 rfl) ?_
      refine xw_ri (va_runSN (rm := { frames := 0, cells := 0, slots := 0, locals := 0 }) (As := [.int (I 9), .int y2]) (rest := []) ⟨hx, hb, hml, hown, hts⟩ (c_X7_has l D cy (I 9) y2 _ h (fun _ => True)) (⟨va_cnB 2 hts gX5_find_X7_has_n36 rfl rfl rfl (hB.2 9 _ rfl) (hts _ mX5_find_8) (by decide +kernel) ⟨Nat.le_of_ble_eq_true rfl, Nat.le_of_ble_eq_true rfl⟩, hts _ mX5_find_7, trivial⟩) (xw_preS hB xw_P0 (xw_D0 (A := fun _ => True))) rfl rfl hl.1 rfl (lv_room (Nat.le_of_ble_eq_true rfl)) dX5_find_53 ⟨Nat.le_of_ble_eq_true rfl, Nat.le_of_ble_eq_true rfl⟩) (fun r19 h => ?_)
      refine lv_if_eq (tgt := 78) hx hb dX5_find_56 (by decide) (fun c20 => ?_) (fun c20 => ?_)
      · have h := h.1 c20
        obtain ⟨v21, ev21⟩ : ∃ y : Int32, y = y2 + 1 := ⟨_, rfl⟩
        have h := h v21 ev21
        refine lv_iinc (v := v21) (lv' := [(2, .int v21), (0, .ref (a 21)), (1, .ref (a 11))]) hx hb dX5_find_78 hl (k := 2) rfl (by rw [ev21]; rfl) (by decide) rfl (fun ls hl => ?_)
        refine lv_goto (tgt := 40) hx hb dX5_find_81 (by decide) ?_
        exact (hWW _ _ _).mp (el40 _ _ _ _ h _ _ ls hP hD hS (lv_sub hl [1, 2, 0] rfl))
      · have h := h.2 c20
        refine lv_aload_n hx hb dX5_find_59 rfl (lv_at hl 0 rfl) ?_
        refine va_get (D := D) (ci := 5) (v := .ref (a 24)) (C := RX5) (T := TX5) (N := 4) hx hb hts mX5_find_inX5 hown hB.1 hP 21 xC_c21 rfl 2 (by decide) (hts _ mX5_find_5) (fun _ h9 => h9) rfl dX5_find_60 ?_
        refine lv_iload_n hx hb dX5_find_63 rfl (lv_at hl 2 rfl) ?_
        refine lv_aload_n hx hb dX5_find_64 rfl (lv_at hl 1 rfl) ?_
        refine lv_aload_n hx hb dX5_find_65 rfl (lv_at hl 1 rfl) ?_
        refine va_get (D := D) (ci := 3) (v := .ref (a 12)) (C := RX3) (T := TX3) (N := 3) hx hb hts mX5_find_inX3 hown hB.1 hP 11 xC_c11 rfl 0 (by decide) (hts _ mX5_find_2) (fun _ h9 => h9) rfl dX5_find_66 ?_
        refine va_get (D := D) (ci := 4) (v := .ref (a 17)) (C := RX4) (T := TX4) (N := 12) hx hb hts mX5_find_inX4 hown hB.1 hP 12 xC_c12 rfl 9 (by decide) (hts _ mX5_find_6) (fun _ h9 => h9) rfl dX5_find_69 ?_
        refine lv_iload_n hx hb dX5_find_72 rfl (lv_at hl 2 rfl) ?_
        refine xw_iald hx hb hB hP 17 xC_c17 h.1 dX5_find_73 (fun v22 ev22 => ?_)
        have h := h.2 v22 ev22
        refine xw_ri (va_runV (rm := { frames := 2, cells := 0, slots := 0, locals := 42 }) (As := [.int v22]) (rest := [.int y2, .ref (a 24)]) ⟨hx, hb, hml, hown, hts⟩ (c_X3_anchor l D cy a v22 I F G _ h A) (cwV 1 hts gX5_find_X3_anchor rfl rfl rfl (by decide +kernel) ⟨Nat.le_of_ble_eq_true rfl, Nat.le_of_ble_eq_true rfl⟩) (xw_preV hB hP hD (ci := 3) rfl xC_c11) rfl rfl hl.1 rfl (lv_room (Nat.le_of_ble_eq_true rfl)) dX5_find_74 ⟨Nat.le_of_ble_eq_true rfl, Nat.le_of_ble_eq_true rfl⟩) (fun r23 h => ?_)
        refine xw_iast hx hb hB hP hD hS 24 xC_c24 h.1 xC_f24 dX5_find_77 (fun H locs hP hD hS => ?_)
        have h := h.2
        obtain ⟨F24, eF24⟩ : ∃ f : xw_F, f = xw_up F 24 (upd (F 24) y2.toNatClampNeg r23) := ⟨_, rfl⟩
        rw [← eF24] at hP hD
        have h := h F24 eF24
        obtain ⟨v25, ev25⟩ : ∃ y : Int32, y = y2 + 1 := ⟨_, rfl⟩
        have h := h v25 ev25
        refine lv_iinc (v := v25) (lv' := [(2, .int v25), (0, .ref (a 21)), (1, .ref (a 11))]) hx hb dX5_find_78 hl (k := 2) rfl (by rw [ev25]; rfl) (by decide) rfl (fun ls hl => ?_)
        refine lv_goto (tgt := 40) hx hb dX5_find_81 (by decide) ?_
        exact (hWW _ _ _).mp (el40 _ _ _ _ h _ _ ls hP hD hS (lv_sub hl [1, 2, 0] rfl))
  have h := h k7 k40 rl7 rl40
  unfold bd_X5_find_0 at h
  refine lv_aload_n hx hb dX5_find_0 rfl (lv_at hl 0 rfl) ?_
  refine lv_iconst (v := 0) hx hb dX5_find_1 (by decide) ?_
  refine xw_put (D := D) (ci := 5) (v := .int (0 : Int32)) (ty := .int) (C := RX5) (T := TX5) (N := 4) hx hb hts mX5_find_inX5 tyX5 tyX5_ok nmX5 hown hB hP hD hS 21 xC_c21 rfl 3 (by decide) (hts _ mX5_find_1) (fun _ h9 => h9) rfl (by decide +kernel) rfl rfl (Nat.le_of_ble_eq_true rfl) xC_i13 dX5_find_2 (fun H locs hP hD hS => ?_)
  obtain ⟨I11, eI11⟩ : ∃ f : xw_I, f = xw_up I 13 (0 : Int32) := ⟨_, rfl⟩
  rw [← eI11] at hP hD
  have h := h I11 eI11
  refine lv_iconst (v := 0) hx hb dX5_find_5 (by decide) ?_
  refine lv_istore_n (lv' := [(2, .int (0 : Int32)), (0, .ref (a 21)), (1, .ref (a 11))]) hx hb dX5_find_6 rfl hl (by decide) rfl (fun ls hl => ?_)
  exact (hWW _ _ _).mp (el7 _ _ _ _ h _ _ ls hP hD hS (lv_sub hl [1, 2, 0] rfl))

theorem mX5_overlapsFromAhead_1 : Cond.fieldLink RX5 9 "TagCarrier$Wanted" "from" "[I" ∈ wsX5_overlapsFromAhead := List.mem_of_getElem? (i := 1) rfl
theorem mX5_overlapsFromAhead_inX5 : ∀ w ∈ u_ws RX5 TX5 4, w ∈ wsX5_overlapsFromAhead := by decide +kernel
theorem mX5_overlapsFromAhead_2 : Cond.fieldLink RX5 15 "TagCarrier$Wanted" "to" "[I" ∈ wsX5_overlapsFromAhead := List.mem_of_getElem? (i := 2) rfl
set_option maxHeartbeats 4000000 in
set_option maxRecDepth 100000 in
theorem c_X5_overlapsFromAhead (l : Launch) (D : va_G) (cy : Nat → ClassId) (a : Nat → Nat) (x1 : Int32) (x2 : Int32) (I : xw_I) (F : xw_F) (G : xw_G) (post : Int32 → Prop) (h : sm_X5_overlapsFromAhead x1 x2 I F G post) : xw_Ri l yX5_overlapsFromAhead wsX5_overlapsFromAhead ({ frames := 0, cells := 0, slots := 0, locals := 0 }) D cy [.ref (a 21), .int x1, .int x2] (xC_w cy a I F G) post := by
  intro A
  refine Met.ofW (cc := cX5_overlapsFromAhead) (maxL := 3) (ret := (some .boolean)) (by decide) rfl ?_
  intro p e s m args below meth c s₁ B hml hv
  obtain ⟨rfl, hP, hB, hD⟩ := hv
  have hP : va_P D vwCl (xC_w cy a I F G) s.heap := hP
  have hx := B.exec
  have hb := B.bytes
  have hr := B.returns
  have hts := atoms_spec (ws := wsX5_overlapsFromAhead) B.pre
  have hown : s.vm.findClass RX5 = some m.cls := findClass_of_methodNamed B.named
  have hlocks := B.notSynchronized
  refine xw_go (fun WW hWW => ?_)
  have hl := lv_entry ([.ref (a 21), .int x1, .int x2]) (n := 3) (Nat.le_of_ble_eq_true rfl)
  rw [lg_entry_eq]
  generalize (lg_sl ([.ref (a 21), .int x1, .int x2]) ++ List.replicate (3 - (lg_sl ([.ref (a 21), .int x1, .int x2])).length) Slot.unset).toArray = ls at hl ⊢
  have hl : lv_has ls 3 [(0, .ref (a 21)), (1, .int x1), (2, .int x2)] := hl
  unfold sm_X5_overlapsFromAhead at h
  refine lv_aload_n hx hb dX5_overlapsFromAhead_0 rfl (lv_at hl 0 rfl) ?_
  refine va_get (D := D) (ci := 5) (v := .ref (a 22)) (C := RX5) (T := TX5) (N := 4) hx hb hts mX5_overlapsFromAhead_inX5 hown hB.1 hP 21 xC_c21 rfl 0 (by decide) (hts _ mX5_overlapsFromAhead_1) (fun _ h9 => h9) rfl dX5_overlapsFromAhead_1 ?_
  refine lv_iload_n hx hb dX5_overlapsFromAhead_4 rfl (lv_at hl 1 rfl) ?_
  refine xw_iald hx hb hB hP 22 xC_c22 h.1 dX5_overlapsFromAhead_5 (fun v10 ev10 => ?_)
  have h := h.2 v10 ev10
  refine lv_aload_n hx hb dX5_overlapsFromAhead_6 rfl (lv_at hl 0 rfl) ?_
  refine va_get (D := D) (ci := 5) (v := .ref (a 22)) (C := RX5) (T := TX5) (N := 4) hx hb hts mX5_overlapsFromAhead_inX5 hown hB.1 hP 21 xC_c21 rfl 0 (by decide) (hts _ mX5_overlapsFromAhead_1) (fun _ h9 => h9) rfl dX5_overlapsFromAhead_7 ?_
  refine lv_iload_n hx hb dX5_overlapsFromAhead_10 rfl (lv_at hl 2 rfl) ?_
  refine xw_iald hx hb hB hP 22 xC_c22 h.1 dX5_overlapsFromAhead_11 (fun v11 ev11 => ?_)
  have h := h.2 v11 ev11
  refine lv_icmp_ge (tgt := 49) hx hb dX5_overlapsFromAhead_12 (by decide) (fun c12 => ?_) (fun c12 => ?_)
  · have h := h.1 c12
    refine lv_iconst (v := 0) hx hb dX5_overlapsFromAhead_49 (by decide) ?_
    exact xw_iretz hx hb hr hlocks rfl h dX5_overlapsFromAhead_50
  · have h := h.2 c12
    refine lv_aload_n hx hb dX5_overlapsFromAhead_15 rfl (lv_at hl 0 rfl) ?_
    refine va_get (D := D) (ci := 5) (v := .ref (a 22)) (C := RX5) (T := TX5) (N := 4) hx hb hts mX5_overlapsFromAhead_inX5 hown hB.1 hP 21 xC_c21 rfl 0 (by decide) (hts _ mX5_overlapsFromAhead_1) (fun _ h9 => h9) rfl dX5_overlapsFromAhead_16 ?_
    refine lv_iload_n hx hb dX5_overlapsFromAhead_19 rfl (lv_at hl 2 rfl) ?_
    refine xw_iald hx hb hB hP 22 xC_c22 h.1 dX5_overlapsFromAhead_20 (fun v13 ev13 => ?_)
    have h := h.2 v13 ev13
    refine lv_aload_n hx hb dX5_overlapsFromAhead_21 rfl (lv_at hl 0 rfl) ?_
    refine va_get (D := D) (ci := 5) (v := .ref (a 23)) (C := RX5) (T := TX5) (N := 4) hx hb hts mX5_overlapsFromAhead_inX5 hown hB.1 hP 21 xC_c21 rfl 1 (by decide) (hts _ mX5_overlapsFromAhead_2) (fun _ h9 => h9) rfl dX5_overlapsFromAhead_22 ?_
    refine lv_iload_n hx hb dX5_overlapsFromAhead_25 rfl (lv_at hl 1 rfl) ?_
    refine xw_iald hx hb hB hP 23 xC_c23 h.1 dX5_overlapsFromAhead_26 (fun v14 ev14 => ?_)
    have h := h.2 v14 ev14
    refine lv_icmp_ge (tgt := 49) hx hb dX5_overlapsFromAhead_27 (by decide) (fun c15 => ?_) (fun c15 => ?_)
    · have h := h.1 c15
      refine lv_iconst (v := 0) hx hb dX5_overlapsFromAhead_49 (by decide) ?_
      exact xw_iretz hx hb hr hlocks rfl h dX5_overlapsFromAhead_50
    · have h := h.2 c15
      refine lv_aload_n hx hb dX5_overlapsFromAhead_30 rfl (lv_at hl 0 rfl) ?_
      refine va_get (D := D) (ci := 5) (v := .ref (a 23)) (C := RX5) (T := TX5) (N := 4) hx hb hts mX5_overlapsFromAhead_inX5 hown hB.1 hP 21 xC_c21 rfl 1 (by decide) (hts _ mX5_overlapsFromAhead_2) (fun _ h9 => h9) rfl dX5_overlapsFromAhead_31 ?_
      refine lv_iload_n hx hb dX5_overlapsFromAhead_34 rfl (lv_at hl 1 rfl) ?_
      refine xw_iald hx hb hB hP 23 xC_c23 h.1 dX5_overlapsFromAhead_35 (fun v16 ev16 => ?_)
      have h := h.2 v16 ev16
      refine lv_aload_n hx hb dX5_overlapsFromAhead_36 rfl (lv_at hl 0 rfl) ?_
      refine va_get (D := D) (ci := 5) (v := .ref (a 23)) (C := RX5) (T := TX5) (N := 4) hx hb hts mX5_overlapsFromAhead_inX5 hown hB.1 hP 21 xC_c21 rfl 1 (by decide) (hts _ mX5_overlapsFromAhead_2) (fun _ h9 => h9) rfl dX5_overlapsFromAhead_37 ?_
      refine lv_iload_n hx hb dX5_overlapsFromAhead_40 rfl (lv_at hl 2 rfl) ?_
      refine xw_iald hx hb hB hP 23 xC_c23 h.1 dX5_overlapsFromAhead_41 (fun v17 ev17 => ?_)
      have h := h.2 v17 ev17
      refine lv_icmp_ge (tgt := 49) hx hb dX5_overlapsFromAhead_42 (by decide) (fun c18 => ?_) (fun c18 => ?_)
      · have h := h.1 c18
        refine lv_iconst (v := 0) hx hb dX5_overlapsFromAhead_49 (by decide) ?_
        exact xw_iretz hx hb hr hlocks rfl h dX5_overlapsFromAhead_50
      · have h := h.2 c18
        refine lv_iconst (v := 1) hx hb dX5_overlapsFromAhead_45 (by decide) ?_
        refine lv_goto (tgt := 50) hx hb dX5_overlapsFromAhead_46 (by decide) ?_
        exact xw_iretz hx hb hr hlocks rfl h dX5_overlapsFromAhead_50

set_option maxHeartbeats 4000000 in
set_option maxRecDepth 100000 in
theorem c_X5_cross (l : Launch) (D : va_G) (cy : Nat → ClassId) (a : Nat → Nat) (x1 : Int32) (x2 : Int32) (I : xw_I) (F : xw_F) (G : xw_G) (post : Int32 → Prop) (h : sm_X5_cross x1 x2 I F G post) : xw_Ri l yX5_cross wsX5_cross ({ frames := 1, cells := 0, slots := 0, locals := 22 }) D cy [.ref (a 21), .int x1, .int x2] (xC_w cy a I F G) post := by
  intro A
  refine Met.ofW (cc := cX5_cross) (maxL := 3) (ret := (some .boolean)) (by decide) rfl ?_
  intro p e s m args below meth c s₁ B hml hv
  obtain ⟨rfl, hP, hB, hD⟩ := hv
  have hP : va_P D vwCl (xC_w cy a I F G) s.heap := hP
  have hx := B.exec
  have hb := B.bytes
  have hr := B.returns
  have hts := atoms_spec (ws := wsX5_cross) B.pre
  have hown : s.vm.findClass RX5 = some m.cls := findClass_of_methodNamed B.named
  have hlocks := B.notSynchronized
  refine xw_go (fun WW hWW => ?_)
  have hl := lv_entry ([.ref (a 21), .int x1, .int x2]) (n := 3) (Nat.le_of_ble_eq_true rfl)
  rw [lg_entry_eq]
  generalize (lg_sl ([.ref (a 21), .int x1, .int x2]) ++ List.replicate (3 - (lg_sl ([.ref (a 21), .int x1, .int x2])).length) Slot.unset).toArray = ls at hl ⊢
  have hl : lv_has ls 3 [(0, .ref (a 21)), (1, .int x1), (2, .int x2)] := hl
  unfold sm_X5_cross at h
  refine lv_aload_n hx hb dX5_cross_0 rfl (lv_at hl 0 rfl) ?_
  refine lv_iload_n hx hb dX5_cross_1 rfl (lv_at hl 1 rfl) ?_
  refine lv_iload_n hx hb dX5_cross_2 rfl (lv_at hl 2 rfl) ?_
  refine xw_ri (va_runV (rm := { frames := 0, cells := 0, slots := 0, locals := 0 }) (As := [.int x1, .int x2]) (rest := []) ⟨hx, hb, hml, hown, hts⟩ (c_X5_overlapsFromAhead l D cy a x1 x2 I F G _ h A) (cwV 2 hts gX5_cross_X5_overlapsFromAhead rfl rfl rfl (by decide +kernel) ⟨Nat.le_of_ble_eq_true rfl, Nat.le_of_ble_eq_true rfl⟩) (xw_preV hB hP hD (ci := 5) rfl xC_c21) rfl rfl hl.1 rfl (lv_room (Nat.le_of_ble_eq_true rfl)) dX5_cross_3 ⟨Nat.le_of_ble_eq_true rfl, Nat.le_of_ble_eq_true rfl⟩) (fun r3 h => ?_)
  refine lv_if_ne (tgt := 18) hx hb dX5_cross_6 (by decide) (fun c4 => ?_) (fun c4 => ?_)
  · have h := h.1 c4
    refine lv_iconst (v := 1) hx hb dX5_cross_18 (by decide) ?_
    refine lv_goto (tgt := 23) hx hb dX5_cross_19 (by decide) ?_
    exact xw_iretz hx hb hr hlocks rfl h dX5_cross_23
  · have h := h.2 c4
    refine lv_aload_n hx hb dX5_cross_9 rfl (lv_at hl 0 rfl) ?_
    refine lv_iload_n hx hb dX5_cross_10 rfl (lv_at hl 2 rfl) ?_
    refine lv_iload_n hx hb dX5_cross_11 rfl (lv_at hl 1 rfl) ?_
    refine xw_ri (va_runV (rm := { frames := 0, cells := 0, slots := 0, locals := 0 }) (As := [.int x2, .int x1]) (rest := []) ⟨hx, hb, hml, hown, hts⟩ (c_X5_overlapsFromAhead l D cy a x2 x1 I F G _ h A) (cwV 2 hts gX5_cross_X5_overlapsFromAhead rfl rfl rfl (by decide +kernel) ⟨Nat.le_of_ble_eq_true rfl, Nat.le_of_ble_eq_true rfl⟩) (xw_preV hB hP hD (ci := 5) rfl xC_c21) rfl rfl hl.1 rfl (lv_room (Nat.le_of_ble_eq_true rfl)) dX5_cross_12 ⟨Nat.le_of_ble_eq_true rfl, Nat.le_of_ble_eq_true rfl⟩) (fun r5 h => ?_)
    refine lv_if_eq (tgt := 22) hx hb dX5_cross_15 (by decide) (fun c6 => ?_) (fun c6 => ?_)
    · have h := h.1 c6
      refine lv_iconst (v := 0) hx hb dX5_cross_22 (by decide) ?_
      exact xw_iretz hx hb hr hlocks rfl h dX5_cross_23
    · have h := h.2 c6
      refine lv_iconst (v := 1) hx hb dX5_cross_18 (by decide) ?_
      refine lv_goto (tgt := 23) hx hb dX5_cross_19 (by decide) ?_
      exact xw_iretz hx hb hr hlocks rfl h dX5_cross_23

theorem mX5_countCrossings_2 : Cond.initialized RX7 ∈ wsX5_countCrossings := List.mem_of_getElem? (i := 2) rfl
theorem mX5_countCrossings_1 : Cond.static yX7_has ∈ wsX5_countCrossings := List.mem_of_getElem? (i := 1) rfl
set_option maxHeartbeats 4000000 in
set_option maxRecDepth 100000 in
theorem c_X5_countCrossings (l : Launch) (D : va_G) (cy : Nat → ClassId) (a : Nat → Nat) (x1 : Int32) (I : xw_I) (F : xw_F) (G : xw_G) (post : Int32 → Prop) (h : sm_X5_countCrossings x1 I F G post) : xw_Ri l yX5_countCrossings wsX5_countCrossings ({ frames := 2, cells := 0, slots := 0, locals := 44 }) D cy [.ref (a 21), .int x1] (xC_w cy a I F G) post := by
  intro A
  refine Met.ofW (cc := cX5_countCrossings) (maxL := 5) (ret := (some .int)) (by decide) rfl ?_
  intro p e s m args below meth c s₁ B hml hv
  obtain ⟨rfl, hP, hB, hD⟩ := hv
  have hP : va_P D vwCl (xC_w cy a I F G) s.heap := hP
  have hx := B.exec
  have hb := B.bytes
  have hr := B.returns
  have hts := atoms_spec (ws := wsX5_countCrossings) B.pre
  have hown : s.vm.findClass RX5 = some m.cls := findClass_of_methodNamed B.named
  have hlocks := B.notSynchronized
  refine xw_go (fun WW hWW => ?_)
  have hl := lv_entry ([.ref (a 21), .int x1]) (n := 5) (Nat.le_of_ble_eq_true rfl)
  rw [lg_entry_eq]
  generalize (lg_sl ([.ref (a 21), .int x1]) ++ List.replicate (5 - (lg_sl ([.ref (a 21), .int x1])).length) Slot.unset).toArray = ls at hl ⊢
  have hl : lv_has ls 5 [(0, .ref (a 21)), (1, .int x1)] := hl
  obtain ⟨k4, mk4, el4⟩ : ∃ K : Int32 → Int32 → Prop, (∀ (y2 : Int32) (y3 : Int32), (∀ (ls : Array Slot), lv_has ls 5 [(0, .ref (a 21)), (1, .int x1), (2, .int y2), (3, .int y3)] → WW s.heap [] (F0 m 4 ls [])) → K y2 y3) ∧ (∀ (y2 : Int32) (y3 : Int32), K y2 y3 → (∀ (ls : Array Slot), lv_has ls 5 [(0, .ref (a 21)), (1, .int x1), (2, .int y2), (3, .int y3)] → WW s.heap [] (F0 m 4 ls []))) := ⟨fun (y2 : Int32) (y3 : Int32) => (∀ (ls : Array Slot), lv_has ls 5 [(0, .ref (a 21)), (1, .int x1), (2, .int y2), (3, .int y3)] → WW s.heap [] (F0 m 4 ls [])), fun _ _ h => h, fun _ _ h => h⟩
  obtain ⟨k14, mk14, el14⟩ : ∃ K : Int32 → Int32 → Int32 → Prop, (∀ (y2 : Int32) (y3 : Int32) (y4 : Int32), (∀ (ls : Array Slot), lv_has ls 5 [(0, .ref (a 21)), (1, .int x1), (2, .int y2), (3, .int y3), (4, .int y4)] → WW s.heap [] (F0 m 14 ls [])) → K y2 y3 y4) ∧ (∀ (y2 : Int32) (y3 : Int32) (y4 : Int32), K y2 y3 y4 → (∀ (ls : Array Slot), lv_has ls 5 [(0, .ref (a 21)), (1, .int x1), (2, .int y2), (3, .int y3), (4, .int y4)] → WW s.heap [] (F0 m 14 ls []))) := ⟨fun (y2 : Int32) (y3 : Int32) (y4 : Int32) => (∀ (ls : Array Slot), lv_has ls 5 [(0, .ref (a 21)), (1, .int x1), (2, .int y2), (3, .int y3), (4, .int y4)] → WW s.heap [] (F0 m 14 ls [])), fun _ _ _ h => h, fun _ _ _ h => h⟩
  have rl4 : ∀ (y2 : Int32) (y3 : Int32), (bd_X5_countCrossings_4 x1 I F G post k4 k14 y2 y3) → k4 y2 y3 := by
    intro y2 y3 h
    refine mk4 _ _ ?_
    intro ls hl
    refine (hWW _ _ _).mpr ?_
    unfold bd_X5_countCrossings_4 at h
    refine lv_iload_n hx hb dX5_countCrossings_4 rfl (lv_at hl 3 rfl) ?_
    refine lv_iconst (v := 5) hx hb dX5_countCrossings_5 (by decide) ?_
    refine lv_icmp_ge (tgt := 62) hx hb dX5_countCrossings_6 (by decide) (fun c13 => ?_) (fun c13 => ?_)
    · have h := h.1 c13
      refine lv_iload_n hx hb dX5_countCrossings_62 rfl (lv_at hl 2 rfl) ?_
      exact xw_ireti hx hb hr hlocks h dX5_countCrossings_63
    · have h := h.2 c13
      refine lv_iload_n hx hb dX5_countCrossings_9 rfl (lv_at hl 3 rfl) ?_
      refine lv_iconst (v := 1) hx hb dX5_countCrossings_10 (by decide) ?_
      refine lv_iadd hx hb dX5_countCrossings_11 ?_
      refine lv_topi (fun v14 ev14 => ?_)
      have h := h v14 ev14
      refine lv_istore (lv' := [(4, .int v14), (0, .ref (a 21)), (1, .int x1), (2, .int y2), (3, .int y3)]) hx hb dX5_countCrossings_12 hl (by decide) rfl (fun ls hl => ?_)
      exact (hWW _ _ _).mp (el14 _ _ _ h ls (lv_sub hl [1, 2, 3, 4, 0] rfl))
  have rl14 : ∀ (y2 : Int32) (y3 : Int32) (y4 : Int32), (bd_X5_countCrossings_14 x1 I F G post k4 k14 y2 y3 y4) → k14 y2 y3 y4 := by
    intro y2 y3 y4 h
    refine mk14 _ _ _ ?_
    intro ls hl
    refine (hWW _ _ _).mpr ?_
    unfold bd_X5_countCrossings_14 at h
    refine lv_iload hx hb dX5_countCrossings_14 (lv_at hl 4 rfl) ?_
    refine lv_iconst (v := 5) hx hb dX5_countCrossings_16 (by decide) ?_
    refine lv_icmp_ge (tgt := 56) hx hb dX5_countCrossings_17 (by decide) (fun c15 => ?_) (fun c15 => ?_)
    · have h := h.1 c15
      obtain ⟨v16, ev16⟩ : ∃ y : Int32, y = y3 + 1 := ⟨_, rfl⟩
      have h := h v16 ev16
      refine lv_iinc (v := v16) (lv' := [(3, .int v16), (0, .ref (a 21)), (1, .int x1), (2, .int y2), (4, .int y4)]) hx hb dX5_countCrossings_56 hl (k := 3) rfl (by rw [ev16]; rfl) (by decide) rfl (fun ls hl => ?_)
      refine lv_goto (tgt := 4) hx hb dX5_countCrossings_59 (by decide) ?_
      exact (hWW _ _ _).mp (el4 _ _ h ls (lv_sub hl [1, 2, 3, 0] rfl))
    · have h := h.2 c15
      refine lv_iload_n hx hb dX5_countCrossings_20 rfl (lv_at hl 1 rfl) ?_
      refine lv_iload_n hx hb dX5_countCrossings_21 rfl (lv_at hl 3 rfl) ?_
      refine xw_ri (va_runSN (rm := { frames := 0, cells := 0, slots := 0, locals := 0 }) (As := [.int x1, .int y3]) (rest := []) ⟨hx, hb, hml, hown, hts⟩ (c_X7_has l D cy x1 y3 _ h (fun _ => True)) (⟨va_cnB 2 hts gX5_countCrossings_X7_has_n36 rfl rfl rfl (hB.2 9 _ rfl) (hts _ mX5_countCrossings_2) (by decide +kernel) ⟨Nat.le_of_ble_eq_true rfl, Nat.le_of_ble_eq_true rfl⟩, hts _ mX5_countCrossings_1, trivial⟩) (xw_preS hB xw_P0 (xw_D0 (A := fun _ => True))) rfl rfl hl.1 rfl (lv_room (Nat.le_of_ble_eq_true rfl)) dX5_countCrossings_22 ⟨Nat.le_of_ble_eq_true rfl, Nat.le_of_ble_eq_true rfl⟩) (fun r17 h => ?_)
      refine lv_if_eq (tgt := 50) hx hb dX5_countCrossings_25 (by decide) (fun c18 => ?_) (fun c18 => ?_)
      · have h := h.1 c18
        obtain ⟨v19, ev19⟩ : ∃ y : Int32, y = y4 + 1 := ⟨_, rfl⟩
        have h := h v19 ev19
        refine lv_iinc (v := v19) (lv' := [(4, .int v19), (0, .ref (a 21)), (1, .int x1), (2, .int y2), (3, .int y3)]) hx hb dX5_countCrossings_50 hl (k := 4) rfl (by rw [ev19]; rfl) (by decide) rfl (fun ls hl => ?_)
        refine lv_goto (tgt := 14) hx hb dX5_countCrossings_53 (by decide) ?_
        exact (hWW _ _ _).mp (el14 _ _ _ h ls (lv_sub hl [1, 2, 3, 4, 0] rfl))
      · have h := h.2 c18
        refine lv_iload_n hx hb dX5_countCrossings_28 rfl (lv_at hl 1 rfl) ?_
        refine lv_iload hx hb dX5_countCrossings_29 (lv_at hl 4 rfl) ?_
        refine xw_ri (va_runSN (rm := { frames := 0, cells := 0, slots := 0, locals := 0 }) (As := [.int x1, .int y4]) (rest := []) ⟨hx, hb, hml, hown, hts⟩ (c_X7_has l D cy x1 y4 _ h (fun _ => True)) (⟨va_cnB 2 hts gX5_countCrossings_X7_has_n36 rfl rfl rfl (hB.2 9 _ rfl) (hts _ mX5_countCrossings_2) (by decide +kernel) ⟨Nat.le_of_ble_eq_true rfl, Nat.le_of_ble_eq_true rfl⟩, hts _ mX5_countCrossings_1, trivial⟩) (xw_preS hB xw_P0 (xw_D0 (A := fun _ => True))) rfl rfl hl.1 rfl (lv_room (Nat.le_of_ble_eq_true rfl)) dX5_countCrossings_31 ⟨Nat.le_of_ble_eq_true rfl, Nat.le_of_ble_eq_true rfl⟩) (fun r20 h => ?_)
        refine lv_if_eq (tgt := 50) hx hb dX5_countCrossings_34 (by decide) (fun c21 => ?_) (fun c21 => ?_)
        · have h := h.1 c21
          obtain ⟨v22, ev22⟩ : ∃ y : Int32, y = y4 + 1 := ⟨_, rfl⟩
          have h := h v22 ev22
          refine lv_iinc (v := v22) (lv' := [(4, .int v22), (0, .ref (a 21)), (1, .int x1), (2, .int y2), (3, .int y3)]) hx hb dX5_countCrossings_50 hl (k := 4) rfl (by rw [ev22]; rfl) (by decide) rfl (fun ls hl => ?_)
          refine lv_goto (tgt := 14) hx hb dX5_countCrossings_53 (by decide) ?_
          exact (hWW _ _ _).mp (el14 _ _ _ h ls (lv_sub hl [1, 2, 3, 4, 0] rfl))
        · have h := h.2 c21
          refine lv_aload_n hx hb dX5_countCrossings_37 rfl (lv_at hl 0 rfl) ?_
          refine lv_iload_n hx hb dX5_countCrossings_38 rfl (lv_at hl 3 rfl) ?_
          refine lv_iload hx hb dX5_countCrossings_39 (lv_at hl 4 rfl) ?_
          refine xw_ri (va_runV (rm := { frames := 1, cells := 0, slots := 0, locals := 22 }) (As := [.int y3, .int y4]) (rest := []) ⟨hx, hb, hml, hown, hts⟩ (c_X5_cross l D cy a y3 y4 I F G _ h A) (cwV 2 hts gX5_countCrossings_X5_cross rfl rfl rfl (by decide +kernel) ⟨Nat.le_of_ble_eq_true rfl, Nat.le_of_ble_eq_true rfl⟩) (xw_preV hB hP hD (ci := 5) rfl xC_c21) rfl rfl hl.1 rfl (lv_room (Nat.le_of_ble_eq_true rfl)) dX5_countCrossings_41 ⟨Nat.le_of_ble_eq_true rfl, Nat.le_of_ble_eq_true rfl⟩) (fun r23 h => ?_)
          refine lv_if_eq (tgt := 50) hx hb dX5_countCrossings_44 (by decide) (fun c24 => ?_) (fun c24 => ?_)
          · have h := h.1 c24
            obtain ⟨v25, ev25⟩ : ∃ y : Int32, y = y4 + 1 := ⟨_, rfl⟩
            have h := h v25 ev25
            refine lv_iinc (v := v25) (lv' := [(4, .int v25), (0, .ref (a 21)), (1, .int x1), (2, .int y2), (3, .int y3)]) hx hb dX5_countCrossings_50 hl (k := 4) rfl (by rw [ev25]; rfl) (by decide) rfl (fun ls hl => ?_)
            refine lv_goto (tgt := 14) hx hb dX5_countCrossings_53 (by decide) ?_
            exact (hWW _ _ _).mp (el14 _ _ _ h ls (lv_sub hl [1, 2, 3, 4, 0] rfl))
          · have h := h.2 c24
            obtain ⟨v26, ev26⟩ : ∃ y : Int32, y = y2 + 1 := ⟨_, rfl⟩
            have h := h v26 ev26
            refine lv_iinc (v := v26) (lv' := [(2, .int v26), (0, .ref (a 21)), (1, .int x1), (3, .int y3), (4, .int y4)]) hx hb dX5_countCrossings_47 hl (k := 2) rfl (by rw [ev26]; rfl) (by decide) rfl (fun ls hl => ?_)
            obtain ⟨v27, ev27⟩ : ∃ y : Int32, y = y4 + 1 := ⟨_, rfl⟩
            have h := h v27 ev27
            refine lv_iinc (v := v27) (lv' := [(4, .int v27), (2, .int v26), (0, .ref (a 21)), (1, .int x1), (3, .int y3)]) hx hb dX5_countCrossings_50 hl (k := 4) rfl (by rw [ev27]; rfl) (by decide) rfl (fun ls hl => ?_)
            refine lv_goto (tgt := 14) hx hb dX5_countCrossings_53 (by decide) ?_
            exact (hWW _ _ _).mp (el14 _ _ _ h ls (lv_sub hl [2, 3, 1, 4, 0] rfl))
  have h := h k4 k14 rl4 rl14
  unfold bd_X5_countCrossings_0 at h
  refine lv_iconst (v := 0) hx hb dX5_countCrossings_0 (by decide) ?_
  refine lv_istore_n (lv' := [(2, .int (0 : Int32)), (0, .ref (a 21)), (1, .int x1)]) hx hb dX5_countCrossings_1 rfl hl (by decide) rfl (fun ls hl => ?_)
  refine lv_iconst (v := 0) hx hb dX5_countCrossings_2 (by decide) ?_
  refine lv_istore_n (lv' := [(3, .int (0 : Int32)), (2, .int (0 : Int32)), (0, .ref (a 21)), (1, .int x1)]) hx hb dX5_countCrossings_3 rfl hl (by decide) rfl (fun ls hl => ?_)
  exact (hWW _ _ _).mp (el4 _ _ h ls (lv_sub hl [2, 3, 1, 0] rfl))
