theorem mX8_isThere_1 : Cond.fieldLink RX8 7 "TagCarrierModel" "opens" "[I" ∈ wsX8_isThere := List.mem_of_getElem? (i := 1) rfl
theorem mX8_isThere_inX8 : ∀ w ∈ u_ws RX8 TX8 22, w ∈ wsX8_isThere := by decide +kernel
set_option maxHeartbeats 4000000 in
set_option maxRecDepth 100000 in
theorem c_X8_isThere (l : Launch) (D : va_G) (cy : Nat → ClassId) (a : Nat → Nat) (x1 : Int32) (I : xw_I) (F : xw_F) (G : xw_G) (post : Int32 → Prop) (h : sm_X8_isThere x1 I F G post) : xw_Ri l yX8_isThere wsX8_isThere ({ frames := 1, cells := 0, slots := 0, locals := 22 }) D cy [.ref (a 0), .int x1] (xM_w cy a I F G) post := by
  intro A
  refine Met.ofW (cc := cX8_isThere) (maxL := 2) (ret := (some .boolean)) (by decide) rfl ?_
  intro p e s m args below meth c s₁ B hml hv
  obtain ⟨rfl, hP, hB, hD⟩ := hv
  have hP : va_P D vwCl (xM_w cy a I F G) s.heap := hP
  have hx := B.exec
  have hb := B.bytes
  have hr := B.returns
  have hts := atoms_spec (ws := wsX8_isThere) B.pre
  have hown : s.vm.findClass RX8 = some m.cls := findClass_of_methodNamed B.named
  have hlocks := B.notSynchronized
  refine xw_go (fun WW hWW => ?_)
  have hl := lv_entry ([.ref (a 0), .int x1]) (n := 2) (Nat.le_of_ble_eq_true rfl)
  rw [lg_entry_eq]
  generalize (lg_sl ([.ref (a 0), .int x1]) ++ List.replicate (2 - (lg_sl ([.ref (a 0), .int x1])).length) Slot.unset).toArray = ls at hl ⊢
  have hl : lv_has ls 2 [(0, .ref (a 0)), (1, .int x1)] := hl
  unfold sm_X8_isThere at h
  refine lv_iload_n hx hb dX8_isThere_0 rfl (lv_at hl 1 rfl) ?_
  refine lv_iconst (v := 0) hx hb dX8_isThere_1 (by decide) ?_
  refine lv_iconst (v := 4) hx hb dX8_isThere_2 (by decide) ?_
  refine xw_ri (va_runS (rm := { frames := 0, cells := 0, slots := 0, locals := 0 }) (As := [.int x1, .int (0 : Int32), .int (4 : Int32)]) (rest := []) ⟨hx, hb, hml, hown, hts⟩ (c_X8_in l D cy x1 (0 : Int32) (4 : Int32) _ h (fun _ => True)) (va_cwS 3 hts gX8_isThere_X8_in rfl rfl rfl (by decide +kernel) ⟨Nat.le_of_ble_eq_true rfl, Nat.le_of_ble_eq_true rfl⟩) (xw_preS hB xw_P0 (xw_D0 (A := fun _ => True))) rfl rfl hl.1 rfl (lv_room (Nat.le_of_ble_eq_true rfl)) dX8_isThere_3 ⟨Nat.le_of_ble_eq_true rfl, Nat.le_of_ble_eq_true rfl⟩) (fun r4 h => ?_)
  refine lv_if_eq (tgt := 22) hx hb dX8_isThere_6 (by decide) (fun c5 => ?_) (fun c5 => ?_)
  · have h := h.1 c5
    refine lv_iconst (v := 0) hx hb dX8_isThere_22 (by decide) ?_
    exact xw_iretz hx hb hr hlocks rfl h dX8_isThere_23
  · have h := h.2 c5
    refine lv_aload_n hx hb dX8_isThere_9 rfl (lv_at hl 0 rfl) ?_
    refine va_get (D := D) (ci := 8) (v := .ref (a 1)) (C := RX8) (T := TX8) (N := 22) hx hb hts mX8_isThere_inX8 hown hB.1 hP 0 xM_c0 rfl 1 (by decide) (hts _ mX8_isThere_1) (fun _ h9 => h9) rfl dX8_isThere_10 ?_
    refine lv_iload_n hx hb dX8_isThere_13 rfl (lv_at hl 1 rfl) ?_
    refine xw_iald hx hb hB hP 1 xM_c1 h.1 dX8_isThere_14 (fun v6 ev6 => ?_)
    have h := h.2 v6 ev6
    refine lv_if_lt (tgt := 22) hx hb dX8_isThere_15 (by decide) (fun c7 => ?_) (fun c7 => ?_)
    · have h := h.1 c7
      refine lv_iconst (v := 0) hx hb dX8_isThere_22 (by decide) ?_
      exact xw_iretz hx hb hr hlocks rfl h dX8_isThere_23
    · have h := h.2 c7
      refine lv_iconst (v := 1) hx hb dX8_isThere_18 (by decide) ?_
      refine lv_goto (tgt := 23) hx hb dX8_isThere_19 (by decide) ?_
      exact xw_iretz hx hb hr hlocks rfl h dX8_isThere_23

theorem mX8_anchor_1 : Cond.fieldLink RX8 78 "TagCarrierModel" "target" "I" ∈ wsX8_anchor := List.mem_of_getElem? (i := 1) rfl
theorem mX8_anchor_inX8 : ∀ w ∈ u_ws RX8 TX8 22, w ∈ wsX8_anchor := by decide +kernel
theorem mX8_anchor_2 : Cond.fieldLink RX8 25 "TagCarrierModel" "links" "[I" ∈ wsX8_anchor := List.mem_of_getElem? (i := 2) rfl
set_option maxHeartbeats 4000000 in
set_option maxRecDepth 100000 in
theorem c_X8_anchor (l : Launch) (D : va_G) (cy : Nat → ClassId) (a : Nat → Nat) (x1 : Int32) (I : xw_I) (F : xw_F) (G : xw_G) (post : Int32 → Prop) (h : sm_X8_anchor x1 I F G post) : xw_Ri l yX8_anchor wsX8_anchor ({ frames := 0, cells := 0, slots := 0, locals := 0 }) D cy [.ref (a 0), .int x1] (xM_w cy a I F G) post := by
  intro A
  refine Met.ofW (cc := cX8_anchor) (maxL := 4) (ret := (some .int)) (by decide) rfl ?_
  intro p e s m args below meth c s₁ B hml hv
  obtain ⟨rfl, hP, hB, hD⟩ := hv
  have hP : va_P D vwCl (xM_w cy a I F G) s.heap := hP
  have hx := B.exec
  have hb := B.bytes
  have hr := B.returns
  have hts := atoms_spec (ws := wsX8_anchor) B.pre
  have hown : s.vm.findClass RX8 = some m.cls := findClass_of_methodNamed B.named
  have hlocks := B.notSynchronized
  refine xw_go (fun WW hWW => ?_)
  have hl := lv_entry ([.ref (a 0), .int x1]) (n := 4) (Nat.le_of_ble_eq_true rfl)
  rw [lg_entry_eq]
  generalize (lg_sl ([.ref (a 0), .int x1]) ++ List.replicate (4 - (lg_sl ([.ref (a 0), .int x1])).length) Slot.unset).toArray = ls at hl ⊢
  have hl : lv_has ls 4 [(0, .ref (a 0)), (1, .int x1)] := hl
  obtain ⟨k4, mk4, el4⟩ : ∃ K : Int32 → Prop, (∀ (y2 : Int32), (∀ (ls : Array Slot), lv_has ls 4 [(0, .ref (a 0)), (2, .int y2)] → WW s.heap [] (F0 m 4 ls [])) → K y2) ∧ (∀ (y2 : Int32), K y2 → (∀ (ls : Array Slot), lv_has ls 4 [(0, .ref (a 0)), (2, .int y2)] → WW s.heap [] (F0 m 4 ls []))) := ⟨fun (y2 : Int32) => (∀ (ls : Array Slot), lv_has ls 4 [(0, .ref (a 0)), (2, .int y2)] → WW s.heap [] (F0 m 4 ls [])), fun _ h => h, fun _ h => h⟩
  obtain ⟨k15, mk15, el15⟩ : ∃ K : Int32 → Int32 → Prop, (∀ (y2 : Int32) (y3 : Int32), (∀ (ls : Array Slot), lv_has ls 4 [(0, .ref (a 0)), (2, .int y2), (3, .int y3)] → WW s.heap [] (F0 m 15 ls [])) → K y2 y3) ∧ (∀ (y2 : Int32) (y3 : Int32), K y2 y3 → (∀ (ls : Array Slot), lv_has ls 4 [(0, .ref (a 0)), (2, .int y2), (3, .int y3)] → WW s.heap [] (F0 m 15 ls []))) := ⟨fun (y2 : Int32) (y3 : Int32) => (∀ (ls : Array Slot), lv_has ls 4 [(0, .ref (a 0)), (2, .int y2), (3, .int y3)] → WW s.heap [] (F0 m 15 ls [])), fun _ _ h => h, fun _ _ h => h⟩
  have rl4 : ∀ (y2 : Int32), (bd_X8_anchor_4 x1 I F G post k4 k15 y2) → k4 y2 := by
    intro y2 h
    refine mk4 _ ?_
    intro ls hl
    refine (hWW _ _ _).mpr ?_
    unfold bd_X8_anchor_4 at h
    refine lv_iload_n hx hb dX8_anchor_4 rfl (lv_at hl 1 rfl) ?_
    refine lv_if_lt (tgt := 49) hx hb dX8_anchor_5 (by decide) (fun c10 => ?_) (fun c10 => ?_)
    · have h := h.1 c10
      refine lv_iconst (v := 0) hx hb dX8_anchor_49 (by decide) ?_
      exact xw_ireti hx hb hr hlocks h dX8_anchor_50
    · have h := h.2 c10
      refine lv_aload_n hx hb dX8_anchor_8 rfl (lv_at hl 0 rfl) ?_
      refine va_get (D := D) (ci := 8) (v := .int (I 2)) (C := RX8) (T := TX8) (N := 22) hx hb hts mX8_anchor_inX8 hown hB.1 hP 0 xM_c0 rfl 7 (by decide) (hts _ mX8_anchor_1) (fun _ h9 => h9) rfl dX8_anchor_9 ?_
      refine lv_iconst (v := 1) hx hb dX8_anchor_12 (by decide) ?_
      refine lv_isub hx hb dX8_anchor_13 ?_
      refine lv_topi (fun v11 ev11 => ?_)
      have h := h v11 ev11
      refine lv_istore_n (lv' := [(3, .int v11), (0, .ref (a 0)), (2, .int y2)]) hx hb dX8_anchor_14 rfl hl (by decide) rfl (fun ls hl => ?_)
      exact (hWW _ _ _).mp (el15 _ _ h ls (lv_sub hl [1, 2, 0] rfl))
  have rl15 : ∀ (y2 : Int32) (y3 : Int32), (bd_X8_anchor_15 x1 I F G post k4 k15 y2 y3) → k15 y2 y3 := by
    intro y2 y3 h
    refine mk15 _ _ ?_
    intro ls hl
    refine (hWW _ _ _).mpr ?_
    unfold bd_X8_anchor_15 at h
    refine lv_iload_n hx hb dX8_anchor_15 rfl (lv_at hl 2 rfl) ?_
    refine lv_if_lt (tgt := 43) hx hb dX8_anchor_16 (by decide) (fun c12 => ?_) (fun c12 => ?_)
    · have h := h.1 c12
      obtain ⟨v13, ev13⟩ : ∃ y : Int32, y = y2 + (-1) := ⟨_, rfl⟩
      have h := h v13 ev13
      refine lv_iinc (v := v13) (lv' := [(2, .int v13), (0, .ref (a 0)), (3, .int y3)]) hx hb dX8_anchor_43 hl (k := 1) rfl (by rw [ev13]; rfl) (by decide) rfl (fun ls hl => ?_)
      refine lv_goto (tgt := 4) hx hb dX8_anchor_46 (by decide) ?_
      exact (hWW _ _ _).mp (el4 _ h ls (lv_sub hl [1, 0] rfl))
    · have h := h.2 c12
      refine lv_aload_n hx hb dX8_anchor_19 rfl (lv_at hl 0 rfl) ?_
      refine va_get (D := D) (ci := 8) (v := .ref (a 6)) (C := RX8) (T := TX8) (N := 22) hx hb hts mX8_anchor_inX8 hown hB.1 hP 0 xM_c0 rfl 8 (by decide) (hts _ mX8_anchor_2) (fun _ h9 => h9) rfl dX8_anchor_20 ?_
      refine lv_iload_n hx hb dX8_anchor_23 rfl (lv_at hl 1 rfl) ?_
      refine xw_iald hx hb hB hP 6 xM_c6 h.1 dX8_anchor_24 (fun v14 ev14 => ?_)
      have h := h.2 v14 ev14
      refine lv_iload_n hx hb dX8_anchor_25 rfl (lv_at hl 2 rfl) ?_
      refine lv_ishr hx hb dX8_anchor_26 ?_
      refine lv_iconst (v := 1) hx hb dX8_anchor_27 (by decide) ?_
      refine lv_iand hx hb dX8_anchor_28 ?_
      refine lv_iconst (v := 1) hx hb dX8_anchor_29 (by decide) ?_
      refine lv_icmp_ne (tgt := 37) hx hb dX8_anchor_30 (by decide) (fun c15 => ?_) (fun c15 => ?_)
      · have h := h.1 c15
        obtain ⟨v16, ev16⟩ : ∃ y : Int32, y = y3 + (-1) := ⟨_, rfl⟩
        have h := h v16 ev16
        refine lv_iinc (v := v16) (lv' := [(3, .int v16), (0, .ref (a 0)), (2, .int y2)]) hx hb dX8_anchor_37 hl (k := 2) rfl (by rw [ev16]; rfl) (by decide) rfl (fun ls hl => ?_)
        refine lv_goto (tgt := 15) hx hb dX8_anchor_40 (by decide) ?_
        exact (hWW _ _ _).mp (el15 _ _ h ls (lv_sub hl [1, 2, 0] rfl))
      · have h := h.2 c15
        refine lv_iload_n hx hb dX8_anchor_33 rfl (lv_at hl 2 rfl) ?_
        refine lv_iconst (v := 1) hx hb dX8_anchor_34 (by decide) ?_
        refine lv_iadd hx hb dX8_anchor_35 ?_
        exact xw_ireti hx hb hr hlocks h dX8_anchor_36
  have h := h k4 k15 rl4 rl15
  unfold bd_X8_anchor_0 at h
  refine lv_iload_n hx hb dX8_anchor_0 rfl (lv_at hl 1 rfl) ?_
  refine lv_iconst (v := 1) hx hb dX8_anchor_1 (by decide) ?_
  refine lv_isub hx hb dX8_anchor_2 ?_
  refine lv_topi (fun v9 ev9 => ?_)
  have h := h v9 ev9
  refine lv_istore_n (lv' := [(2, .int v9), (0, .ref (a 0)), (1, .int x1)]) hx hb dX8_anchor_3 rfl hl (by decide) rfl (fun ls hl => ?_)
  exact (hWW _ _ _).mp (el4 _ h ls (lv_sub hl [1, 0] rfl))

theorem mX8_linksOf_1 : Cond.fieldLink RX8 7 "TagCarrierModel" "opens" "[I" ∈ wsX8_linksOf := List.mem_of_getElem? (i := 1) rfl
theorem mX8_linksOf_inX8 : ∀ w ∈ u_ws RX8 TX8 22, w ∈ wsX8_linksOf := by decide +kernel
theorem mX8_linksOf_2 : Cond.fieldLink RX8 13 "TagCarrierModel" "closes" "[I" ∈ wsX8_linksOf := List.mem_of_getElem? (i := 2) rfl
theorem mX8_linksOf_3 : Cond.fieldLink RX8 25 "TagCarrierModel" "links" "[I" ∈ wsX8_linksOf := List.mem_of_getElem? (i := 3) rfl
set_option maxHeartbeats 4000000 in
set_option maxRecDepth 100000 in
theorem c_X8_linksOf (l : Launch) (D : va_G) (cy : Nat → ClassId) (a : Nat → Nat) (x1 : Int32) (I : xw_I) (F : xw_F) (G : xw_G) (post : Int32 → Prop) (h : sm_X8_linksOf x1 I F G post) : xw_Ri l yX8_linksOf wsX8_linksOf ({ frames := 0, cells := 0, slots := 0, locals := 0 }) D cy [.ref (a 0), .int x1] (xM_w cy a I F G) post := by
  intro A
  refine Met.ofW (cc := cX8_linksOf) (maxL := 4) (ret := (some .int)) (by decide) rfl ?_
  intro p e s m args below meth c s₁ B hml hv
  obtain ⟨rfl, hP, hB, hD⟩ := hv
  have hP : va_P D vwCl (xM_w cy a I F G) s.heap := hP
  have hx := B.exec
  have hb := B.bytes
  have hr := B.returns
  have hts := atoms_spec (ws := wsX8_linksOf) B.pre
  have hown : s.vm.findClass RX8 = some m.cls := findClass_of_methodNamed B.named
  have hlocks := B.notSynchronized
  refine xw_go (fun WW hWW => ?_)
  have hl := lv_entry ([.ref (a 0), .int x1]) (n := 4) (Nat.le_of_ble_eq_true rfl)
  rw [lg_entry_eq]
  generalize (lg_sl ([.ref (a 0), .int x1]) ++ List.replicate (4 - (lg_sl ([.ref (a 0), .int x1])).length) Slot.unset).toArray = ls at hl ⊢
  have hl : lv_has ls 4 [(0, .ref (a 0)), (1, .int x1)] := hl
  obtain ⟨k9, mk9, el9⟩ : ∃ K : Int32 → Int32 → Prop, (∀ (y2 : Int32) (y3 : Int32), (∀ (ls : Array Slot), lv_has ls 4 [(0, .ref (a 0)), (1, .int x1), (2, .int y2), (3, .int y3)] → WW s.heap [] (F0 m 9 ls [])) → K y2 y3) ∧ (∀ (y2 : Int32) (y3 : Int32), K y2 y3 → (∀ (ls : Array Slot), lv_has ls 4 [(0, .ref (a 0)), (1, .int x1), (2, .int y2), (3, .int y3)] → WW s.heap [] (F0 m 9 ls []))) := ⟨fun (y2 : Int32) (y3 : Int32) => (∀ (ls : Array Slot), lv_has ls 4 [(0, .ref (a 0)), (1, .int x1), (2, .int y2), (3, .int y3)] → WW s.heap [] (F0 m 9 ls [])), fun _ _ h => h, fun _ _ h => h⟩
  have rl9 : ∀ (y2 : Int32) (y3 : Int32), (bd_X8_linksOf_9 x1 I F G post k9 y2 y3) → k9 y2 y3 := by
    intro y2 y3 h
    refine mk9 _ _ ?_
    intro ls hl
    refine (hWW _ _ _).mpr ?_
    unfold bd_X8_linksOf_9 at h
    refine lv_iload_n hx hb dX8_linksOf_9 rfl (lv_at hl 3 rfl) ?_
    refine lv_aload_n hx hb dX8_linksOf_10 rfl (lv_at hl 0 rfl) ?_
    refine va_get (D := D) (ci := 8) (v := .ref (a 2)) (C := RX8) (T := TX8) (N := 22) hx hb hts mX8_linksOf_inX8 hown hB.1 hP 0 xM_c0 rfl 2 (by decide) (hts _ mX8_linksOf_2) (fun _ h9 => h9) rfl dX8_linksOf_11 ?_
    refine lv_iload_n hx hb dX8_linksOf_14 rfl (lv_at hl 1 rfl) ?_
    refine xw_iald hx hb hB hP 2 xM_c2 h.1 dX8_linksOf_15 (fun v8 ev8 => ?_)
    have h := h.2 v8 ev8
    refine lv_icmp_ge (tgt := 34) hx hb dX8_linksOf_16 (by decide) (fun c9 => ?_) (fun c9 => ?_)
    · have h := h.1 c9
      refine lv_iload_n hx hb dX8_linksOf_34 rfl (lv_at hl 2 rfl) ?_
      exact xw_ireti hx hb hr hlocks h dX8_linksOf_35
    · have h := h.2 c9
      refine lv_iload_n hx hb dX8_linksOf_19 rfl (lv_at hl 2 rfl) ?_
      refine lv_aload_n hx hb dX8_linksOf_20 rfl (lv_at hl 0 rfl) ?_
      refine va_get (D := D) (ci := 8) (v := .ref (a 6)) (C := RX8) (T := TX8) (N := 22) hx hb hts mX8_linksOf_inX8 hown hB.1 hP 0 xM_c0 rfl 8 (by decide) (hts _ mX8_linksOf_3) (fun _ h9 => h9) rfl dX8_linksOf_21 ?_
      refine lv_iload_n hx hb dX8_linksOf_24 rfl (lv_at hl 3 rfl) ?_
      refine xw_iald hx hb hB hP 6 xM_c6 h.1 dX8_linksOf_25 (fun v10 ev10 => ?_)
      have h := h.2 v10 ev10
      refine lv_ior hx hb dX8_linksOf_26 ?_
      refine lv_topi (fun v11 ev11 => ?_)
      have h := h v11 ev11
      refine lv_istore_n (lv' := [(2, .int v11), (0, .ref (a 0)), (1, .int x1), (3, .int y3)]) hx hb dX8_linksOf_27 rfl hl (by decide) rfl (fun ls hl => ?_)
      obtain ⟨v12, ev12⟩ : ∃ y : Int32, y = y3 + 1 := ⟨_, rfl⟩
      have h := h v12 ev12
      refine lv_iinc (v := v12) (lv' := [(3, .int v12), (2, .int v11), (0, .ref (a 0)), (1, .int x1)]) hx hb dX8_linksOf_28 hl (k := 3) rfl (by rw [ev12]; rfl) (by decide) rfl (fun ls hl => ?_)
      refine lv_goto (tgt := 9) hx hb dX8_linksOf_31 (by decide) ?_
      exact (hWW _ _ _).mp (el9 _ _ h ls (lv_sub hl [2, 3, 1, 0] rfl))
  have h := h k9 rl9
  unfold bd_X8_linksOf_0 at h
  refine lv_iconst (v := 0) hx hb dX8_linksOf_0 (by decide) ?_
  refine lv_istore_n (lv' := [(2, .int (0 : Int32)), (0, .ref (a 0)), (1, .int x1)]) hx hb dX8_linksOf_1 rfl hl (by decide) rfl (fun ls hl => ?_)
  refine lv_aload_n hx hb dX8_linksOf_2 rfl (lv_at hl 1 rfl) ?_
  refine va_get (D := D) (ci := 8) (v := .ref (a 1)) (C := RX8) (T := TX8) (N := 22) hx hb hts mX8_linksOf_inX8 hown hB.1 hP 0 xM_c0 rfl 1 (by decide) (hts _ mX8_linksOf_1) (fun _ h9 => h9) rfl dX8_linksOf_3 ?_
  refine lv_iload_n hx hb dX8_linksOf_6 rfl (lv_at hl 2 rfl) ?_
  refine xw_iald hx hb hB hP 1 xM_c1 h.1 dX8_linksOf_7 (fun v7 ev7 => ?_)
  have h := h.2 v7 ev7
  refine lv_istore_n (lv' := [(3, .int v7), (2, .int (0 : Int32)), (0, .ref (a 0)), (1, .int x1)]) hx hb dX8_linksOf_8 rfl hl (by decide) rfl (fun ls hl => ?_)
  exact (hWW _ _ _).mp (el9 _ _ h ls (lv_sub hl [2, 3, 1, 0] rfl))

theorem mX8_wantedFrom_1 : Cond.fieldLink RX8 7 "TagCarrierModel" "opens" "[I" ∈ wsX8_wantedFrom := List.mem_of_getElem? (i := 1) rfl
theorem mX8_wantedFrom_inX8 : ∀ w ∈ u_ws RX8 TX8 22, w ∈ wsX8_wantedFrom := by decide +kernel
set_option maxHeartbeats 4000000 in
set_option maxRecDepth 100000 in
theorem c_X8_wantedFrom (l : Launch) (D : va_G) (cy : Nat → ClassId) (a : Nat → Nat) (x1 : Int32) (I : xw_I) (F : xw_F) (G : xw_G) (post : Int32 → Prop) (h : sm_X8_wantedFrom x1 I F G post) : xw_Ri l yX8_wantedFrom wsX8_wantedFrom ({ frames := 1, cells := 0, slots := 0, locals := 23 }) D cy [.ref (a 0), .int x1] (xM_w cy a I F G) post := by
  intro A
  refine Met.ofW (cc := cX8_wantedFrom) (maxL := 4) (ret := (some .int)) (by decide) rfl ?_
  intro p e s m args below meth c s₁ B hml hv
  obtain ⟨rfl, hP, hB, hD⟩ := hv
  have hP : va_P D vwCl (xM_w cy a I F G) s.heap := hP
  have hx := B.exec
  have hb := B.bytes
  have hr := B.returns
  have hts := atoms_spec (ws := wsX8_wantedFrom) B.pre
  have hown : s.vm.findClass RX8 = some m.cls := findClass_of_methodNamed B.named
  have hlocks := B.notSynchronized
  refine xw_go (fun WW hWW => ?_)
  have hl := lv_entry ([.ref (a 0), .int x1]) (n := 4) (Nat.le_of_ble_eq_true rfl)
  rw [lg_entry_eq]
  generalize (lg_sl ([.ref (a 0), .int x1]) ++ List.replicate (4 - (lg_sl ([.ref (a 0), .int x1])).length) Slot.unset).toArray = ls at hl ⊢
  have hl : lv_has ls 4 [(0, .ref (a 0)), (1, .int x1)] := hl
  obtain ⟨k23, mk23, el23⟩ : ∃ K : Int32 → Int32 → Prop, (∀ (y2 : Int32) (y3 : Int32), (∀ (ls : Array Slot), lv_has ls 4 [(2, .int y2), (3, .int y3)] → WW s.heap [] (F0 m 23 ls [])) → K y2 y3) ∧ (∀ (y2 : Int32) (y3 : Int32), K y2 y3 → (∀ (ls : Array Slot), lv_has ls 4 [(2, .int y2), (3, .int y3)] → WW s.heap [] (F0 m 23 ls []))) := ⟨fun (y2 : Int32) (y3 : Int32) => (∀ (ls : Array Slot), lv_has ls 4 [(2, .int y2), (3, .int y3)] → WW s.heap [] (F0 m 23 ls [])), fun _ _ h => h, fun _ _ h => h⟩
  have rl23 : ∀ (y2 : Int32) (y3 : Int32), (bd_X8_wantedFrom_23 x1 I F G post k23 y2 y3) → k23 y2 y3 := by
    intro y2 y3 h
    refine mk23 _ _ ?_
    intro ls hl
    refine (hWW _ _ _).mpr ?_
    unfold bd_X8_wantedFrom_23 at h
    refine lv_iload_n hx hb dX8_wantedFrom_23 rfl (lv_at hl 0 rfl) ?_
    refine lv_iload_n hx hb dX8_wantedFrom_24 rfl (lv_at hl 1 rfl) ?_
    refine lv_ishr hx hb dX8_wantedFrom_25 ?_
    refine lv_iconst (v := 1) hx hb dX8_wantedFrom_26 (by decide) ?_
    refine lv_iand hx hb dX8_wantedFrom_27 ?_
    refine lv_if_ne (tgt := 37) hx hb dX8_wantedFrom_28 (by decide) (fun c9 => ?_) (fun c9 => ?_)
    · have h := h.1 c9
      refine lv_iload_n hx hb dX8_wantedFrom_37 rfl (lv_at hl 1 rfl) ?_
      exact xw_ireti hx hb hr hlocks h dX8_wantedFrom_38
    · have h := h.2 c9
      obtain ⟨v10, ev10⟩ : ∃ y : Int32, y = y3 + 1 := ⟨_, rfl⟩
      have h := h v10 ev10
      refine lv_iinc (v := v10) (lv' := [(3, .int v10), (2, .int y2)]) hx hb dX8_wantedFrom_31 hl (k := 1) rfl (by rw [ev10]; rfl) (by decide) rfl (fun ls hl => ?_)
      refine lv_goto (tgt := 23) hx hb dX8_wantedFrom_34 (by decide) ?_
      exact (hWW _ _ _).mp (el23 _ _ h ls (lv_sub hl [1, 0] rfl))
  have h := h k23 rl23
  unfold bd_X8_wantedFrom_0 at h
  refine lv_aload_n hx hb dX8_wantedFrom_0 rfl (lv_at hl 0 rfl) ?_
  refine lv_iload_n hx hb dX8_wantedFrom_1 rfl (lv_at hl 1 rfl) ?_
  refine xw_ri (va_runV (rm := { frames := 0, cells := 0, slots := 0, locals := 0 }) (As := [.int x1]) (rest := []) ⟨hx, hb, hml, hown, hts⟩ (c_X8_linksOf l D cy a x1 I F G _ h A) (cwV 1 hts gX8_wantedFrom_X8_linksOf rfl rfl rfl (by decide +kernel) ⟨Nat.le_of_ble_eq_true rfl, Nat.le_of_ble_eq_true rfl⟩) (xw_preV hB hP hD (ci := 8) rfl xM_c0) rfl rfl hl.1 rfl (lv_room (Nat.le_of_ble_eq_true rfl)) dX8_wantedFrom_2 ⟨Nat.le_of_ble_eq_true rfl, Nat.le_of_ble_eq_true rfl⟩) (fun r5 h => ?_)
  refine lv_istore_n (lv' := [(2, .int r5), (0, .ref (a 0)), (1, .int x1)]) hx hb dX8_wantedFrom_5 rfl hl (by decide) rfl (fun ls hl => ?_)
  refine lv_iload_n hx hb dX8_wantedFrom_6 rfl (lv_at hl 0 rfl) ?_
  refine lv_if_ne (tgt := 21) hx hb dX8_wantedFrom_7 (by decide) (fun c6 => ?_) (fun c6 => ?_)
  · have h := h.1 c6
    refine lv_iconst (v := 0) hx hb dX8_wantedFrom_21 (by decide) ?_
    refine lv_istore_n (lv' := [(3, .int (0 : Int32)), (2, .int r5), (0, .ref (a 0)), (1, .int x1)]) hx hb dX8_wantedFrom_22 rfl hl (by decide) rfl (fun ls hl => ?_)
    exact (hWW _ _ _).mp (el23 _ _ h ls (lv_sub hl [1, 0] rfl))
  · have h := h.2 c6
    refine lv_aload_n hx hb dX8_wantedFrom_10 rfl (lv_at hl 1 rfl) ?_
    refine lv_aload_n hx hb dX8_wantedFrom_11 rfl (lv_at hl 1 rfl) ?_
    refine va_get (D := D) (ci := 8) (v := .ref (a 1)) (C := RX8) (T := TX8) (N := 22) hx hb hts mX8_wantedFrom_inX8 hown hB.1 hP 0 xM_c0 rfl 1 (by decide) (hts _ mX8_wantedFrom_1) (fun _ h9 => h9) rfl dX8_wantedFrom_12 ?_
    refine lv_iload_n hx hb dX8_wantedFrom_15 rfl (lv_at hl 2 rfl) ?_
    refine xw_iald hx hb hB hP 1 xM_c1 h.1 dX8_wantedFrom_16 (fun v7 ev7 => ?_)
    have h := h.2 v7 ev7
    refine xw_ri (va_runV (rm := { frames := 0, cells := 0, slots := 0, locals := 0 }) (As := [.int v7]) (rest := []) ⟨hx, hb, hml, hown, hts⟩ (c_X8_anchor l D cy a v7 I F G _ h A) (cwV 1 hts gX8_wantedFrom_X8_anchor rfl rfl rfl (by decide +kernel) ⟨Nat.le_of_ble_eq_true rfl, Nat.le_of_ble_eq_true rfl⟩) (xw_preV hB hP hD (ci := 8) rfl xM_c0) rfl rfl hl.1 rfl (lv_room (Nat.le_of_ble_eq_true rfl)) dX8_wantedFrom_17 ⟨Nat.le_of_ble_eq_true rfl, Nat.le_of_ble_eq_true rfl⟩) (fun r8 h => ?_)
    exact xw_ireti hx hb hr hlocks h dX8_wantedFrom_20

theorem mX8_wantedTo_2 : Cond.fieldLink RX8 78 "TagCarrierModel" "target" "I" ∈ wsX8_wantedTo := List.mem_of_getElem? (i := 2) rfl
theorem mX8_wantedTo_inX8 : ∀ w ∈ u_ws RX8 TX8 22, w ∈ wsX8_wantedTo := by decide +kernel
theorem mX8_wantedTo_1 : Cond.fieldLink RX8 7 "TagCarrierModel" "opens" "[I" ∈ wsX8_wantedTo := List.mem_of_getElem? (i := 1) rfl
set_option maxHeartbeats 4000000 in
set_option maxRecDepth 100000 in
theorem c_X8_wantedTo (l : Launch) (D : va_G) (cy : Nat → ClassId) (a : Nat → Nat) (x1 : Int32) (I : xw_I) (F : xw_F) (G : xw_G) (post : Int32 → Prop) (h : sm_X8_wantedTo x1 I F G post) : xw_Ri l yX8_wantedTo wsX8_wantedTo ({ frames := 1, cells := 0, slots := 0, locals := 23 }) D cy [.ref (a 0), .int x1] (xM_w cy a I F G) post := by
  intro A
  refine Met.ofW (cc := cX8_wantedTo) (maxL := 4) (ret := (some .int)) (by decide) rfl ?_
  intro p e s m args below meth c s₁ B hml hv
  obtain ⟨rfl, hP, hB, hD⟩ := hv
  have hP : va_P D vwCl (xM_w cy a I F G) s.heap := hP
  have hx := B.exec
  have hb := B.bytes
  have hr := B.returns
  have hts := atoms_spec (ws := wsX8_wantedTo) B.pre
  have hown : s.vm.findClass RX8 = some m.cls := findClass_of_methodNamed B.named
  have hlocks := B.notSynchronized
  refine xw_go (fun WW hWW => ?_)
  have hl := lv_entry ([.ref (a 0), .int x1]) (n := 4) (Nat.le_of_ble_eq_true rfl)
  rw [lg_entry_eq]
  generalize (lg_sl ([.ref (a 0), .int x1]) ++ List.replicate (4 - (lg_sl ([.ref (a 0), .int x1])).length) Slot.unset).toArray = ls at hl ⊢
  have hl : lv_has ls 4 [(0, .ref (a 0)), (1, .int x1)] := hl
  obtain ⟨k26, mk26, el26⟩ : ∃ K : Int32 → Int32 → Prop, (∀ (y2 : Int32) (y3 : Int32), (∀ (ls : Array Slot), lv_has ls 4 [(2, .int y2), (3, .int y3)] → WW s.heap [] (F0 m 26 ls [])) → K y2 y3) ∧ (∀ (y2 : Int32) (y3 : Int32), K y2 y3 → (∀ (ls : Array Slot), lv_has ls 4 [(2, .int y2), (3, .int y3)] → WW s.heap [] (F0 m 26 ls []))) := ⟨fun (y2 : Int32) (y3 : Int32) => (∀ (ls : Array Slot), lv_has ls 4 [(2, .int y2), (3, .int y3)] → WW s.heap [] (F0 m 26 ls [])), fun _ _ h => h, fun _ _ h => h⟩
  have rl26 : ∀ (y2 : Int32) (y3 : Int32), (bd_X8_wantedTo_26 x1 I F G post k26 y2 y3) → k26 y2 y3 := by
    intro y2 y3 h
    refine mk26 _ _ ?_
    intro ls hl
    refine (hWW _ _ _).mpr ?_
    unfold bd_X8_wantedTo_26 at h
    refine lv_iload_n hx hb dX8_wantedTo_26 rfl (lv_at hl 0 rfl) ?_
    refine lv_iload_n hx hb dX8_wantedTo_27 rfl (lv_at hl 1 rfl) ?_
    refine lv_iconst (v := 1) hx hb dX8_wantedTo_28 (by decide) ?_
    refine lv_isub hx hb dX8_wantedTo_29 ?_
    refine lv_ishr hx hb dX8_wantedTo_30 ?_
    refine lv_iconst (v := 1) hx hb dX8_wantedTo_31 (by decide) ?_
    refine lv_iand hx hb dX8_wantedTo_32 ?_
    refine lv_if_ne (tgt := 42) hx hb dX8_wantedTo_33 (by decide) (fun c11 => ?_) (fun c11 => ?_)
    · have h := h.1 c11
      refine lv_iload_n hx hb dX8_wantedTo_42 rfl (lv_at hl 1 rfl) ?_
      exact xw_ireti hx hb hr hlocks h dX8_wantedTo_43
    · have h := h.2 c11
      obtain ⟨v12, ev12⟩ : ∃ y : Int32, y = y3 + (-1) := ⟨_, rfl⟩
      have h := h v12 ev12
      refine lv_iinc (v := v12) (lv' := [(3, .int v12), (2, .int y2)]) hx hb dX8_wantedTo_36 hl (k := 1) rfl (by rw [ev12]; rfl) (by decide) rfl (fun ls hl => ?_)
      refine lv_goto (tgt := 26) hx hb dX8_wantedTo_39 (by decide) ?_
      exact (hWW _ _ _).mp (el26 _ _ h ls (lv_sub hl [1, 0] rfl))
  have h := h k26 rl26
  unfold bd_X8_wantedTo_0 at h
  refine lv_aload_n hx hb dX8_wantedTo_0 rfl (lv_at hl 0 rfl) ?_
  refine lv_iload_n hx hb dX8_wantedTo_1 rfl (lv_at hl 1 rfl) ?_
  refine xw_ri (va_runV (rm := { frames := 0, cells := 0, slots := 0, locals := 0 }) (As := [.int x1]) (rest := []) ⟨hx, hb, hml, hown, hts⟩ (c_X8_linksOf l D cy a x1 I F G _ h A) (cwV 1 hts gX8_wantedTo_X8_linksOf rfl rfl rfl (by decide +kernel) ⟨Nat.le_of_ble_eq_true rfl, Nat.le_of_ble_eq_true rfl⟩) (xw_preV hB hP hD (ci := 8) rfl xM_c0) rfl rfl hl.1 rfl (lv_room (Nat.le_of_ble_eq_true rfl)) dX8_wantedTo_2 ⟨Nat.le_of_ble_eq_true rfl, Nat.le_of_ble_eq_true rfl⟩) (fun r6 h => ?_)
  refine lv_istore_n (lv' := [(2, .int r6), (0, .ref (a 0)), (1, .int x1)]) hx hb dX8_wantedTo_5 rfl hl (by decide) rfl (fun ls hl => ?_)
  refine lv_iload_n hx hb dX8_wantedTo_6 rfl (lv_at hl 0 rfl) ?_
  refine lv_if_ne (tgt := 21) hx hb dX8_wantedTo_7 (by decide) (fun c7 => ?_) (fun c7 => ?_)
  · have h := h.1 c7
    refine lv_aload_n hx hb dX8_wantedTo_21 rfl (lv_at hl 1 rfl) ?_
    refine va_get (D := D) (ci := 8) (v := .int (I 2)) (C := RX8) (T := TX8) (N := 22) hx hb hts mX8_wantedTo_inX8 hown hB.1 hP 0 xM_c0 rfl 7 (by decide) (hts _ mX8_wantedTo_2) (fun _ h9 => h9) rfl dX8_wantedTo_22 ?_
    refine lv_topi (fun v8 ev8 => ?_)
    have h := h v8 ev8
    refine lv_istore_n (lv' := [(3, .int v8), (2, .int r6), (0, .ref (a 0)), (1, .int x1)]) hx hb dX8_wantedTo_25 rfl hl (by decide) rfl (fun ls hl => ?_)
    exact (hWW _ _ _).mp (el26 _ _ h ls (lv_sub hl [1, 0] rfl))
  · have h := h.2 c7
    refine lv_aload_n hx hb dX8_wantedTo_10 rfl (lv_at hl 1 rfl) ?_
    refine lv_aload_n hx hb dX8_wantedTo_11 rfl (lv_at hl 1 rfl) ?_
    refine va_get (D := D) (ci := 8) (v := .ref (a 1)) (C := RX8) (T := TX8) (N := 22) hx hb hts mX8_wantedTo_inX8 hown hB.1 hP 0 xM_c0 rfl 1 (by decide) (hts _ mX8_wantedTo_1) (fun _ h9 => h9) rfl dX8_wantedTo_12 ?_
    refine lv_iload_n hx hb dX8_wantedTo_15 rfl (lv_at hl 2 rfl) ?_
    refine xw_iald hx hb hB hP 1 xM_c1 h.1 dX8_wantedTo_16 (fun v9 ev9 => ?_)
    have h := h.2 v9 ev9
    refine xw_ri (va_runV (rm := { frames := 0, cells := 0, slots := 0, locals := 0 }) (As := [.int v9]) (rest := []) ⟨hx, hb, hml, hown, hts⟩ (c_X8_anchor l D cy a v9 I F G _ h A) (cwV 1 hts gX8_wantedTo_X8_anchor rfl rfl rfl (by decide +kernel) ⟨Nat.le_of_ble_eq_true rfl, Nat.le_of_ble_eq_true rfl⟩) (xw_preV hB hP hD (ci := 8) rfl xM_c0) rfl rfl hl.1 rfl (lv_room (Nat.le_of_ble_eq_true rfl)) dX8_wantedTo_17 ⟨Nat.le_of_ble_eq_true rfl, Nat.le_of_ble_eq_true rfl⟩) (fun r10 h => ?_)
    exact xw_ireti hx hb hr hlocks h dX8_wantedTo_20

set_option maxHeartbeats 4000000 in
set_option maxRecDepth 100000 in
theorem c_X8_costOf (l : Launch) (D : va_G) (cy : Nat → ClassId) (a : Nat → Nat) (x1 : Int32) (x2 : Int32) (x3 : Int32) (I : xw_I) (F : xw_F) (G : xw_G) (post : Int32 → Prop) (h : sm_X8_costOf x1 x2 x3 I F G post) : xw_Ri l yX8_costOf wsX8_costOf ({ frames := 2, cells := 0, slots := 0, locals := 46 }) D cy [.ref (a 0), .int x1, .int x2, .int x3] (xM_w cy a I F G) post := by
  intro A
  refine Met.ofW (cc := cX8_costOf) (maxL := 8) (ret := (some .int)) (by decide) rfl ?_
  intro p e s m args below meth c s₁ B hml hv
  obtain ⟨rfl, hP, hB, hD⟩ := hv
  have hP : va_P D vwCl (xM_w cy a I F G) s.heap := hP
  have hx := B.exec
  have hb := B.bytes
  have hr := B.returns
  have hts := atoms_spec (ws := wsX8_costOf) B.pre
  have hown : s.vm.findClass RX8 = some m.cls := findClass_of_methodNamed B.named
  have hlocks := B.notSynchronized
  refine xw_go (fun WW hWW => ?_)
  have hl := lv_entry ([.ref (a 0), .int x1, .int x2, .int x3]) (n := 8) (Nat.le_of_ble_eq_true rfl)
  rw [lg_entry_eq]
  generalize (lg_sl ([.ref (a 0), .int x1, .int x2, .int x3]) ++ List.replicate (8 - (lg_sl ([.ref (a 0), .int x1, .int x2, .int x3])).length) Slot.unset).toArray = ls at hl ⊢
  have hl : lv_has ls 8 [(0, .ref (a 0)), (1, .int x1), (2, .int x2), (3, .int x3)] := hl
  obtain ⟨k56, mk56, el56⟩ : ∃ K : Int32 → Int32 → Int32 → Prop, (∀ (y5 : Int32) (y6 : Int32) (y7 : Int32), (∀ (ls : Array Slot), lv_has ls 8 [(1, .int x1), (2, .int x2), (3, .int x3), (5, .int y5), (6, .int y6), (7, .int y7)] → WW s.heap [] (F0 m 56 ls [])) → K y5 y6 y7) ∧ (∀ (y5 : Int32) (y6 : Int32) (y7 : Int32), K y5 y6 y7 → (∀ (ls : Array Slot), lv_has ls 8 [(1, .int x1), (2, .int x2), (3, .int x3), (5, .int y5), (6, .int y6), (7, .int y7)] → WW s.heap [] (F0 m 56 ls []))) := ⟨fun (y5 : Int32) (y6 : Int32) (y7 : Int32) => (∀ (ls : Array Slot), lv_has ls 8 [(1, .int x1), (2, .int x2), (3, .int x3), (5, .int y5), (6, .int y6), (7, .int y7)] → WW s.heap [] (F0 m 56 ls [])), fun _ _ _ h => h, fun _ _ _ h => h⟩
  have rl56 : ∀ (y5 : Int32) (y6 : Int32) (y7 : Int32), (bd_X8_costOf_56 x1 x2 x3 I F G post k56 y5 y6 y7) → k56 y5 y6 y7 := by
    intro y5 y6 y7 h
    refine mk56 _ _ _ ?_
    intro ls hl
    refine (hWW _ _ _).mpr ?_
    unfold bd_X8_costOf_56 at h
    refine lv_iload hx hb dX8_costOf_56 (lv_at hl 5 rfl) ?_
    refine lv_iload hx hb dX8_costOf_58 (lv_at hl 3 rfl) ?_
    refine lv_icmp_ge (tgt := 96) hx hb dX8_costOf_60 (by decide) (fun c22 => ?_) (fun c22 => ?_)
    · have h := h.1 c22
      refine lv_iload hx hb dX8_costOf_96 (lv_at hl 4 rfl) ?_
      exact xw_ireti hx hb hr hlocks h dX8_costOf_98
    · have h := h.2 c22
      refine lv_iload_n hx hb dX8_costOf_63 rfl (lv_at hl 0 rfl) ?_
      refine lv_iconst (v := 1) hx hb dX8_costOf_64 (by decide) ?_
      refine lv_icmp_le (tgt := 96) hx hb dX8_costOf_65 (by decide) (fun c23 => ?_) (fun c23 => ?_)
      · have h := h.1 c23
        refine lv_iload hx hb dX8_costOf_96 (lv_at hl 4 rfl) ?_
        exact xw_ireti hx hb hr hlocks h dX8_costOf_98
      · have h := h.2 c23
        refine lv_iload hx hb dX8_costOf_68 (lv_at hl 4 rfl) ?_
        refine lv_iload hx hb dX8_costOf_70 (lv_at hl 5 rfl) ?_
        refine lv_iload_n hx hb dX8_costOf_72 rfl (lv_at hl 1 rfl) ?_
        refine lv_icmp_lt (tgt := 82) hx hb dX8_costOf_73 (by decide) (fun c24 => ?_) (fun c24 => ?_)
        · have h := h.1 c24
          refine lv_iconst (v := 2) hx hb dX8_costOf_82 (by decide) ?_
          refine lv_goto (tgt := 87) hx hb dX8_costOf_83 (by decide) ?_
          refine lv_iadd hx hb dX8_costOf_87 ?_
          refine lv_topi (fun v25 ev25 => ?_)
          have h := h v25 ev25
          refine lv_istore (lv' := [(6, .int v25), (1, .int x1), (2, .int x2), (3, .int x3), (5, .int y5), (7, .int y7)]) hx hb dX8_costOf_88 hl (by decide) rfl (fun ls hl => ?_)
          obtain ⟨v26, ev26⟩ : ∃ y : Int32, y = y7 + 1 := ⟨_, rfl⟩
          have h := h v26 ev26
          refine lv_iinc (v := v26) (lv' := [(7, .int v26), (6, .int v25), (1, .int x1), (2, .int x2), (3, .int x3), (5, .int y5)]) hx hb dX8_costOf_90 hl (k := 5) rfl (by rw [ev26]; rfl) (by decide) rfl (fun ls hl => ?_)
          refine lv_goto (tgt := 56) hx hb dX8_costOf_93 (by decide) ?_
          exact (hWW _ _ _).mp (el56 _ _ _ h ls (lv_sub hl [2, 3, 4, 5, 1, 0] rfl))
        · have h := h.2 c24
          refine lv_iload hx hb dX8_costOf_76 (lv_at hl 5 rfl) ?_
          refine lv_iload_n hx hb dX8_costOf_78 rfl (lv_at hl 2 rfl) ?_
          refine lv_icmp_lt (tgt := 86) hx hb dX8_costOf_79 (by decide) (fun c27 => ?_) (fun c27 => ?_)
          · have h := h.1 c27
            refine lv_iconst (v := 0) hx hb dX8_costOf_86 (by decide) ?_
            refine lv_iadd hx hb dX8_costOf_87 ?_
            refine lv_topi (fun v28 ev28 => ?_)
            have h := h v28 ev28
            refine lv_istore (lv' := [(6, .int v28), (1, .int x1), (2, .int x2), (3, .int x3), (5, .int y5), (7, .int y7)]) hx hb dX8_costOf_88 hl (by decide) rfl (fun ls hl => ?_)
            obtain ⟨v29, ev29⟩ : ∃ y : Int32, y = y7 + 1 := ⟨_, rfl⟩
            have h := h v29 ev29
            refine lv_iinc (v := v29) (lv' := [(7, .int v29), (6, .int v28), (1, .int x1), (2, .int x2), (3, .int x3), (5, .int y5)]) hx hb dX8_costOf_90 hl (k := 5) rfl (by rw [ev29]; rfl) (by decide) rfl (fun ls hl => ?_)
            refine lv_goto (tgt := 56) hx hb dX8_costOf_93 (by decide) ?_
            exact (hWW _ _ _).mp (el56 _ _ _ h ls (lv_sub hl [2, 3, 4, 5, 1, 0] rfl))
          · have h := h.2 c27
            refine lv_iconst (v := 2) hx hb dX8_costOf_82 (by decide) ?_
            refine lv_goto (tgt := 87) hx hb dX8_costOf_83 (by decide) ?_
            refine lv_iadd hx hb dX8_costOf_87 ?_
            refine lv_topi (fun v30 ev30 => ?_)
            have h := h v30 ev30
            refine lv_istore (lv' := [(6, .int v30), (1, .int x1), (2, .int x2), (3, .int x3), (5, .int y5), (7, .int y7)]) hx hb dX8_costOf_88 hl (by decide) rfl (fun ls hl => ?_)
            obtain ⟨v31, ev31⟩ : ∃ y : Int32, y = y7 + 1 := ⟨_, rfl⟩
            have h := h v31 ev31
            refine lv_iinc (v := v31) (lv' := [(7, .int v31), (6, .int v30), (1, .int x1), (2, .int x2), (3, .int x3), (5, .int y5)]) hx hb dX8_costOf_90 hl (k := 5) rfl (by rw [ev31]; rfl) (by decide) rfl (fun ls hl => ?_)
            refine lv_goto (tgt := 56) hx hb dX8_costOf_93 (by decide) ?_
            exact (hWW _ _ _).mp (el56 _ _ _ h ls (lv_sub hl [2, 3, 4, 5, 1, 0] rfl))
  have h := h k56 rl56
  unfold bd_X8_costOf_0 at h
  refine lv_aload_n hx hb dX8_costOf_0 rfl (lv_at hl 0 rfl) ?_
  refine lv_iload_n hx hb dX8_costOf_1 rfl (lv_at hl 1 rfl) ?_
  refine xw_ri (va_runV (rm := { frames := 1, cells := 0, slots := 0, locals := 23 }) (As := [.int x1]) (rest := []) ⟨hx, hb, hml, hown, hts⟩ (c_X8_wantedFrom l D cy a x1 I F G _ h A) (cwV 1 hts gX8_costOf_X8_wantedFrom rfl rfl rfl (by decide +kernel) ⟨Nat.le_of_ble_eq_true rfl, Nat.le_of_ble_eq_true rfl⟩) (xw_preV hB hP hD (ci := 8) rfl xM_c0) rfl rfl hl.1 rfl (lv_room (Nat.le_of_ble_eq_true rfl)) dX8_costOf_2 ⟨Nat.le_of_ble_eq_true rfl, Nat.le_of_ble_eq_true rfl⟩) (fun r13 h => ?_)
  refine lv_istore (lv' := [(4, .int r13), (0, .ref (a 0)), (1, .int x1), (2, .int x2), (3, .int x3)]) hx hb dX8_costOf_5 hl (by decide) rfl (fun ls hl => ?_)
  refine lv_aload_n hx hb dX8_costOf_7 rfl (lv_at hl 1 rfl) ?_
  refine lv_iload_n hx hb dX8_costOf_8 rfl (lv_at hl 2 rfl) ?_
  refine xw_ri (va_runV (rm := { frames := 1, cells := 0, slots := 0, locals := 23 }) (As := [.int x1]) (rest := []) ⟨hx, hb, hml, hown, hts⟩ (c_X8_wantedTo l D cy a x1 I F G _ h A) (cwV 1 hts gX8_costOf_X8_wantedTo rfl rfl rfl (by decide +kernel) ⟨Nat.le_of_ble_eq_true rfl, Nat.le_of_ble_eq_true rfl⟩) (xw_preV hB hP hD (ci := 8) rfl xM_c0) rfl rfl hl.1 rfl (lv_room (Nat.le_of_ble_eq_true rfl)) dX8_costOf_9 ⟨Nat.le_of_ble_eq_true rfl, Nat.le_of_ble_eq_true rfl⟩) (fun r14 h => ?_)
  refine lv_istore (lv' := [(5, .int r14), (4, .int r13), (0, .ref (a 0)), (1, .int x1), (2, .int x2), (3, .int x3)]) hx hb dX8_costOf_12 hl (by decide) rfl (fun ls hl => ?_)
  refine lv_iload hx hb dX8_costOf_14 (lv_at hl 1 rfl) ?_
  refine lv_iload_n hx hb dX8_costOf_16 rfl (lv_at hl 4 rfl) ?_
  refine xw_ri (va_runS (rm := { frames := 0, cells := 0, slots := 0, locals := 0 }) (As := [.int r13, .int x2]) (rest := []) ⟨hx, hb, hml, hown, hts⟩ (c_X8_off l D cy r13 x2 _ h (fun _ => True)) (va_cwS 2 hts gX8_costOf_X8_off rfl rfl rfl (by decide +kernel) ⟨Nat.le_of_ble_eq_true rfl, Nat.le_of_ble_eq_true rfl⟩) (xw_preS hB xw_P0 (xw_D0 (A := fun _ => True))) rfl rfl hl.1 rfl (lv_room (Nat.le_of_ble_eq_true rfl)) dX8_costOf_17 ⟨Nat.le_of_ble_eq_true rfl, Nat.le_of_ble_eq_true rfl⟩) (fun r15 h => ?_)
  refine lv_iload hx hb dX8_costOf_20 (lv_at hl 0 rfl) ?_
  refine lv_iload_n hx hb dX8_costOf_22 rfl (lv_at hl 5 rfl) ?_
  refine xw_ri (va_runS (rm := { frames := 0, cells := 0, slots := 0, locals := 0 }) (As := [.int r14, .int x3]) (rest := [.int r15]) ⟨hx, hb, hml, hown, hts⟩ (c_X8_off l D cy r14 x3 _ h (fun _ => True)) (va_cwS 2 hts gX8_costOf_X8_off rfl rfl rfl (by decide +kernel) ⟨Nat.le_of_ble_eq_true rfl, Nat.le_of_ble_eq_true rfl⟩) (xw_preS hB xw_P0 (xw_D0 (A := fun _ => True))) rfl rfl hl.1 rfl (lv_room (Nat.le_of_ble_eq_true rfl)) dX8_costOf_23 ⟨Nat.le_of_ble_eq_true rfl, Nat.le_of_ble_eq_true rfl⟩) (fun r16 h => ?_)
  refine lv_iadd hx hb dX8_costOf_26 ?_
  refine lv_topi (fun v17 ev17 => ?_)
  have h := h v17 ev17
  refine lv_istore (lv' := [(6, .int v17), (5, .int r14), (4, .int r13), (0, .ref (a 0)), (1, .int x1), (2, .int x2), (3, .int x3)]) hx hb dX8_costOf_27 hl (by decide) rfl (fun ls hl => ?_)
  refine lv_iload_n hx hb dX8_costOf_29 rfl (lv_at hl 4 rfl) ?_
  refine lv_iconst (v := 4) hx hb dX8_costOf_30 (by decide) ?_
  refine lv_icmp_ne (tgt := 52) hx hb dX8_costOf_31 (by decide) (fun c18 => ?_) (fun c18 => ?_)
  · have h := h.1 c18
    refine lv_iload hx hb dX8_costOf_52 (lv_at hl 2 rfl) ?_
    refine lv_istore (lv' := [(7, .int r13), (6, .int v17), (5, .int r14), (4, .int r13), (0, .ref (a 0)), (1, .int x1), (2, .int x2), (3, .int x3)]) hx hb dX8_costOf_54 hl (by decide) rfl (fun ls hl => ?_)
    exact (hWW _ _ _).mp (el56 _ _ _ h ls (lv_sub hl [5, 6, 7, 2, 1, 0] rfl))
  · have h := h.2 c18
    refine lv_iconst (v := 2) hx hb dX8_costOf_34 (by decide) ?_
    refine lv_iload hx hb dX8_costOf_35 (lv_at hl 2 rfl) ?_
    refine lv_iload_n hx hb dX8_costOf_37 rfl (lv_at hl 5 rfl) ?_
    refine xw_ri (va_runS (rm := { frames := 0, cells := 0, slots := 0, locals := 0 }) (As := [.int r13, .int x2]) (rest := [.int (2 : Int32)]) ⟨hx, hb, hml, hown, hts⟩ (c_X8_off l D cy r13 x2 _ h (fun _ => True)) (va_cwS 2 hts gX8_costOf_X8_off rfl rfl rfl (by decide +kernel) ⟨Nat.le_of_ble_eq_true rfl, Nat.le_of_ble_eq_true rfl⟩) (xw_preS hB xw_P0 (xw_D0 (A := fun _ => True))) rfl rfl hl.1 rfl (lv_room (Nat.le_of_ble_eq_true rfl)) dX8_costOf_38 ⟨Nat.le_of_ble_eq_true rfl, Nat.le_of_ble_eq_true rfl⟩) (fun r19 h => ?_)
    refine lv_iload hx hb dX8_costOf_41 (lv_at hl 1 rfl) ?_
    refine lv_iload_n hx hb dX8_costOf_43 rfl (lv_at hl 6 rfl) ?_
    refine xw_ri (va_runS (rm := { frames := 0, cells := 0, slots := 0, locals := 0 }) (As := [.int r14, .int x3]) (rest := [.int r19, .int (2 : Int32)]) ⟨hx, hb, hml, hown, hts⟩ (c_X8_off l D cy r14 x3 _ h (fun _ => True)) (va_cwS 2 hts gX8_costOf_X8_off rfl rfl rfl (by decide +kernel) ⟨Nat.le_of_ble_eq_true rfl, Nat.le_of_ble_eq_true rfl⟩) (xw_preS hB xw_P0 (xw_D0 (A := fun _ => True))) rfl rfl hl.1 rfl (lv_room (Nat.le_of_ble_eq_true rfl)) dX8_costOf_44 ⟨Nat.le_of_ble_eq_true rfl, Nat.le_of_ble_eq_true rfl⟩) (fun r20 h => ?_)
    refine xw_ri (va_runS (rm := { frames := 0, cells := 0, slots := 0, locals := 0 }) (As := [.int r19, .int r20]) (rest := [.int (2 : Int32)]) ⟨hx, hb, hml, hown, hts⟩ (c_X8_greater l D cy r19 r20 _ h (fun _ => True)) (va_cwS 2 hts gX8_costOf_X8_greater rfl rfl rfl (by decide +kernel) ⟨Nat.le_of_ble_eq_true rfl, Nat.le_of_ble_eq_true rfl⟩) (xw_preS hB xw_P0 (xw_D0 (A := fun _ => True))) rfl rfl hl.1 rfl (lv_room (Nat.le_of_ble_eq_true rfl)) dX8_costOf_47 ⟨Nat.le_of_ble_eq_true rfl, Nat.le_of_ble_eq_true rfl⟩) (fun r21 h => ?_)
    refine lv_imul hx hb dX8_costOf_50 ?_
    exact xw_ireti hx hb hr hlocks h dX8_costOf_51

theorem mX8_areApart_1 : Cond.fieldLink RX8 16 "TagCarrierModel" "holds" "[I" ∈ wsX8_areApart := List.mem_of_getElem? (i := 1) rfl
theorem mX8_areApart_inX8 : ∀ w ∈ u_ws RX8 TX8 22, w ∈ wsX8_areApart := by decide +kernel
set_option maxHeartbeats 4000000 in
set_option maxRecDepth 100000 in
theorem c_X8_areApart (l : Launch) (D : va_G) (cy : Nat → ClassId) (a : Nat → Nat) (x1 : Int32) (x2 : Int32) (I : xw_I) (F : xw_F) (G : xw_G) (post : Int32 → Prop) (h : sm_X8_areApart x1 x2 I F G post) : xw_Ri l yX8_areApart wsX8_areApart ({ frames := 0, cells := 0, slots := 0, locals := 0 }) D cy [.ref (a 0), .int x1, .int x2] (xM_w cy a I F G) post := by
  intro A
  refine Met.ofW (cc := cX8_areApart) (maxL := 5) (ret := (some .boolean)) (by decide) rfl ?_
  intro p e s m args below meth c s₁ B hml hv
  obtain ⟨rfl, hP, hB, hD⟩ := hv
  have hP : va_P D vwCl (xM_w cy a I F G) s.heap := hP
  have hx := B.exec
  have hb := B.bytes
  have hr := B.returns
  have hts := atoms_spec (ws := wsX8_areApart) B.pre
  have hown : s.vm.findClass RX8 = some m.cls := findClass_of_methodNamed B.named
  have hlocks := B.notSynchronized
  refine xw_go (fun WW hWW => ?_)
  have hl := lv_entry ([.ref (a 0), .int x1, .int x2]) (n := 5) (Nat.le_of_ble_eq_true rfl)
  rw [lg_entry_eq]
  generalize (lg_sl ([.ref (a 0), .int x1, .int x2]) ++ List.replicate (5 - (lg_sl ([.ref (a 0), .int x1, .int x2])).length) Slot.unset).toArray = ls at hl ⊢
  have hl : lv_has ls 5 [(0, .ref (a 0)), (1, .int x1), (2, .int x2)] := hl
  obtain ⟨k5, mk5, el5⟩ : ∃ K : Int32 → Int32 → Prop, (∀ (y3 : Int32) (y4 : Int32), (∀ (ls : Array Slot), lv_has ls 5 [(0, .ref (a 0)), (1, .int x1), (2, .int x2), (3, .int y3), (4, .int y4)] → WW s.heap [] (F0 m 5 ls [])) → K y3 y4) ∧ (∀ (y3 : Int32) (y4 : Int32), K y3 y4 → (∀ (ls : Array Slot), lv_has ls 5 [(0, .ref (a 0)), (1, .int x1), (2, .int x2), (3, .int y3), (4, .int y4)] → WW s.heap [] (F0 m 5 ls []))) := ⟨fun (y3 : Int32) (y4 : Int32) => (∀ (ls : Array Slot), lv_has ls 5 [(0, .ref (a 0)), (1, .int x1), (2, .int x2), (3, .int y3), (4, .int y4)] → WW s.heap [] (F0 m 5 ls [])), fun _ _ h => h, fun _ _ h => h⟩
  obtain ⟨k36, mk36, el36⟩ : ∃ K : Int32 → Prop, (∀ (y4 : Int32), (∀ (ls : Array Slot), lv_has ls 5 [(0, .ref (a 0)), (1, .int x1), (2, .int x2), (4, .int y4)] → WW s.heap [] (F0 m 36 ls [])) → K y4) ∧ (∀ (y4 : Int32), K y4 → (∀ (ls : Array Slot), lv_has ls 5 [(0, .ref (a 0)), (1, .int x1), (2, .int x2), (4, .int y4)] → WW s.heap [] (F0 m 36 ls []))) := ⟨fun (y4 : Int32) => (∀ (ls : Array Slot), lv_has ls 5 [(0, .ref (a 0)), (1, .int x1), (2, .int x2), (4, .int y4)] → WW s.heap [] (F0 m 36 ls [])), fun _ h => h, fun _ h => h⟩
  have rl5 : ∀ (y3 : Int32) (y4 : Int32), (bd_X8_areApart_5 x1 x2 I F G post k5 k36 y3 y4) → k5 y3 y4 := by
    intro y3 y4 h
    refine mk5 _ _ ?_
    intro ls hl
    refine (hWW _ _ _).mpr ?_
    unfold bd_X8_areApart_5 at h
    refine lv_iload hx hb dX8_areApart_5 (lv_at hl 4 rfl) ?_
    refine lv_iconst (v := 5) hx hb dX8_areApart_7 (by decide) ?_
    refine lv_icmp_ge (tgt := 69) hx hb dX8_areApart_8 (by decide) (fun c14 => ?_) (fun c14 => ?_)
    · have h := h.1 c14
      refine lv_iload_n hx hb dX8_areApart_69 rfl (lv_at hl 3 rfl) ?_
      exact xw_iretz hx hb hr hlocks h.1 h.2 dX8_areApart_70
    · have h := h.2 c14
      refine lv_iload_n hx hb dX8_areApart_11 rfl (lv_at hl 3 rfl) ?_
      refine lv_if_eq (tgt := 61) hx hb dX8_areApart_12 (by decide) (fun c15 => ?_) (fun c15 => ?_)
      · have h := h.1 c15
        refine lv_iconst (v := 0) hx hb dX8_areApart_61 (by decide) ?_
        refine lv_istore_n (lv' := [(3, .int (0 : Int32)), (0, .ref (a 0)), (1, .int x1), (2, .int x2), (4, .int y4)]) hx hb dX8_areApart_62 rfl hl (by decide) rfl (fun ls hl => ?_)
        obtain ⟨v16, ev16⟩ : ∃ y : Int32, y = y4 + 1 := ⟨_, rfl⟩
        have h := h v16 ev16
        refine lv_iinc (v := v16) (lv' := [(4, .int v16), (3, .int (0 : Int32)), (0, .ref (a 0)), (1, .int x1), (2, .int x2)]) hx hb dX8_areApart_63 hl (k := 4) rfl (by rw [ev16]; rfl) (by decide) rfl (fun ls hl => ?_)
        refine lv_goto (tgt := 5) hx hb dX8_areApart_66 (by decide) ?_
        exact (hWW _ _ _).mp (el5 _ _ h ls (lv_sub hl [2, 3, 4, 1, 0] rfl))
      · have h := h.2 c15
        refine lv_iload_n hx hb dX8_areApart_15 rfl (lv_at hl 1 rfl) ?_
        refine lv_iload hx hb dX8_areApart_16 (lv_at hl 4 rfl) ?_
        refine lv_ishr hx hb dX8_areApart_18 ?_
        refine lv_iconst (v := 1) hx hb dX8_areApart_19 (by decide) ?_
        refine lv_iand hx hb dX8_areApart_20 ?_
        refine lv_if_eq (tgt := 36) hx hb dX8_areApart_21 (by decide) (fun c17 => ?_) (fun c17 => ?_)
        · have h := h.1 c17
          exact (hWW _ _ _).mp (el36 _ h ls (lv_sub hl [0, 1, 2, 4] rfl))
        · have h := h.2 c17
          refine lv_aload_n hx hb dX8_areApart_24 rfl (lv_at hl 0 rfl) ?_
          refine va_get (D := D) (ci := 8) (v := .ref (a 3)) (C := RX8) (T := TX8) (N := 22) hx hb hts mX8_areApart_inX8 hown hB.1 hP 0 xM_c0 rfl 3 (by decide) (hts _ mX8_areApart_1) (fun _ h9 => h9) rfl dX8_areApart_25 ?_
          refine lv_iload hx hb dX8_areApart_28 (lv_at hl 4 rfl) ?_
          refine xw_iald hx hb hB hP 3 xM_c3 h.1 dX8_areApart_30 (fun v18 ev18 => ?_)
          have h := h.2 v18 ev18
          refine lv_iload_n hx hb dX8_areApart_31 rfl (lv_at hl 2 rfl) ?_
          refine lv_iand hx hb dX8_areApart_32 ?_
          refine lv_if_ne (tgt := 61) hx hb dX8_areApart_33 (by decide) (fun c19 => ?_) (fun c19 => ?_)
          · have h := h.1 c19
            refine lv_iconst (v := 0) hx hb dX8_areApart_61 (by decide) ?_
            refine lv_istore_n (lv' := [(3, .int (0 : Int32)), (0, .ref (a 0)), (1, .int x1), (2, .int x2), (4, .int y4)]) hx hb dX8_areApart_62 rfl hl (by decide) rfl (fun ls hl => ?_)
            obtain ⟨v20, ev20⟩ : ∃ y : Int32, y = y4 + 1 := ⟨_, rfl⟩
            have h := h v20 ev20
            refine lv_iinc (v := v20) (lv' := [(4, .int v20), (3, .int (0 : Int32)), (0, .ref (a 0)), (1, .int x1), (2, .int x2)]) hx hb dX8_areApart_63 hl (k := 4) rfl (by rw [ev20]; rfl) (by decide) rfl (fun ls hl => ?_)
            refine lv_goto (tgt := 5) hx hb dX8_areApart_66 (by decide) ?_
            exact (hWW _ _ _).mp (el5 _ _ h ls (lv_sub hl [2, 3, 4, 1, 0] rfl))
          · have h := h.2 c19
            exact (hWW _ _ _).mp (el36 _ h ls (lv_sub hl [0, 1, 2, 4] rfl))
  have rl36 : ∀ (y4 : Int32), (bd_X8_areApart_36 x1 x2 I F G post k5 k36 y4) → k36 y4 := by
    intro y4 h
    refine mk36 _ ?_
    intro ls hl
    refine (hWW _ _ _).mpr ?_
    unfold bd_X8_areApart_36 at h
    refine lv_iload_n hx hb dX8_areApart_36 rfl (lv_at hl 2 rfl) ?_
    refine lv_iload hx hb dX8_areApart_37 (lv_at hl 3 rfl) ?_
    refine lv_ishr hx hb dX8_areApart_39 ?_
    refine lv_iconst (v := 1) hx hb dX8_areApart_40 (by decide) ?_
    refine lv_iand hx hb dX8_areApart_41 ?_
    refine lv_if_eq (tgt := 57) hx hb dX8_areApart_42 (by decide) (fun c21 => ?_) (fun c21 => ?_)
    · have h := h.1 c21
      refine lv_iconst (v := 1) hx hb dX8_areApart_57 (by decide) ?_
      refine lv_goto (tgt := 62) hx hb dX8_areApart_58 (by decide) ?_
      refine lv_istore_n (lv' := [(3, .int (1 : Int32)), (0, .ref (a 0)), (1, .int x1), (2, .int x2), (4, .int y4)]) hx hb dX8_areApart_62 rfl hl (by decide) rfl (fun ls hl => ?_)
      obtain ⟨v22, ev22⟩ : ∃ y : Int32, y = y4 + 1 := ⟨_, rfl⟩
      have h := h v22 ev22
      refine lv_iinc (v := v22) (lv' := [(4, .int v22), (3, .int (1 : Int32)), (0, .ref (a 0)), (1, .int x1), (2, .int x2)]) hx hb dX8_areApart_63 hl (k := 4) rfl (by rw [ev22]; rfl) (by decide) rfl (fun ls hl => ?_)
      refine lv_goto (tgt := 5) hx hb dX8_areApart_66 (by decide) ?_
      exact (hWW _ _ _).mp (el5 _ _ h ls (lv_sub hl [2, 3, 4, 1, 0] rfl))
    · have h := h.2 c21
      refine lv_aload_n hx hb dX8_areApart_45 rfl (lv_at hl 0 rfl) ?_
      refine va_get (D := D) (ci := 8) (v := .ref (a 3)) (C := RX8) (T := TX8) (N := 22) hx hb hts mX8_areApart_inX8 hown hB.1 hP 0 xM_c0 rfl 3 (by decide) (hts _ mX8_areApart_1) (fun _ h9 => h9) rfl dX8_areApart_46 ?_
      refine lv_iload hx hb dX8_areApart_49 (lv_at hl 3 rfl) ?_
      refine xw_iald hx hb hB hP 3 xM_c3 h.1 dX8_areApart_51 (fun v23 ev23 => ?_)
      have h := h.2 v23 ev23
      refine lv_iload_n hx hb dX8_areApart_52 rfl (lv_at hl 1 rfl) ?_
      refine lv_iand hx hb dX8_areApart_53 ?_
      refine lv_if_ne (tgt := 61) hx hb dX8_areApart_54 (by decide) (fun c24 => ?_) (fun c24 => ?_)
      · have h := h.1 c24
        refine lv_iconst (v := 0) hx hb dX8_areApart_61 (by decide) ?_
        refine lv_istore_n (lv' := [(3, .int (0 : Int32)), (0, .ref (a 0)), (1, .int x1), (2, .int x2), (4, .int y4)]) hx hb dX8_areApart_62 rfl hl (by decide) rfl (fun ls hl => ?_)
        obtain ⟨v25, ev25⟩ : ∃ y : Int32, y = y4 + 1 := ⟨_, rfl⟩
        have h := h v25 ev25
        refine lv_iinc (v := v25) (lv' := [(4, .int v25), (3, .int (0 : Int32)), (0, .ref (a 0)), (1, .int x1), (2, .int x2)]) hx hb dX8_areApart_63 hl (k := 4) rfl (by rw [ev25]; rfl) (by decide) rfl (fun ls hl => ?_)
        refine lv_goto (tgt := 5) hx hb dX8_areApart_66 (by decide) ?_
        exact (hWW _ _ _).mp (el5 _ _ h ls (lv_sub hl [2, 3, 4, 1, 0] rfl))
      · have h := h.2 c24
        refine lv_iconst (v := 1) hx hb dX8_areApart_57 (by decide) ?_
        refine lv_goto (tgt := 62) hx hb dX8_areApart_58 (by decide) ?_
        refine lv_istore_n (lv' := [(3, .int (1 : Int32)), (0, .ref (a 0)), (1, .int x1), (2, .int x2), (4, .int y4)]) hx hb dX8_areApart_62 rfl hl (by decide) rfl (fun ls hl => ?_)
        obtain ⟨v26, ev26⟩ : ∃ y : Int32, y = y4 + 1 := ⟨_, rfl⟩
        have h := h v26 ev26
        refine lv_iinc (v := v26) (lv' := [(4, .int v26), (3, .int (1 : Int32)), (0, .ref (a 0)), (1, .int x1), (2, .int x2)]) hx hb dX8_areApart_63 hl (k := 4) rfl (by rw [ev26]; rfl) (by decide) rfl (fun ls hl => ?_)
        refine lv_goto (tgt := 5) hx hb dX8_areApart_66 (by decide) ?_
        exact (hWW _ _ _).mp (el5 _ _ h ls (lv_sub hl [2, 3, 4, 1, 0] rfl))
  have h := h k5 k36 rl5 rl36
  unfold bd_X8_areApart_0 at h
  refine lv_iconst (v := 1) hx hb dX8_areApart_0 (by decide) ?_
  refine lv_istore_n (lv' := [(3, .int (1 : Int32)), (0, .ref (a 0)), (1, .int x1), (2, .int x2)]) hx hb dX8_areApart_1 rfl hl (by decide) rfl (fun ls hl => ?_)
  refine lv_iconst (v := 0) hx hb dX8_areApart_2 (by decide) ?_
  refine lv_istore (lv' := [(4, .int (0 : Int32)), (3, .int (1 : Int32)), (0, .ref (a 0)), (1, .int x1), (2, .int x2)]) hx hb dX8_areApart_3 hl (by decide) rfl (fun ls hl => ?_)
  exact (hWW _ _ _).mp (el5 _ _ h ls (lv_sub hl [2, 3, 4, 1, 0] rfl))

theorem mX8_isHeld_1 : Cond.fieldLink RX8 16 "TagCarrierModel" "holds" "[I" ∈ wsX8_isHeld := List.mem_of_getElem? (i := 1) rfl
theorem mX8_isHeld_inX8 : ∀ w ∈ u_ws RX8 TX8 22, w ∈ wsX8_isHeld := by decide +kernel
set_option maxHeartbeats 4000000 in
set_option maxRecDepth 100000 in
theorem c_X8_isHeld (l : Launch) (D : va_G) (cy : Nat → ClassId) (a : Nat → Nat) (x1 : Int32) (x2 : Int32) (I : xw_I) (F : xw_F) (G : xw_G) (post : Int32 → Prop) (h : sm_X8_isHeld x1 x2 I F G post) : xw_Ri l yX8_isHeld wsX8_isHeld ({ frames := 0, cells := 0, slots := 0, locals := 0 }) D cy [.ref (a 0), .int x1, .int x2] (xM_w cy a I F G) post := by
  intro A
  refine Met.ofW (cc := cX8_isHeld) (maxL := 5) (ret := (some .boolean)) (by decide) rfl ?_
  intro p e s m args below meth c s₁ B hml hv
  obtain ⟨rfl, hP, hB, hD⟩ := hv
  have hP : va_P D vwCl (xM_w cy a I F G) s.heap := hP
  have hx := B.exec
  have hb := B.bytes
  have hr := B.returns
  have hts := atoms_spec (ws := wsX8_isHeld) B.pre
  have hown : s.vm.findClass RX8 = some m.cls := findClass_of_methodNamed B.named
  have hlocks := B.notSynchronized
  refine xw_go (fun WW hWW => ?_)
  have hl := lv_entry ([.ref (a 0), .int x1, .int x2]) (n := 5) (Nat.le_of_ble_eq_true rfl)
  rw [lg_entry_eq]
  generalize (lg_sl ([.ref (a 0), .int x1, .int x2]) ++ List.replicate (5 - (lg_sl ([.ref (a 0), .int x1, .int x2])).length) Slot.unset).toArray = ls at hl ⊢
  have hl : lv_has ls 5 [(0, .ref (a 0)), (1, .int x1), (2, .int x2)] := hl
  obtain ⟨k5, mk5, el5⟩ : ∃ K : Int32 → Int32 → Prop, (∀ (y3 : Int32) (y4 : Int32), (∀ (ls : Array Slot), lv_has ls 5 [(0, .ref (a 0)), (1, .int x1), (2, .int x2), (3, .int y3), (4, .int y4)] → WW s.heap [] (F0 m 5 ls [])) → K y3 y4) ∧ (∀ (y3 : Int32) (y4 : Int32), K y3 y4 → (∀ (ls : Array Slot), lv_has ls 5 [(0, .ref (a 0)), (1, .int x1), (2, .int x2), (3, .int y3), (4, .int y4)] → WW s.heap [] (F0 m 5 ls []))) := ⟨fun (y3 : Int32) (y4 : Int32) => (∀ (ls : Array Slot), lv_has ls 5 [(0, .ref (a 0)), (1, .int x1), (2, .int x2), (3, .int y3), (4, .int y4)] → WW s.heap [] (F0 m 5 ls [])), fun _ _ h => h, fun _ _ h => h⟩
  have rl5 : ∀ (y3 : Int32) (y4 : Int32), (bd_X8_isHeld_5 x1 x2 I F G post k5 y3 y4) → k5 y3 y4 := by
    intro y3 y4 h
    refine mk5 _ _ ?_
    intro ls hl
    refine (hWW _ _ _).mpr ?_
    unfold bd_X8_isHeld_5 at h
    refine lv_iload hx hb dX8_isHeld_5 (lv_at hl 4 rfl) ?_
    refine lv_iconst (v := 5) hx hb dX8_isHeld_7 (by decide) ?_
    refine lv_icmp_ge (tgt := 52) hx hb dX8_isHeld_8 (by decide) (fun c10 => ?_) (fun c10 => ?_)
    · have h := h.1 c10
      refine lv_iload_n hx hb dX8_isHeld_52 rfl (lv_at hl 3 rfl) ?_
      exact xw_iretz hx hb hr hlocks h.1 h.2 dX8_isHeld_53
    · have h := h.2 c10
      refine lv_iload_n hx hb dX8_isHeld_11 rfl (lv_at hl 3 rfl) ?_
      refine lv_if_ne (tgt := 40) hx hb dX8_isHeld_12 (by decide) (fun c11 => ?_) (fun c11 => ?_)
      · have h := h.1 c11
        refine lv_iconst (v := 1) hx hb dX8_isHeld_40 (by decide) ?_
        refine lv_goto (tgt := 45) hx hb dX8_isHeld_41 (by decide) ?_
        refine lv_istore_n (lv' := [(3, .int (1 : Int32)), (0, .ref (a 0)), (1, .int x1), (2, .int x2), (4, .int y4)]) hx hb dX8_isHeld_45 rfl hl (by decide) rfl (fun ls hl => ?_)
        obtain ⟨v12, ev12⟩ : ∃ y : Int32, y = y4 + 1 := ⟨_, rfl⟩
        have h := h v12 ev12
        refine lv_iinc (v := v12) (lv' := [(4, .int v12), (3, .int (1 : Int32)), (0, .ref (a 0)), (1, .int x1), (2, .int x2)]) hx hb dX8_isHeld_46 hl (k := 4) rfl (by rw [ev12]; rfl) (by decide) rfl (fun ls hl => ?_)
        refine lv_goto (tgt := 5) hx hb dX8_isHeld_49 (by decide) ?_
        exact (hWW _ _ _).mp (el5 _ _ h ls (lv_sub hl [2, 3, 4, 1, 0] rfl))
      · have h := h.2 c11
        refine lv_iload_n hx hb dX8_isHeld_15 rfl (lv_at hl 2 rfl) ?_
        refine lv_iload hx hb dX8_isHeld_16 (lv_at hl 4 rfl) ?_
        refine lv_ishr hx hb dX8_isHeld_18 ?_
        refine lv_iconst (v := 1) hx hb dX8_isHeld_19 (by decide) ?_
        refine lv_iand hx hb dX8_isHeld_20 ?_
        refine lv_iconst (v := 1) hx hb dX8_isHeld_21 (by decide) ?_
        refine lv_icmp_ne (tgt := 44) hx hb dX8_isHeld_22 (by decide) (fun c13 => ?_) (fun c13 => ?_)
        · have h := h.1 c13
          refine lv_iconst (v := 0) hx hb dX8_isHeld_44 (by decide) ?_
          refine lv_istore_n (lv' := [(3, .int (0 : Int32)), (0, .ref (a 0)), (1, .int x1), (2, .int x2), (4, .int y4)]) hx hb dX8_isHeld_45 rfl hl (by decide) rfl (fun ls hl => ?_)
          obtain ⟨v14, ev14⟩ : ∃ y : Int32, y = y4 + 1 := ⟨_, rfl⟩
          have h := h v14 ev14
          refine lv_iinc (v := v14) (lv' := [(4, .int v14), (3, .int (0 : Int32)), (0, .ref (a 0)), (1, .int x1), (2, .int x2)]) hx hb dX8_isHeld_46 hl (k := 4) rfl (by rw [ev14]; rfl) (by decide) rfl (fun ls hl => ?_)
          refine lv_goto (tgt := 5) hx hb dX8_isHeld_49 (by decide) ?_
          exact (hWW _ _ _).mp (el5 _ _ h ls (lv_sub hl [2, 3, 4, 1, 0] rfl))
        · have h := h.2 c13
          refine lv_aload_n hx hb dX8_isHeld_25 rfl (lv_at hl 0 rfl) ?_
          refine va_get (D := D) (ci := 8) (v := .ref (a 3)) (C := RX8) (T := TX8) (N := 22) hx hb hts mX8_isHeld_inX8 hown hB.1 hP 0 xM_c0 rfl 3 (by decide) (hts _ mX8_isHeld_1) (fun _ h9 => h9) rfl dX8_isHeld_26 ?_
          refine lv_iload hx hb dX8_isHeld_29 (lv_at hl 4 rfl) ?_
          refine xw_iald hx hb hB hP 3 xM_c3 h.1 dX8_isHeld_31 (fun v15 ev15 => ?_)
          have h := h.2 v15 ev15
          refine lv_iload_n hx hb dX8_isHeld_32 rfl (lv_at hl 1 rfl) ?_
          refine lv_ishr hx hb dX8_isHeld_33 ?_
          refine lv_iconst (v := 1) hx hb dX8_isHeld_34 (by decide) ?_
          refine lv_iand hx hb dX8_isHeld_35 ?_
          refine lv_iconst (v := 1) hx hb dX8_isHeld_36 (by decide) ?_
          refine lv_icmp_ne (tgt := 44) hx hb dX8_isHeld_37 (by decide) (fun c16 => ?_) (fun c16 => ?_)
          · have h := h.1 c16
            refine lv_iconst (v := 0) hx hb dX8_isHeld_44 (by decide) ?_
            refine lv_istore_n (lv' := [(3, .int (0 : Int32)), (0, .ref (a 0)), (1, .int x1), (2, .int x2), (4, .int y4)]) hx hb dX8_isHeld_45 rfl hl (by decide) rfl (fun ls hl => ?_)
            obtain ⟨v17, ev17⟩ : ∃ y : Int32, y = y4 + 1 := ⟨_, rfl⟩
            have h := h v17 ev17
            refine lv_iinc (v := v17) (lv' := [(4, .int v17), (3, .int (0 : Int32)), (0, .ref (a 0)), (1, .int x1), (2, .int x2)]) hx hb dX8_isHeld_46 hl (k := 4) rfl (by rw [ev17]; rfl) (by decide) rfl (fun ls hl => ?_)
            refine lv_goto (tgt := 5) hx hb dX8_isHeld_49 (by decide) ?_
            exact (hWW _ _ _).mp (el5 _ _ h ls (lv_sub hl [2, 3, 4, 1, 0] rfl))
          · have h := h.2 c16
            refine lv_iconst (v := 1) hx hb dX8_isHeld_40 (by decide) ?_
            refine lv_goto (tgt := 45) hx hb dX8_isHeld_41 (by decide) ?_
            refine lv_istore_n (lv' := [(3, .int (1 : Int32)), (0, .ref (a 0)), (1, .int x1), (2, .int x2), (4, .int y4)]) hx hb dX8_isHeld_45 rfl hl (by decide) rfl (fun ls hl => ?_)
            obtain ⟨v18, ev18⟩ : ∃ y : Int32, y = y4 + 1 := ⟨_, rfl⟩
            have h := h v18 ev18
            refine lv_iinc (v := v18) (lv' := [(4, .int v18), (3, .int (1 : Int32)), (0, .ref (a 0)), (1, .int x1), (2, .int x2)]) hx hb dX8_isHeld_46 hl (k := 4) rfl (by rw [ev18]; rfl) (by decide) rfl (fun ls hl => ?_)
            refine lv_goto (tgt := 5) hx hb dX8_isHeld_49 (by decide) ?_
            exact (hWW _ _ _).mp (el5 _ _ h ls (lv_sub hl [2, 3, 4, 1, 0] rfl))
  have h := h k5 rl5
  unfold bd_X8_isHeld_0 at h
  refine lv_iconst (v := 0) hx hb dX8_isHeld_0 (by decide) ?_
  refine lv_istore_n (lv' := [(3, .int (0 : Int32)), (0, .ref (a 0)), (1, .int x1), (2, .int x2)]) hx hb dX8_isHeld_1 rfl hl (by decide) rfl (fun ls hl => ?_)
  refine lv_iconst (v := 0) hx hb dX8_isHeld_2 (by decide) ?_
  refine lv_istore (lv' := [(4, .int (0 : Int32)), (3, .int (0 : Int32)), (0, .ref (a 0)), (1, .int x1), (2, .int x2)]) hx hb dX8_isHeld_3 hl (by decide) rfl (fun ls hl => ?_)
  exact (hWW _ _ _).mp (el5 _ _ h ls (lv_sub hl [2, 3, 4, 1, 0] rfl))

set_option maxHeartbeats 4000000 in
set_option maxRecDepth 100000 in
theorem c_X8_code (l : Launch) (D : va_G) (cy : Nat → ClassId) (a : Nat → Nat) (x1 : Int32) (x2 : Int32) (x3 : Int32) (I : xw_I) (F : xw_F) (G : xw_G) (post : Int64 → Prop) (h : sm_X8_code x1 x2 x3 I F G post) : xw_Rl l yX8_code wsX8_code ({ frames := 3, cells := 0, slots := 0, locals := 73 }) D cy [.ref (a 0), .int x1, .int x2, .int x3] (xM_w cy a I F G) post := by
  intro A
  refine Met.ofW (cc := cX8_code) (maxL := 4) (ret := (some .long)) (by decide) rfl ?_
  intro p e s m args below meth c s₁ B hml hv
  obtain ⟨rfl, hP, hB, hD⟩ := hv
  have hP : va_P D vwCl (xM_w cy a I F G) s.heap := hP
  have hx := B.exec
  have hb := B.bytes
  have hr := B.returns
  have hts := atoms_spec (ws := wsX8_code) B.pre
  have hown : s.vm.findClass RX8 = some m.cls := findClass_of_methodNamed B.named
  have hlocks := B.notSynchronized
  refine xw_go (fun WW hWW => ?_)
  have hl := lv_entry ([.ref (a 0), .int x1, .int x2, .int x3]) (n := 4) (Nat.le_of_ble_eq_true rfl)
  rw [lg_entry_eq]
  generalize (lg_sl ([.ref (a 0), .int x1, .int x2, .int x3]) ++ List.replicate (4 - (lg_sl ([.ref (a 0), .int x1, .int x2, .int x3])).length) Slot.unset).toArray = ls at hl ⊢
  have hl : lv_has ls 4 [(0, .ref (a 0)), (1, .int x1), (2, .int x2), (3, .int x3)] := hl
  unfold sm_X8_code at h
  refine lv_aload_n hx hb dX8_code_0 rfl (lv_at hl 0 rfl) ?_
  refine lv_iload_n hx hb dX8_code_1 rfl (lv_at hl 1 rfl) ?_
  refine lv_iload_n hx hb dX8_code_2 rfl (lv_at hl 2 rfl) ?_
  refine lv_iload_n hx hb dX8_code_3 rfl (lv_at hl 3 rfl) ?_
  refine xw_ri (va_runV (rm := { frames := 2, cells := 0, slots := 0, locals := 46 }) (As := [.int x1, .int x2, .int x3]) (rest := []) ⟨hx, hb, hml, hown, hts⟩ (c_X8_costOf l D cy a x1 x2 x3 I F G _ h A) (cwV 3 hts gX8_code_X8_costOf rfl rfl rfl (by decide +kernel) ⟨Nat.le_of_ble_eq_true rfl, Nat.le_of_ble_eq_true rfl⟩) (xw_preV hB hP hD (ci := 8) rfl xM_c0) rfl rfl hl.1 rfl (lv_room (Nat.le_of_ble_eq_true rfl)) dX8_code_4 ⟨Nat.le_of_ble_eq_true rfl, Nat.le_of_ble_eq_true rfl⟩) (fun r1 h => ?_)
  refine lv_i2l hx hb dX8_code_7 rfl ?_
  refine lv_bipush (v := 40) hx hb dX8_code_8 (by decide) ?_
  refine lv_lshl hx hb dX8_code_10 rfl ?_
  refine lv_bipush (v := 16) hx hb dX8_code_11 (by decide) ?_
  refine lv_iload_n hx hb dX8_code_13 rfl (lv_at hl 2 rfl) ?_
  refine lv_imul hx hb dX8_code_14 ?_
  refine lv_iload_n hx hb dX8_code_15 rfl (lv_at hl 3 rfl) ?_
  refine lv_iadd hx hb dX8_code_16 ?_
  refine lv_i2l hx hb dX8_code_17 rfl ?_
  refine lv_bipush (v := 8) hx hb dX8_code_18 (by decide) ?_
  refine lv_iconst (v := 4) hx hb dX8_code_20 (by decide) ?_
  refine lv_iload_n hx hb dX8_code_21 rfl (lv_at hl 1 rfl) ?_
  refine lv_isub hx hb dX8_code_22 ?_
  refine lv_imul hx hb dX8_code_23 ?_
  refine lv_lshl hx hb dX8_code_24 rfl ?_
  refine lv_ladd hx hb dX8_code_25 ?_
  exact xw_iretl hx hb hr hlocks h dX8_code_26

theorem mX8_leastOf_1 : Cond.constantLong RX8 105 (4611686018427387904) ∈ wsX8_leastOf := List.mem_of_getElem? (i := 1) rfl
theorem mX8_leastOf_2 : Cond.fieldLink RX8 34 "TagCarrierModel" "best" "[J" ∈ wsX8_leastOf := List.mem_of_getElem? (i := 2) rfl
theorem mX8_leastOf_inX8 : ∀ w ∈ u_ws RX8 TX8 22, w ∈ wsX8_leastOf := by decide +kernel
set_option maxHeartbeats 4000000 in
set_option maxRecDepth 100000 in
theorem c_X8_leastOf (l : Launch) (D : va_G) (cy : Nat → ClassId) (a : Nat → Nat) (x1 : Int32) (x2 : Int32) (x3 : Int32) (I : xw_I) (F : xw_F) (G : xw_G) (post : Int64 → Prop) (h : sm_X8_leastOf x1 x2 x3 I F G post) : xw_Rl l yX8_leastOf wsX8_leastOf ({ frames := 4, cells := 0, slots := 0, locals := 96 }) D cy [.ref (a 0), .int x1, .int x2, .int x3] (xM_w cy a I F G) post := by
  intro A
  refine Met.ofW (cc := cX8_leastOf) (maxL := 12) (ret := (some .long)) (by decide) rfl ?_
  intro p e s m args below meth c s₁ B hml hv
  obtain ⟨rfl, hP, hB, hD⟩ := hv
  have hP : va_P D vwCl (xM_w cy a I F G) s.heap := hP
  have hx := B.exec
  have hb := B.bytes
  have hr := B.returns
  have hts := atoms_spec (ws := wsX8_leastOf) B.pre
  have hown : s.vm.findClass RX8 = some m.cls := findClass_of_methodNamed B.named
  have hlocks := B.notSynchronized
  refine xw_go (fun WW hWW => ?_)
  have hl := lv_entry ([.ref (a 0), .int x1, .int x2, .int x3]) (n := 12) (Nat.le_of_ble_eq_true rfl)
  rw [lg_entry_eq]
  generalize (lg_sl ([.ref (a 0), .int x1, .int x2, .int x3]) ++ List.replicate (12 - (lg_sl ([.ref (a 0), .int x1, .int x2, .int x3])).length) Slot.unset).toArray = ls at hl ⊢
  have hl : lv_has ls 12 [(0, .ref (a 0)), (1, .int x1), (2, .int x2), (3, .int x3)] := hl
  obtain ⟨k8, mk8, el8⟩ : ∃ K : Int64 → Int32 → Prop, (∀ (y4 : Int64) (y6 : Int32), (∀ (ls : Array Slot), lv_has ls 12 [(0, .ref (a 0)), (1, .int x1), (2, .int x2), (3, .int x3), (4, .long y4), (6, .int y6)] → WW s.heap [] (F0 m 8 ls [])) → K y4 y6) ∧ (∀ (y4 : Int64) (y6 : Int32), K y4 y6 → (∀ (ls : Array Slot), lv_has ls 12 [(0, .ref (a 0)), (1, .int x1), (2, .int x2), (3, .int x3), (4, .long y4), (6, .int y6)] → WW s.heap [] (F0 m 8 ls []))) := ⟨fun (y4 : Int64) (y6 : Int32) => (∀ (ls : Array Slot), lv_has ls 12 [(0, .ref (a 0)), (1, .int x1), (2, .int x2), (3, .int x3), (4, .long y4), (6, .int y6)] → WW s.heap [] (F0 m 8 ls [])), fun _ _ h => h, fun _ _ h => h⟩
  obtain ⟨k41, mk41, el41⟩ : ∃ K : Int64 → Int32 → Int32 → Prop, (∀ (y4 : Int64) (y6 : Int32) (y7 : Int32), (∀ (ls : Array Slot), lv_has ls 12 [(0, .ref (a 0)), (1, .int x1), (2, .int x2), (3, .int x3), (4, .long y4), (6, .int y6), (7, .int y7)] → WW s.heap [] (F0 m 41 ls [])) → K y4 y6 y7) ∧ (∀ (y4 : Int64) (y6 : Int32) (y7 : Int32), K y4 y6 y7 → (∀ (ls : Array Slot), lv_has ls 12 [(0, .ref (a 0)), (1, .int x1), (2, .int x2), (3, .int x3), (4, .long y4), (6, .int y6), (7, .int y7)] → WW s.heap [] (F0 m 41 ls []))) := ⟨fun (y4 : Int64) (y6 : Int32) (y7 : Int32) => (∀ (ls : Array Slot), lv_has ls 12 [(0, .ref (a 0)), (1, .int x1), (2, .int x2), (3, .int x3), (4, .long y4), (6, .int y6), (7, .int y7)] → WW s.heap [] (F0 m 41 ls [])), fun _ _ _ h => h, fun _ _ _ h => h⟩
  obtain ⟨k131, mk131, el131⟩ : ∃ K : Int64 → Int32 → Prop, (∀ (y4 : Int64) (y6 : Int32), (∀ (ls : Array Slot), lv_has ls 12 [(0, .ref (a 0)), (1, .int x1), (2, .int x2), (3, .int x3), (4, .long y4), (6, .int y6)] → WW s.heap [] (F0 m 131 ls [])) → K y4 y6) ∧ (∀ (y4 : Int64) (y6 : Int32), K y4 y6 → (∀ (ls : Array Slot), lv_has ls 12 [(0, .ref (a 0)), (1, .int x1), (2, .int x2), (3, .int x3), (4, .long y4), (6, .int y6)] → WW s.heap [] (F0 m 131 ls []))) := ⟨fun (y4 : Int64) (y6 : Int32) => (∀ (ls : Array Slot), lv_has ls 12 [(0, .ref (a 0)), (1, .int x1), (2, .int x2), (3, .int x3), (4, .long y4), (6, .int y6)] → WW s.heap [] (F0 m 131 ls [])), fun _ _ h => h, fun _ _ h => h⟩
  obtain ⟨k171, mk171, el171⟩ : ∃ K : Int64 → Int32 → Int32 → Int32 → Prop, (∀ (y4 : Int64) (y6 : Int32) (y7 : Int32) (y8 : Int32), (∀ (ls : Array Slot), lv_has ls 12 [(0, .ref (a 0)), (1, .int x1), (2, .int x2), (3, .int x3), (4, .long y4), (6, .int y6), (7, .int y7), (8, .int y8)] → WW s.heap [] (F0 m 171 ls [])) → K y4 y6 y7 y8) ∧ (∀ (y4 : Int64) (y6 : Int32) (y7 : Int32) (y8 : Int32), K y4 y6 y7 y8 → (∀ (ls : Array Slot), lv_has ls 12 [(0, .ref (a 0)), (1, .int x1), (2, .int x2), (3, .int x3), (4, .long y4), (6, .int y6), (7, .int y7), (8, .int y8)] → WW s.heap [] (F0 m 171 ls []))) := ⟨fun (y4 : Int64) (y6 : Int32) (y7 : Int32) (y8 : Int32) => (∀ (ls : Array Slot), lv_has ls 12 [(0, .ref (a 0)), (1, .int x1), (2, .int x2), (3, .int x3), (4, .long y4), (6, .int y6), (7, .int y7), (8, .int y8)] → WW s.heap [] (F0 m 171 ls [])), fun _ _ _ _ h => h, fun _ _ _ _ h => h⟩
  obtain ⟨k181, mk181, el181⟩ : ∃ K : Int64 → Int32 → Int32 → Int32 → Int32 → Prop, (∀ (y4 : Int64) (y6 : Int32) (y7 : Int32) (y8 : Int32) (y9 : Int32), (∀ (ls : Array Slot), lv_has ls 12 [(0, .ref (a 0)), (1, .int x1), (2, .int x2), (3, .int x3), (4, .long y4), (6, .int y6), (7, .int y7), (8, .int y8), (9, .int y9)] → WW s.heap [] (F0 m 181 ls [])) → K y4 y6 y7 y8 y9) ∧ (∀ (y4 : Int64) (y6 : Int32) (y7 : Int32) (y8 : Int32) (y9 : Int32), K y4 y6 y7 y8 y9 → (∀ (ls : Array Slot), lv_has ls 12 [(0, .ref (a 0)), (1, .int x1), (2, .int x2), (3, .int x3), (4, .long y4), (6, .int y6), (7, .int y7), (8, .int y8), (9, .int y9)] → WW s.heap [] (F0 m 181 ls []))) := ⟨fun (y4 : Int64) (y6 : Int32) (y7 : Int32) (y8 : Int32) (y9 : Int32) => (∀ (ls : Array Slot), lv_has ls 12 [(0, .ref (a 0)), (1, .int x1), (2, .int x2), (3, .int x3), (4, .long y4), (6, .int y6), (7, .int y7), (8, .int y8), (9, .int y9)] → WW s.heap [] (F0 m 181 ls [])), fun _ _ _ _ _ h => h, fun _ _ _ _ _ h => h⟩
  have rl8 : ∀ (y4 : Int64) (y6 : Int32), (bd_X8_leastOf_8 x1 x2 x3 I F G post k8 k41 k131 k171 k181 y4 y6) → k8 y4 y6 := by
    intro y4 y6 h
    refine mk8 _ _ ?_
    intro ls hl
    refine (hWW _ _ _).mpr ?_
    unfold bd_X8_leastOf_8 at h
    refine lv_iload hx hb dX8_leastOf_8 (lv_at hl 5 rfl) ?_
    refine lv_iload_n hx hb dX8_leastOf_10 rfl (lv_at hl 1 rfl) ?_
    refine lv_icmp_ge (tgt := 128) hx hb dX8_leastOf_11 (by decide) (fun c29 => ?_) (fun c29 => ?_)
    · have h := h.1 c29
      refine lv_iconst (v := 0) hx hb dX8_leastOf_128 (by decide) ?_
      refine lv_istore (lv' := [(6, .int (0 : Int32)), (0, .ref (a 0)), (1, .int x1), (2, .int x2), (3, .int x3), (4, .long y4)]) hx hb dX8_leastOf_129 hl (by decide) rfl (fun ls hl => ?_)
      exact (hWW _ _ _).mp (el131 _ _ h ls (lv_sub hl [1, 2, 3, 4, 5, 0] rfl))
    · have h := h.2 c29
      refine lv_iload hx hb dX8_leastOf_14 (lv_at hl 5 rfl) ?_
      refine lv_iload_n hx hb dX8_leastOf_16 rfl (lv_at hl 1 rfl) ?_
      refine lv_iand hx hb dX8_leastOf_17 ?_
      refine lv_iload hx hb dX8_leastOf_18 (lv_at hl 5 rfl) ?_
      refine lv_icmp_ne (tgt := 122) hx hb dX8_leastOf_20 (by decide) (fun c30 => ?_) (fun c30 => ?_)
      · have h := h.1 c30
        obtain ⟨v31, ev31⟩ : ∃ y : Int32, y = y6 + 1 := ⟨_, rfl⟩
        have h := h v31 ev31
        refine lv_iinc (v := v31) (lv' := [(6, .int v31), (0, .ref (a 0)), (1, .int x1), (2, .int x2), (3, .int x3), (4, .long y4)]) hx hb dX8_leastOf_122 hl (k := 5) rfl (by rw [ev31]; rfl) (by decide) rfl (fun ls hl => ?_)
        refine lv_goto (tgt := 8) hx hb dX8_leastOf_125 (by decide) ?_
        exact (hWW _ _ _).mp (el8 _ _ h ls (lv_sub hl [1, 2, 3, 4, 5, 0] rfl))
      · have h := h.2 c30
        refine lv_aload_n hx hb dX8_leastOf_23 rfl (lv_at hl 0 rfl) ?_
        refine lv_iload hx hb dX8_leastOf_24 (lv_at hl 5 rfl) ?_
        refine lv_iload_n hx hb dX8_leastOf_26 rfl (lv_at hl 1 rfl) ?_
        refine lv_iload hx hb dX8_leastOf_27 (lv_at hl 5 rfl) ?_
        refine lv_iconst (v := -1) hx hb dX8_leastOf_29 (by decide) ?_
        refine lv_ixor hx hb dX8_leastOf_30 ?_
        refine lv_iand hx hb dX8_leastOf_31 ?_
        refine xw_ri (va_runV (rm := { frames := 0, cells := 0, slots := 0, locals := 0 }) (As := [.int y6, .int (x1 &&& (y6 ^^^ (-1 : Int32)))]) (rest := []) ⟨hx, hb, hml, hown, hts⟩ (c_X8_areApart l D cy a y6 (x1 &&& (y6 ^^^ (-1 : Int32))) I F G _ h A) (cwV 2 hts gX8_leastOf_X8_areApart rfl rfl rfl (by decide +kernel) ⟨Nat.le_of_ble_eq_true rfl, Nat.le_of_ble_eq_true rfl⟩) (xw_preV hB hP hD (ci := 8) rfl xM_c0) rfl rfl hl.1 rfl (lv_room (Nat.le_of_ble_eq_true rfl)) dX8_leastOf_32 ⟨Nat.le_of_ble_eq_true rfl, Nat.le_of_ble_eq_true rfl⟩) (fun r32 h => ?_)
        refine lv_if_eq (tgt := 122) hx hb dX8_leastOf_35 (by decide) (fun c33 => ?_) (fun c33 => ?_)
        · have h := h.1 c33
          obtain ⟨v34, ev34⟩ : ∃ y : Int32, y = y6 + 1 := ⟨_, rfl⟩
          have h := h v34 ev34
          refine lv_iinc (v := v34) (lv' := [(6, .int v34), (0, .ref (a 0)), (1, .int x1), (2, .int x2), (3, .int x3), (4, .long y4)]) hx hb dX8_leastOf_122 hl (k := 5) rfl (by rw [ev34]; rfl) (by decide) rfl (fun ls hl => ?_)
          refine lv_goto (tgt := 8) hx hb dX8_leastOf_125 (by decide) ?_
          exact (hWW _ _ _).mp (el8 _ _ h ls (lv_sub hl [1, 2, 3, 4, 5, 0] rfl))
        · have h := h.2 c33
          refine lv_iload_n hx hb dX8_leastOf_38 rfl (lv_at hl 2 rfl) ?_
          refine lv_istore (lv' := [(7, .int x2), (0, .ref (a 0)), (1, .int x1), (2, .int x2), (3, .int x3), (4, .long y4), (6, .int y6)]) hx hb dX8_leastOf_39 hl (by decide) rfl (fun ls hl => ?_)
          exact (hWW _ _ _).mp (el41 _ _ _ h ls (lv_sub hl [1, 2, 3, 4, 5, 6, 0] rfl))
  have rl41 : ∀ (y4 : Int64) (y6 : Int32) (y7 : Int32), (bd_X8_leastOf_41 x1 x2 x3 I F G post k8 k41 k131 k171 k181 y4 y6 y7) → k41 y4 y6 y7 := by
    intro y4 y6 y7 h
    refine mk41 _ _ _ ?_
    intro ls hl
    refine (hWW _ _ _).mpr ?_
    unfold bd_X8_leastOf_41 at h
    refine lv_iload hx hb dX8_leastOf_41 (lv_at hl 6 rfl) ?_
    refine lv_iload_n hx hb dX8_leastOf_43 rfl (lv_at hl 3 rfl) ?_
    refine lv_icmp_gt (tgt := 122) hx hb dX8_leastOf_44 (by decide) (fun c35 => ?_) (fun c35 => ?_)
    · have h := h.1 c35
      obtain ⟨v36, ev36⟩ : ∃ y : Int32, y = y6 + 1 := ⟨_, rfl⟩
      have h := h v36 ev36
      refine lv_iinc (v := v36) (lv' := [(6, .int v36), (0, .ref (a 0)), (1, .int x1), (2, .int x2), (3, .int x3), (4, .long y4), (7, .int y7)]) hx hb dX8_leastOf_122 hl (k := 5) rfl (by rw [ev36]; rfl) (by decide) rfl (fun ls hl => ?_)
      refine lv_goto (tgt := 8) hx hb dX8_leastOf_125 (by decide) ?_
      exact (hWW _ _ _).mp (el8 _ _ h ls (lv_sub hl [1, 2, 3, 4, 5, 0] rfl))
    · have h := h.2 c35
      refine lv_aload_n hx hb dX8_leastOf_47 rfl (lv_at hl 0 rfl) ?_
      refine va_get (D := D) (ci := 8) (v := .ref (a 9)) (C := RX8) (T := TX8) (N := 22) hx hb hts mX8_leastOf_inX8 hown hB.1 hP 0 xM_c0 rfl 12 (by decide) (hts _ mX8_leastOf_2) (fun _ h9 => h9) rfl dX8_leastOf_48 ?_
      refine lv_iload hx hb dX8_leastOf_51 (lv_at hl 5 rfl) ?_
      refine lv_iload_n hx hb dX8_leastOf_53 rfl (lv_at hl 2 rfl) ?_
      refine lv_iload hx hb dX8_leastOf_54 (lv_at hl 6 rfl) ?_
      refine xw_ri (va_runS (rm := { frames := 0, cells := 0, slots := 0, locals := 0 }) (As := [.int y6, .int x2, .int y7]) (rest := [.ref (a 9)]) ⟨hx, hb, hml, hown, hts⟩ (c_X8_at l D cy y6 x2 y7 _ h (fun _ => True)) (va_cwS 3 hts gX8_leastOf_X8_at rfl rfl rfl (by decide +kernel) ⟨Nat.le_of_ble_eq_true rfl, Nat.le_of_ble_eq_true rfl⟩) (xw_preS hB xw_P0 (xw_D0 (A := fun _ => True))) rfl rfl hl.1 rfl (lv_room (Nat.le_of_ble_eq_true rfl)) dX8_leastOf_56 ⟨Nat.le_of_ble_eq_true rfl, Nat.le_of_ble_eq_true rfl⟩) (fun r37 h => ?_)
      refine xw_lald hx hb hB hP 9 xM_c9 h.1 dX8_leastOf_59 (fun v38 ev38 => ?_)
      have h := h.2 v38 ev38
      refine lv_lstore (lv' := [(8, .long v38), (0, .ref (a 0)), (1, .int x1), (2, .int x2), (3, .int x3), (4, .long y4), (6, .int y6), (7, .int y7)]) hx hb dX8_leastOf_60 hl (by decide) rfl (fun ls hl => ?_)
      refine lv_aload_n hx hb dX8_leastOf_62 rfl (lv_at hl 1 rfl) ?_
      refine va_get (D := D) (ci := 8) (v := .ref (a 9)) (C := RX8) (T := TX8) (N := 22) hx hb hts mX8_leastOf_inX8 hown hB.1 hP 0 xM_c0 rfl 12 (by decide) (hts _ mX8_leastOf_2) (fun _ h9 => h9) rfl dX8_leastOf_63 ?_
      refine lv_iload_n hx hb dX8_leastOf_66 rfl (lv_at hl 2 rfl) ?_
      refine lv_iload hx hb dX8_leastOf_67 (lv_at hl 6 rfl) ?_
      refine lv_iconst (v := -1) hx hb dX8_leastOf_69 (by decide) ?_
      refine lv_ixor hx hb dX8_leastOf_70 ?_
      refine lv_iand hx hb dX8_leastOf_71 ?_
      refine lv_iload hx hb dX8_leastOf_72 (lv_at hl 7 rfl) ?_
      refine lv_iload_n hx hb dX8_leastOf_74 rfl (lv_at hl 4 rfl) ?_
      refine xw_ri (va_runS (rm := { frames := 0, cells := 0, slots := 0, locals := 0 }) (As := [.int (x1 &&& (y6 ^^^ (-1 : Int32))), .int y7, .int x3]) (rest := [.ref (a 9)]) ⟨hx, hb, hml, hown, hts⟩ (c_X8_at l D cy (x1 &&& (y6 ^^^ (-1 : Int32))) y7 x3 _ h (fun _ => True)) (va_cwS 3 hts gX8_leastOf_X8_at rfl rfl rfl (by decide +kernel) ⟨Nat.le_of_ble_eq_true rfl, Nat.le_of_ble_eq_true rfl⟩) (xw_preS hB xw_P0 (xw_D0 (A := fun _ => True))) rfl rfl hl.1 rfl (lv_room (Nat.le_of_ble_eq_true rfl)) dX8_leastOf_75 ⟨Nat.le_of_ble_eq_true rfl, Nat.le_of_ble_eq_true rfl⟩) (fun r39 h => ?_)
      refine xw_lald hx hb hB hP 9 xM_c9 h.1 dX8_leastOf_78 (fun v40 ev40 => ?_)
      have h := h.2 v40 ev40
      refine lv_lstore (lv' := [(10, .long v40), (8, .long v38), (0, .ref (a 0)), (1, .int x1), (2, .int x2), (3, .int x3), (4, .long y4), (6, .int y6), (7, .int y7)]) hx hb dX8_leastOf_79 hl (by decide) rfl (fun ls hl => ?_)
      refine lv_lload hx hb dX8_leastOf_81 (lv_at hl 1 rfl) ?_
      refine lv_ldc2 hx hb hown (hts _ mX8_leastOf_1) dX8_leastOf_83 ?_
      refine W.lcmp hx hb dX8_leastOf_86 ?_
      refine lv_if_ge (tgt := 112) hx hb dX8_leastOf_87 (by decide) (fun c41 => ?_) (fun c41 => ?_)
      · have h := h.1 c41
        refine lv_lload hx hb dX8_leastOf_112 (lv_at hl 6 rfl) ?_
        refine lv_lstore (lv' := [(4, .long y4), (10, .long v40), (8, .long v38), (0, .ref (a 0)), (1, .int x1), (2, .int x2), (3, .int x3), (6, .int y6), (7, .int y7)]) hx hb dX8_leastOf_114 hl (by decide) rfl (fun ls hl => ?_)
        obtain ⟨v42, ev42⟩ : ∃ y : Int32, y = y7 + 1 := ⟨_, rfl⟩
        have h := h v42 ev42
        refine lv_iinc (v := v42) (lv' := [(7, .int v42), (4, .long y4), (10, .long v40), (8, .long v38), (0, .ref (a 0)), (1, .int x1), (2, .int x2), (3, .int x3), (6, .int y6)]) hx hb dX8_leastOf_116 hl (k := 8) rfl (by rw [ev42]; rfl) (by decide) rfl (fun ls hl => ?_)
        refine lv_goto (tgt := 41) hx hb dX8_leastOf_119 (by decide) ?_
        exact (hWW _ _ _).mp (el41 _ _ _ h ls (lv_sub hl [4, 5, 6, 7, 1, 8, 0] rfl))
      · have h := h.2 c41
        refine lv_lload hx hb dX8_leastOf_90 (lv_at hl 0 rfl) ?_
        refine lv_ldc2 hx hb hown (hts _ mX8_leastOf_1) dX8_leastOf_92 ?_
        refine W.lcmp hx hb dX8_leastOf_95 ?_
        refine lv_if_ge (tgt := 112) hx hb dX8_leastOf_96 (by decide) (fun c43 => ?_) (fun c43 => ?_)
        · have h := h.1 c43
          refine lv_lload hx hb dX8_leastOf_112 (lv_at hl 6 rfl) ?_
          refine lv_lstore (lv' := [(4, .long y4), (10, .long v40), (8, .long v38), (0, .ref (a 0)), (1, .int x1), (2, .int x2), (3, .int x3), (6, .int y6), (7, .int y7)]) hx hb dX8_leastOf_114 hl (by decide) rfl (fun ls hl => ?_)
          obtain ⟨v44, ev44⟩ : ∃ y : Int32, y = y7 + 1 := ⟨_, rfl⟩
          have h := h v44 ev44
          refine lv_iinc (v := v44) (lv' := [(7, .int v44), (4, .long y4), (10, .long v40), (8, .long v38), (0, .ref (a 0)), (1, .int x1), (2, .int x2), (3, .int x3), (6, .int y6)]) hx hb dX8_leastOf_116 hl (k := 8) rfl (by rw [ev44]; rfl) (by decide) rfl (fun ls hl => ?_)
          refine lv_goto (tgt := 41) hx hb dX8_leastOf_119 (by decide) ?_
          exact (hWW _ _ _).mp (el41 _ _ _ h ls (lv_sub hl [4, 5, 6, 7, 1, 8, 0] rfl))
        · have h := h.2 c43
          refine lv_lload hx hb dX8_leastOf_99 (lv_at hl 6 rfl) ?_
          refine lv_lload hx hb dX8_leastOf_101 (lv_at hl 1 rfl) ?_
          refine lv_lload hx hb dX8_leastOf_103 (lv_at hl 0 rfl) ?_
          refine lv_ladd hx hb dX8_leastOf_105 ?_
          refine xw_rl (va_runS (rm := { frames := 0, cells := 0, slots := 0, locals := 0 }) (As := [.long y4, .long (v38 + v40)]) (rest := []) ⟨hx, hb, hml, hown, hts⟩ (c_X8_least l D cy y4 (v38 + v40) _ h (fun _ => True)) (va_cwS 2 hts gX8_leastOf_X8_least rfl rfl rfl (by decide +kernel) ⟨Nat.le_of_ble_eq_true rfl, Nat.le_of_ble_eq_true rfl⟩) (xw_preS hB xw_P0 (xw_D0 (A := fun _ => True))) rfl rfl hl.1 rfl (lv_room (Nat.le_of_ble_eq_true rfl)) dX8_leastOf_106 ⟨Nat.le_of_ble_eq_true rfl, Nat.le_of_ble_eq_true rfl⟩) (fun r45 h => ?_)
          refine lv_goto (tgt := 114) hx hb dX8_leastOf_109 (by decide) ?_
          refine lv_lstore (lv' := [(4, .long r45), (10, .long v40), (8, .long v38), (0, .ref (a 0)), (1, .int x1), (2, .int x2), (3, .int x3), (6, .int y6), (7, .int y7)]) hx hb dX8_leastOf_114 hl (by decide) rfl (fun ls hl => ?_)
          obtain ⟨v46, ev46⟩ : ∃ y : Int32, y = y7 + 1 := ⟨_, rfl⟩
          have h := h v46 ev46
          refine lv_iinc (v := v46) (lv' := [(7, .int v46), (4, .long r45), (10, .long v40), (8, .long v38), (0, .ref (a 0)), (1, .int x1), (2, .int x2), (3, .int x3), (6, .int y6)]) hx hb dX8_leastOf_116 hl (k := 8) rfl (by rw [ev46]; rfl) (by decide) rfl (fun ls hl => ?_)
          refine lv_goto (tgt := 41) hx hb dX8_leastOf_119 (by decide) ?_
          exact (hWW _ _ _).mp (el41 _ _ _ h ls (lv_sub hl [4, 5, 6, 7, 1, 8, 0] rfl))
  have rl131 : ∀ (y4 : Int64) (y6 : Int32), (bd_X8_leastOf_131 x1 x2 x3 I F G post k8 k41 k131 k171 k181 y4 y6) → k131 y4 y6 := by
    intro y4 y6 h
    refine mk131 _ _ ?_
    intro ls hl
    refine (hWW _ _ _).mpr ?_
    unfold bd_X8_leastOf_131 at h
    refine lv_iload hx hb dX8_leastOf_131 (lv_at hl 5 rfl) ?_
    refine lv_iconst (v := 5) hx hb dX8_leastOf_133 (by decide) ?_
    refine lv_icmp_ge (tgt := 255) hx hb dX8_leastOf_134 (by decide) (fun c47 => ?_) (fun c47 => ?_)
    · have h := h.1 c47
      refine lv_lload hx hb dX8_leastOf_255 (lv_at hl 4 rfl) ?_
      exact xw_iretl hx hb hr hlocks h dX8_leastOf_257
    · have h := h.2 c47
      refine lv_iload_n hx hb dX8_leastOf_137 rfl (lv_at hl 1 rfl) ?_
      refine lv_iconst (v := 1) hx hb dX8_leastOf_138 (by decide) ?_
      refine lv_iload hx hb dX8_leastOf_139 (lv_at hl 5 rfl) ?_
      refine lv_ishl hx hb dX8_leastOf_141 ?_
      refine lv_iconst (v := -1) hx hb dX8_leastOf_142 (by decide) ?_
      refine lv_ixor hx hb dX8_leastOf_143 ?_
      refine lv_iand hx hb dX8_leastOf_144 ?_
      refine lv_topi (fun v48 ev48 => ?_)
      have h := h v48 ev48
      refine lv_istore (lv' := [(7, .int v48), (0, .ref (a 0)), (1, .int x1), (2, .int x2), (3, .int x3), (4, .long y4), (6, .int y6)]) hx hb dX8_leastOf_145 hl (by decide) rfl (fun ls hl => ?_)
      refine lv_iload_n hx hb dX8_leastOf_147 rfl (lv_at hl 2 rfl) ?_
      refine lv_iload hx hb dX8_leastOf_148 (lv_at hl 6 rfl) ?_
      refine lv_ishr hx hb dX8_leastOf_150 ?_
      refine lv_iconst (v := 1) hx hb dX8_leastOf_151 (by decide) ?_
      refine lv_iand hx hb dX8_leastOf_152 ?_
      refine lv_iconst (v := 1) hx hb dX8_leastOf_153 (by decide) ?_
      refine lv_icmp_ne (tgt := 249) hx hb dX8_leastOf_154 (by decide) (fun c49 => ?_) (fun c49 => ?_)
      · have h := h.1 c49
        obtain ⟨v50, ev50⟩ : ∃ y : Int32, y = y6 + 1 := ⟨_, rfl⟩
        have h := h v50 ev50
        refine lv_iinc (v := v50) (lv' := [(6, .int v50), (7, .int v48), (0, .ref (a 0)), (1, .int x1), (2, .int x2), (3, .int x3), (4, .long y4)]) hx hb dX8_leastOf_249 hl (k := 6) rfl (by rw [ev50]; rfl) (by decide) rfl (fun ls hl => ?_)
        refine lv_goto (tgt := 131) hx hb dX8_leastOf_252 (by decide) ?_
        exact (hWW _ _ _).mp (el131 _ _ h ls (lv_sub hl [2, 3, 4, 5, 6, 0] rfl))
      · have h := h.2 c49
        refine lv_aload_n hx hb dX8_leastOf_157 rfl (lv_at hl 1 rfl) ?_
        refine lv_iload hx hb dX8_leastOf_158 (lv_at hl 6 rfl) ?_
        refine lv_iload hx hb dX8_leastOf_160 (lv_at hl 0 rfl) ?_
        refine xw_ri (va_runV (rm := { frames := 0, cells := 0, slots := 0, locals := 0 }) (As := [.int y6, .int v48]) (rest := []) ⟨hx, hb, hml, hown, hts⟩ (c_X8_isHeld l D cy a y6 v48 I F G _ h A) (cwV 2 hts gX8_leastOf_X8_isHeld rfl rfl rfl (by decide +kernel) ⟨Nat.le_of_ble_eq_true rfl, Nat.le_of_ble_eq_true rfl⟩) (xw_preV hB hP hD (ci := 8) rfl xM_c0) rfl rfl hl.1 rfl (lv_room (Nat.le_of_ble_eq_true rfl)) dX8_leastOf_162 ⟨Nat.le_of_ble_eq_true rfl, Nat.le_of_ble_eq_true rfl⟩) (fun r51 h => ?_)
        refine lv_if_ne (tgt := 249) hx hb dX8_leastOf_165 (by decide) (fun c52 => ?_) (fun c52 => ?_)
        · have h := h.1 c52
          obtain ⟨v53, ev53⟩ : ∃ y : Int32, y = y6 + 1 := ⟨_, rfl⟩
          have h := h v53 ev53
          refine lv_iinc (v := v53) (lv' := [(6, .int v53), (7, .int v48), (0, .ref (a 0)), (1, .int x1), (2, .int x2), (3, .int x3), (4, .long y4)]) hx hb dX8_leastOf_249 hl (k := 6) rfl (by rw [ev53]; rfl) (by decide) rfl (fun ls hl => ?_)
          refine lv_goto (tgt := 131) hx hb dX8_leastOf_252 (by decide) ?_
          exact (hWW _ _ _).mp (el131 _ _ h ls (lv_sub hl [2, 3, 4, 5, 6, 0] rfl))
        · have h := h.2 c52
          refine lv_iload_n hx hb dX8_leastOf_168 rfl (lv_at hl 3 rfl) ?_
          refine lv_istore (lv' := [(8, .int x2), (7, .int v48), (0, .ref (a 0)), (1, .int x1), (2, .int x2), (3, .int x3), (4, .long y4), (6, .int y6)]) hx hb dX8_leastOf_169 hl (by decide) rfl (fun ls hl => ?_)
          exact (hWW _ _ _).mp (el171 _ _ _ _ h ls (lv_sub hl [2, 3, 4, 5, 6, 7, 1, 0] rfl))
  have rl171 : ∀ (y4 : Int64) (y6 : Int32) (y7 : Int32) (y8 : Int32), (bd_X8_leastOf_171 x1 x2 x3 I F G post k8 k41 k131 k171 k181 y4 y6 y7 y8) → k171 y4 y6 y7 y8 := by
    intro y4 y6 y7 y8 h
    refine mk171 _ _ _ _ ?_
    intro ls hl
    refine (hWW _ _ _).mpr ?_
    unfold bd_X8_leastOf_171 at h
    refine lv_iload hx hb dX8_leastOf_171 (lv_at hl 7 rfl) ?_
    refine lv_iload_n hx hb dX8_leastOf_173 rfl (lv_at hl 3 rfl) ?_
    refine lv_icmp_gt (tgt := 249) hx hb dX8_leastOf_174 (by decide) (fun c54 => ?_) (fun c54 => ?_)
    · have h := h.1 c54
      obtain ⟨v55, ev55⟩ : ∃ y : Int32, y = y6 + 1 := ⟨_, rfl⟩
      have h := h v55 ev55
      refine lv_iinc (v := v55) (lv' := [(6, .int v55), (0, .ref (a 0)), (1, .int x1), (2, .int x2), (3, .int x3), (4, .long y4), (7, .int y7), (8, .int y8)]) hx hb dX8_leastOf_249 hl (k := 5) rfl (by rw [ev55]; rfl) (by decide) rfl (fun ls hl => ?_)
      refine lv_goto (tgt := 131) hx hb dX8_leastOf_252 (by decide) ?_
      exact (hWW _ _ _).mp (el131 _ _ h ls (lv_sub hl [1, 2, 3, 4, 5, 0] rfl))
    · have h := h.2 c54
      refine lv_iload hx hb dX8_leastOf_177 (lv_at hl 7 rfl) ?_
      refine lv_istore (lv' := [(9, .int y8), (0, .ref (a 0)), (1, .int x1), (2, .int x2), (3, .int x3), (4, .long y4), (6, .int y6), (7, .int y7), (8, .int y8)]) hx hb dX8_leastOf_179 hl (by decide) rfl (fun ls hl => ?_)
      exact (hWW _ _ _).mp (el181 _ _ _ _ _ h ls (lv_sub hl [1, 2, 3, 4, 5, 6, 7, 8, 0] rfl))
  have rl181 : ∀ (y4 : Int64) (y6 : Int32) (y7 : Int32) (y8 : Int32) (y9 : Int32), (bd_X8_leastOf_181 x1 x2 x3 I F G post k8 k41 k131 k171 k181 y4 y6 y7 y8 y9) → k181 y4 y6 y7 y8 y9 := by
    intro y4 y6 y7 y8 y9 h
    refine mk181 _ _ _ _ _ ?_
    intro ls hl
    refine (hWW _ _ _).mpr ?_
    unfold bd_X8_leastOf_181 at h
    refine lv_iload hx hb dX8_leastOf_181 (lv_at hl 8 rfl) ?_
    refine lv_iload_n hx hb dX8_leastOf_183 rfl (lv_at hl 3 rfl) ?_
    refine lv_icmp_gt (tgt := 243) hx hb dX8_leastOf_184 (by decide) (fun c56 => ?_) (fun c56 => ?_)
    · have h := h.1 c56
      obtain ⟨v57, ev57⟩ : ∃ y : Int32, y = y8 + 1 := ⟨_, rfl⟩
      have h := h v57 ev57
      refine lv_iinc (v := v57) (lv' := [(8, .int v57), (0, .ref (a 0)), (1, .int x1), (2, .int x2), (3, .int x3), (4, .long y4), (6, .int y6), (7, .int y7), (9, .int y9)]) hx hb dX8_leastOf_243 hl (k := 7) rfl (by rw [ev57]; rfl) (by decide) rfl (fun ls hl => ?_)
      refine lv_goto (tgt := 171) hx hb dX8_leastOf_246 (by decide) ?_
      exact (hWW _ _ _).mp (el171 _ _ _ _ h ls (lv_sub hl [1, 2, 3, 4, 5, 6, 7, 0] rfl))
    · have h := h.2 c56
      refine lv_aload_n hx hb dX8_leastOf_187 rfl (lv_at hl 0 rfl) ?_
      refine va_get (D := D) (ci := 8) (v := .ref (a 9)) (C := RX8) (T := TX8) (N := 22) hx hb hts mX8_leastOf_inX8 hown hB.1 hP 0 xM_c0 rfl 12 (by decide) (hts _ mX8_leastOf_2) (fun _ h9 => h9) rfl dX8_leastOf_188 ?_
      refine lv_iload hx hb dX8_leastOf_191 (lv_at hl 6 rfl) ?_
      refine lv_iload hx hb dX8_leastOf_193 (lv_at hl 7 rfl) ?_
      refine lv_iload hx hb dX8_leastOf_195 (lv_at hl 8 rfl) ?_
      refine xw_ri (va_runS (rm := { frames := 0, cells := 0, slots := 0, locals := 0 }) (As := [.int y7, .int y8, .int y9]) (rest := [.ref (a 9)]) ⟨hx, hb, hml, hown, hts⟩ (c_X8_at l D cy y7 y8 y9 _ h (fun _ => True)) (va_cwS 3 hts gX8_leastOf_X8_at rfl rfl rfl (by decide +kernel) ⟨Nat.le_of_ble_eq_true rfl, Nat.le_of_ble_eq_true rfl⟩) (xw_preS hB xw_P0 (xw_D0 (A := fun _ => True))) rfl rfl hl.1 rfl (lv_room (Nat.le_of_ble_eq_true rfl)) dX8_leastOf_197 ⟨Nat.le_of_ble_eq_true rfl, Nat.le_of_ble_eq_true rfl⟩) (fun r58 h => ?_)
      refine xw_lald hx hb hB hP 9 xM_c9 h.1 dX8_leastOf_200 (fun v59 ev59 => ?_)
      have h := h.2 v59 ev59
      refine lv_lstore (lv' := [(10, .long v59), (0, .ref (a 0)), (1, .int x1), (2, .int x2), (3, .int x3), (4, .long y4), (6, .int y6), (7, .int y7), (8, .int y8), (9, .int y9)]) hx hb dX8_leastOf_201 hl (by decide) rfl (fun ls hl => ?_)
      refine lv_lload hx hb dX8_leastOf_203 (lv_at hl 0 rfl) ?_
      refine lv_ldc2 hx hb hown (hts _ mX8_leastOf_1) dX8_leastOf_205 ?_
      refine W.lcmp hx hb dX8_leastOf_208 ?_
      refine lv_if_ge (tgt := 233) hx hb dX8_leastOf_209 (by decide) (fun c60 => ?_) (fun c60 => ?_)
      · have h := h.1 c60
        refine lv_lload hx hb dX8_leastOf_233 (lv_at hl 5 rfl) ?_
        refine lv_lstore (lv' := [(4, .long y4), (10, .long v59), (0, .ref (a 0)), (1, .int x1), (2, .int x2), (3, .int x3), (6, .int y6), (7, .int y7), (8, .int y8), (9, .int y9)]) hx hb dX8_leastOf_235 hl (by decide) rfl (fun ls hl => ?_)
        obtain ⟨v61, ev61⟩ : ∃ y : Int32, y = y9 + 1 := ⟨_, rfl⟩
        have h := h v61 ev61
        refine lv_iinc (v := v61) (lv' := [(9, .int v61), (4, .long y4), (10, .long v59), (0, .ref (a 0)), (1, .int x1), (2, .int x2), (3, .int x3), (6, .int y6), (7, .int y7), (8, .int y8)]) hx hb dX8_leastOf_237 hl (k := 9) rfl (by rw [ev61]; rfl) (by decide) rfl (fun ls hl => ?_)
        refine lv_goto (tgt := 181) hx hb dX8_leastOf_240 (by decide) ?_
        exact (hWW _ _ _).mp (el181 _ _ _ _ _ h ls (lv_sub hl [3, 4, 5, 6, 1, 7, 8, 9, 0] rfl))
      · have h := h.2 c60
        refine lv_lload hx hb dX8_leastOf_212 (lv_at hl 5 rfl) ?_
        refine lv_lload hx hb dX8_leastOf_214 (lv_at hl 0 rfl) ?_
        refine lv_aload_n hx hb dX8_leastOf_216 rfl (lv_at hl 1 rfl) ?_
        refine lv_iload hx hb dX8_leastOf_217 (lv_at hl 6 rfl) ?_
        refine lv_iload hx hb dX8_leastOf_219 (lv_at hl 8 rfl) ?_
        refine lv_iload hx hb dX8_leastOf_221 (lv_at hl 9 rfl) ?_
        refine xw_rl (va_runV (rm := { frames := 3, cells := 0, slots := 0, locals := 73 }) (As := [.int y6, .int y8, .int y9]) (rest := [.long v59, .long y4]) ⟨hx, hb, hml, hown, hts⟩ (c_X8_code l D cy a y6 y8 y9 I F G _ h A) (cwV 3 hts gX8_leastOf_X8_code rfl rfl rfl (by decide +kernel) ⟨Nat.le_of_ble_eq_true rfl, Nat.le_of_ble_eq_true rfl⟩) (xw_preV hB hP hD (ci := 8) rfl xM_c0) rfl rfl hl.1 rfl (lv_room (Nat.le_of_ble_eq_true rfl)) dX8_leastOf_223 ⟨Nat.le_of_ble_eq_true rfl, Nat.le_of_ble_eq_true rfl⟩) (fun r62 h => ?_)
        refine lv_ladd hx hb dX8_leastOf_226 ?_
        refine xw_rl (va_runS (rm := { frames := 0, cells := 0, slots := 0, locals := 0 }) (As := [.long y4, .long (v59 + r62)]) (rest := []) ⟨hx, hb, hml, hown, hts⟩ (c_X8_least l D cy y4 (v59 + r62) _ h (fun _ => True)) (va_cwS 2 hts gX8_leastOf_X8_least rfl rfl rfl (by decide +kernel) ⟨Nat.le_of_ble_eq_true rfl, Nat.le_of_ble_eq_true rfl⟩) (xw_preS hB xw_P0 (xw_D0 (A := fun _ => True))) rfl rfl hl.1 rfl (lv_room (Nat.le_of_ble_eq_true rfl)) dX8_leastOf_227 ⟨Nat.le_of_ble_eq_true rfl, Nat.le_of_ble_eq_true rfl⟩) (fun r63 h => ?_)
        refine lv_goto (tgt := 235) hx hb dX8_leastOf_230 (by decide) ?_
        refine lv_lstore (lv' := [(4, .long r63), (10, .long v59), (0, .ref (a 0)), (1, .int x1), (2, .int x2), (3, .int x3), (6, .int y6), (7, .int y7), (8, .int y8), (9, .int y9)]) hx hb dX8_leastOf_235 hl (by decide) rfl (fun ls hl => ?_)
        obtain ⟨v64, ev64⟩ : ∃ y : Int32, y = y9 + 1 := ⟨_, rfl⟩
        have h := h v64 ev64
        refine lv_iinc (v := v64) (lv' := [(9, .int v64), (4, .long r63), (10, .long v59), (0, .ref (a 0)), (1, .int x1), (2, .int x2), (3, .int x3), (6, .int y6), (7, .int y7), (8, .int y8)]) hx hb dX8_leastOf_237 hl (k := 9) rfl (by rw [ev64]; rfl) (by decide) rfl (fun ls hl => ?_)
        refine lv_goto (tgt := 181) hx hb dX8_leastOf_240 (by decide) ?_
        exact (hWW _ _ _).mp (el181 _ _ _ _ _ h ls (lv_sub hl [3, 4, 5, 6, 1, 7, 8, 9, 0] rfl))
  have h := h k8 k41 k131 k171 k181 rl8 rl41 rl131 rl171 rl181
  unfold bd_X8_leastOf_0 at h
  refine lv_ldc2 hx hb hown (hts _ mX8_leastOf_1) dX8_leastOf_0 ?_
  refine lv_lstore (lv' := [(4, .long (4611686018427387904 : Int64)), (0, .ref (a 0)), (1, .int x1), (2, .int x2), (3, .int x3)]) hx hb dX8_leastOf_3 hl (by decide) rfl (fun ls hl => ?_)
  refine lv_iconst (v := 1) hx hb dX8_leastOf_5 (by decide) ?_
  refine lv_istore (lv' := [(6, .int (1 : Int32)), (4, .long (4611686018427387904 : Int64)), (0, .ref (a 0)), (1, .int x1), (2, .int x2), (3, .int x3)]) hx hb dX8_leastOf_6 hl (by decide) rfl (fun ls hl => ?_)
  exact (hWW _ _ _).mp (el8 _ _ h ls (lv_sub hl [2, 3, 4, 5, 1, 0] rfl))

set_option maxHeartbeats 4000000 in
set_option maxRecDepth 100000 in
theorem c_X8_there (l : Launch) (D : va_G) (cy : Nat → ClassId) (a : Nat → Nat) (I : xw_I) (F : xw_F) (G : xw_G) (post : Int32 → Prop) (h : sm_X8_there I F G post) : xw_Ri l yX8_there wsX8_there ({ frames := 2, cells := 0, slots := 0, locals := 43 }) D cy [.ref (a 0)] (xM_w cy a I F G) post := by
  intro A
  refine Met.ofW (cc := cX8_there) (maxL := 3) (ret := (some .int)) (by decide) rfl ?_
  intro p e s m args below meth c s₁ B hml hv
  obtain ⟨rfl, hP, hB, hD⟩ := hv
  have hP : va_P D vwCl (xM_w cy a I F G) s.heap := hP
  have hx := B.exec
  have hb := B.bytes
  have hr := B.returns
  have hts := atoms_spec (ws := wsX8_there) B.pre
  have hown : s.vm.findClass RX8 = some m.cls := findClass_of_methodNamed B.named
  have hlocks := B.notSynchronized
  refine xw_go (fun WW hWW => ?_)
  have hl := lv_entry ([.ref (a 0)]) (n := 3) (Nat.le_of_ble_eq_true rfl)
  rw [lg_entry_eq]
  generalize (lg_sl ([.ref (a 0)]) ++ List.replicate (3 - (lg_sl ([.ref (a 0)])).length) Slot.unset).toArray = ls at hl ⊢
  have hl : lv_has ls 3 [(0, .ref (a 0))] := hl
  obtain ⟨k4, mk4, el4⟩ : ∃ K : Int32 → Int32 → Prop, (∀ (y1 : Int32) (y2 : Int32), (∀ (ls : Array Slot), lv_has ls 3 [(0, .ref (a 0)), (1, .int y1), (2, .int y2)] → WW s.heap [] (F0 m 4 ls [])) → K y1 y2) ∧ (∀ (y1 : Int32) (y2 : Int32), K y1 y2 → (∀ (ls : Array Slot), lv_has ls 3 [(0, .ref (a 0)), (1, .int y1), (2, .int y2)] → WW s.heap [] (F0 m 4 ls []))) := ⟨fun (y1 : Int32) (y2 : Int32) => (∀ (ls : Array Slot), lv_has ls 3 [(0, .ref (a 0)), (1, .int y1), (2, .int y2)] → WW s.heap [] (F0 m 4 ls [])), fun _ _ h => h, fun _ _ h => h⟩
  have rl4 : ∀ (y1 : Int32) (y2 : Int32), (bd_X8_there_4 I F G post k4 y1 y2) → k4 y1 y2 := by
    intro y1 y2 h
    refine mk4 _ _ ?_
    intro ls hl
    refine (hWW _ _ _).mpr ?_
    unfold bd_X8_there_4 at h
    refine lv_iload_n hx hb dX8_there_4 rfl (lv_at hl 2 rfl) ?_
    refine lv_iconst (v := 5) hx hb dX8_there_5 (by decide) ?_
    refine lv_icmp_ge (tgt := 33) hx hb dX8_there_6 (by decide) (fun c7 => ?_) (fun c7 => ?_)
    · have h := h.1 c7
      refine lv_iload_n hx hb dX8_there_33 rfl (lv_at hl 1 rfl) ?_
      exact xw_ireti hx hb hr hlocks h dX8_there_34
    · have h := h.2 c7
      refine lv_iload_n hx hb dX8_there_9 rfl (lv_at hl 1 rfl) ?_
      refine lv_aload_n hx hb dX8_there_10 rfl (lv_at hl 0 rfl) ?_
      refine lv_iload_n hx hb dX8_there_11 rfl (lv_at hl 2 rfl) ?_
      refine xw_ri (va_runV (rm := { frames := 1, cells := 0, slots := 0, locals := 22 }) (As := [.int y2]) (rest := [.int y1]) ⟨hx, hb, hml, hown, hts⟩ (c_X8_isThere l D cy a y2 I F G _ h A) (cwV 1 hts gX8_there_X8_isThere rfl rfl rfl (by decide +kernel) ⟨Nat.le_of_ble_eq_true rfl, Nat.le_of_ble_eq_true rfl⟩) (xw_preV hB hP hD (ci := 8) rfl xM_c0) rfl rfl hl.1 rfl (lv_room (Nat.le_of_ble_eq_true rfl)) dX8_there_12 ⟨Nat.le_of_ble_eq_true rfl, Nat.le_of_ble_eq_true rfl⟩) (fun r8 h => ?_)
      refine lv_if_eq (tgt := 24) hx hb dX8_there_15 (by decide) (fun c9 => ?_) (fun c9 => ?_)
      · have h := h.1 c9
        refine lv_iconst (v := 0) hx hb dX8_there_24 (by decide) ?_
        refine lv_ior hx hb dX8_there_25 ?_
        refine lv_topi (fun v10 ev10 => ?_)
        have h := h v10 ev10
        refine lv_istore_n (lv' := [(1, .int v10), (0, .ref (a 0)), (2, .int y2)]) hx hb dX8_there_26 rfl hl (by decide) rfl (fun ls hl => ?_)
        obtain ⟨v11, ev11⟩ : ∃ y : Int32, y = y2 + 1 := ⟨_, rfl⟩
        have h := h v11 ev11
        refine lv_iinc (v := v11) (lv' := [(2, .int v11), (1, .int v10), (0, .ref (a 0))]) hx hb dX8_there_27 hl (k := 2) rfl (by rw [ev11]; rfl) (by decide) rfl (fun ls hl => ?_)
        refine lv_goto (tgt := 4) hx hb dX8_there_30 (by decide) ?_
        exact (hWW _ _ _).mp (el4 _ _ h ls (lv_sub hl [2, 1, 0] rfl))
      · have h := h.2 c9
        refine lv_iconst (v := 1) hx hb dX8_there_18 (by decide) ?_
        refine lv_iload_n hx hb dX8_there_19 rfl (lv_at hl 2 rfl) ?_
        refine lv_ishl hx hb dX8_there_20 ?_
        refine lv_goto (tgt := 25) hx hb dX8_there_21 (by decide) ?_
        refine lv_ior hx hb dX8_there_25 ?_
        refine lv_topi (fun v12 ev12 => ?_)
        have h := h v12 ev12
        refine lv_istore_n (lv' := [(1, .int v12), (0, .ref (a 0)), (2, .int y2)]) hx hb dX8_there_26 rfl hl (by decide) rfl (fun ls hl => ?_)
        obtain ⟨v13, ev13⟩ : ∃ y : Int32, y = y2 + 1 := ⟨_, rfl⟩
        have h := h v13 ev13
        refine lv_iinc (v := v13) (lv' := [(2, .int v13), (1, .int v12), (0, .ref (a 0))]) hx hb dX8_there_27 hl (k := 2) rfl (by rw [ev13]; rfl) (by decide) rfl (fun ls hl => ?_)
        refine lv_goto (tgt := 4) hx hb dX8_there_30 (by decide) ?_
        exact (hWW _ _ _).mp (el4 _ _ h ls (lv_sub hl [2, 1, 0] rfl))
  have h := h k4 rl4
  unfold bd_X8_there_0 at h
  refine lv_iconst (v := 0) hx hb dX8_there_0 (by decide) ?_
  refine lv_istore_n (lv' := [(1, .int (0 : Int32)), (0, .ref (a 0))]) hx hb dX8_there_1 rfl hl (by decide) rfl (fun ls hl => ?_)
  refine lv_iconst (v := 0) hx hb dX8_there_2 (by decide) ?_
  refine lv_istore_n (lv' := [(2, .int (0 : Int32)), (1, .int (0 : Int32)), (0, .ref (a 0))]) hx hb dX8_there_3 rfl hl (by decide) rfl (fun ls hl => ?_)
  exact (hWW _ _ _).mp (el4 _ _ h ls (lv_sub hl [2, 1, 0] rfl))
