set_option maxHeartbeats 4000000 in
set_option maxRecDepth 100000 in
theorem c_X8_in (l : Launch) (D : va_G) (cy : Nat → ClassId) (x0 : Int32) (x1 : Int32) (x2 : Int32) (post : Int32 → Prop) (h : sm_X8_in x0 x1 x2 post) : xw_Ri l yX8_in wsX8_in ({ frames := 0, cells := 0, slots := 0, locals := 0 }) D cy [.int x0, .int x1, .int x2] ([]) post := by
  intro A
  refine Met.ofW (cc := cX8_in) (maxL := 3) (ret := (some .boolean)) (by decide) rfl ?_
  intro p e s m args below meth c s₁ B hml hv
  obtain ⟨rfl, hP, hB, hD⟩ := hv
  have hP : va_P D vwCl ([]) s.heap := hP
  have hx := B.exec
  have hb := B.bytes
  have hr := B.returns
  have hts := atoms_spec (ws := wsX8_in) B.pre
  have hown : s.vm.findClass RX8 = some m.cls := findClass_of_methodNamed B.named
  have hlocks := B.notSynchronized
  refine xw_go (fun WW hWW => ?_)
  have hl := lv_entry ([.int x0, .int x1, .int x2]) (n := 3) (Nat.le_of_ble_eq_true rfl)
  rw [lg_entry_eq]
  generalize (lg_sl ([.int x0, .int x1, .int x2]) ++ List.replicate (3 - (lg_sl ([.int x0, .int x1, .int x2])).length) Slot.unset).toArray = ls at hl ⊢
  have hl : lv_has ls 3 [(0, .int x0), (1, .int x1), (2, .int x2)] := hl
  unfold sm_X8_in at h
  refine lv_iload_n hx hb dX8_in_0 rfl (lv_at hl 0 rfl) ?_
  refine lv_iload_n hx hb dX8_in_1 rfl (lv_at hl 1 rfl) ?_
  refine lv_icmp_lt (tgt := 14) hx hb dX8_in_2 (by decide) (fun c3 => ?_) (fun c3 => ?_)
  · have h := h.1 c3
    refine lv_iconst (v := 0) hx hb dX8_in_14 (by decide) ?_
    exact xw_iretz hx hb hr hlocks rfl h dX8_in_15
  · have h := h.2 c3
    refine lv_iload_n hx hb dX8_in_5 rfl (lv_at hl 0 rfl) ?_
    refine lv_iload_n hx hb dX8_in_6 rfl (lv_at hl 2 rfl) ?_
    refine lv_icmp_gt (tgt := 14) hx hb dX8_in_7 (by decide) (fun c4 => ?_) (fun c4 => ?_)
    · have h := h.1 c4
      refine lv_iconst (v := 0) hx hb dX8_in_14 (by decide) ?_
      exact xw_iretz hx hb hr hlocks rfl h dX8_in_15
    · have h := h.2 c4
      refine lv_iconst (v := 1) hx hb dX8_in_10 (by decide) ?_
      refine lv_goto (tgt := 15) hx hb dX8_in_11 (by decide) ?_
      exact xw_iretz hx hb hr hlocks rfl h dX8_in_15

set_option maxHeartbeats 4000000 in
set_option maxRecDepth 100000 in
theorem c_X8_off (l : Launch) (D : va_G) (cy : Nat → ClassId) (x0 : Int32) (x1 : Int32) (post : Int32 → Prop) (h : sm_X8_off x0 x1 post) : xw_Ri l yX8_off wsX8_off ({ frames := 0, cells := 0, slots := 0, locals := 0 }) D cy [.int x0, .int x1] ([]) post := by
  intro A
  refine Met.ofW (cc := cX8_off) (maxL := 2) (ret := (some .int)) (by decide) rfl ?_
  intro p e s m args below meth c s₁ B hml hv
  obtain ⟨rfl, hP, hB, hD⟩ := hv
  have hP : va_P D vwCl ([]) s.heap := hP
  have hx := B.exec
  have hb := B.bytes
  have hr := B.returns
  have hts := atoms_spec (ws := wsX8_off) B.pre
  have hown : s.vm.findClass RX8 = some m.cls := findClass_of_methodNamed B.named
  have hlocks := B.notSynchronized
  refine xw_go (fun WW hWW => ?_)
  have hl := lv_entry ([.int x0, .int x1]) (n := 2) (Nat.le_of_ble_eq_true rfl)
  rw [lg_entry_eq]
  generalize (lg_sl ([.int x0, .int x1]) ++ List.replicate (2 - (lg_sl ([.int x0, .int x1])).length) Slot.unset).toArray = ls at hl ⊢
  have hl : lv_has ls 2 [(0, .int x0), (1, .int x1)] := hl
  unfold sm_X8_off at h
  refine lv_iload_n hx hb dX8_off_0 rfl (lv_at hl 0 rfl) ?_
  refine lv_iload_n hx hb dX8_off_1 rfl (lv_at hl 1 rfl) ?_
  refine lv_icmp_ge (tgt := 11) hx hb dX8_off_2 (by decide) (fun c2 => ?_) (fun c2 => ?_)
  · have h := h.1 c2
    refine lv_iload_n hx hb dX8_off_11 rfl (lv_at hl 0 rfl) ?_
    refine lv_iload_n hx hb dX8_off_12 rfl (lv_at hl 1 rfl) ?_
    refine lv_isub hx hb dX8_off_13 ?_
    exact xw_ireti hx hb hr hlocks h dX8_off_14
  · have h := h.2 c2
    refine lv_iload_n hx hb dX8_off_5 rfl (lv_at hl 1 rfl) ?_
    refine lv_iload_n hx hb dX8_off_6 rfl (lv_at hl 0 rfl) ?_
    refine lv_isub hx hb dX8_off_7 ?_
    refine lv_goto (tgt := 14) hx hb dX8_off_8 (by decide) ?_
    exact xw_ireti hx hb hr hlocks h dX8_off_14

set_option maxHeartbeats 4000000 in
set_option maxRecDepth 100000 in
theorem c_X8_greater (l : Launch) (D : va_G) (cy : Nat → ClassId) (x0 : Int32) (x1 : Int32) (post : Int32 → Prop) (h : sm_X8_greater x0 x1 post) : xw_Ri l yX8_greater wsX8_greater ({ frames := 0, cells := 0, slots := 0, locals := 0 }) D cy [.int x0, .int x1] ([]) post := by
  intro A
  refine Met.ofW (cc := cX8_greater) (maxL := 2) (ret := (some .int)) (by decide) rfl ?_
  intro p e s m args below meth c s₁ B hml hv
  obtain ⟨rfl, hP, hB, hD⟩ := hv
  have hP : va_P D vwCl ([]) s.heap := hP
  have hx := B.exec
  have hb := B.bytes
  have hr := B.returns
  have hts := atoms_spec (ws := wsX8_greater) B.pre
  have hown : s.vm.findClass RX8 = some m.cls := findClass_of_methodNamed B.named
  have hlocks := B.notSynchronized
  refine xw_go (fun WW hWW => ?_)
  have hl := lv_entry ([.int x0, .int x1]) (n := 2) (Nat.le_of_ble_eq_true rfl)
  rw [lg_entry_eq]
  generalize (lg_sl ([.int x0, .int x1]) ++ List.replicate (2 - (lg_sl ([.int x0, .int x1])).length) Slot.unset).toArray = ls at hl ⊢
  have hl : lv_has ls 2 [(0, .int x0), (1, .int x1)] := hl
  unfold sm_X8_greater at h
  refine lv_iload_n hx hb dX8_greater_0 rfl (lv_at hl 0 rfl) ?_
  refine lv_iload_n hx hb dX8_greater_1 rfl (lv_at hl 1 rfl) ?_
  refine lv_icmp_le (tgt := 9) hx hb dX8_greater_2 (by decide) (fun c2 => ?_) (fun c2 => ?_)
  · have h := h.1 c2
    refine lv_iload_n hx hb dX8_greater_9 rfl (lv_at hl 1 rfl) ?_
    exact xw_ireti hx hb hr hlocks h dX8_greater_10
  · have h := h.2 c2
    refine lv_iload_n hx hb dX8_greater_5 rfl (lv_at hl 0 rfl) ?_
    refine lv_goto (tgt := 10) hx hb dX8_greater_6 (by decide) ?_
    exact xw_ireti hx hb hr hlocks h dX8_greater_10

set_option maxHeartbeats 4000000 in
set_option maxRecDepth 100000 in
theorem c_X8_at (l : Launch) (D : va_G) (cy : Nat → ClassId) (x0 : Int32) (x1 : Int32) (x2 : Int32) (post : Int32 → Prop) (h : sm_X8_at x0 x1 x2 post) : xw_Ri l yX8_at wsX8_at ({ frames := 0, cells := 0, slots := 0, locals := 0 }) D cy [.int x0, .int x1, .int x2] ([]) post := by
  intro A
  refine Met.ofW (cc := cX8_at) (maxL := 3) (ret := (some .int)) (by decide) rfl ?_
  intro p e s m args below meth c s₁ B hml hv
  obtain ⟨rfl, hP, hB, hD⟩ := hv
  have hP : va_P D vwCl ([]) s.heap := hP
  have hx := B.exec
  have hb := B.bytes
  have hr := B.returns
  have hts := atoms_spec (ws := wsX8_at) B.pre
  have hown : s.vm.findClass RX8 = some m.cls := findClass_of_methodNamed B.named
  have hlocks := B.notSynchronized
  refine xw_go (fun WW hWW => ?_)
  have hl := lv_entry ([.int x0, .int x1, .int x2]) (n := 3) (Nat.le_of_ble_eq_true rfl)
  rw [lg_entry_eq]
  generalize (lg_sl ([.int x0, .int x1, .int x2]) ++ List.replicate (3 - (lg_sl ([.int x0, .int x1, .int x2])).length) Slot.unset).toArray = ls at hl ⊢
  have hl : lv_has ls 3 [(0, .int x0), (1, .int x1), (2, .int x2)] := hl
  unfold sm_X8_at at h
  refine lv_bipush (v := 81) hx hb dX8_at_0 (by decide) ?_
  refine lv_iload_n hx hb dX8_at_2 rfl (lv_at hl 0 rfl) ?_
  refine lv_imul hx hb dX8_at_3 ?_
  refine lv_bipush (v := 9) hx hb dX8_at_4 (by decide) ?_
  refine lv_iload_n hx hb dX8_at_6 rfl (lv_at hl 1 rfl) ?_
  refine lv_imul hx hb dX8_at_7 ?_
  refine lv_iadd hx hb dX8_at_8 ?_
  refine lv_iload_n hx hb dX8_at_9 rfl (lv_at hl 2 rfl) ?_
  refine lv_iadd hx hb dX8_at_10 ?_
  exact xw_ireti hx hb hr hlocks h dX8_at_11

set_option maxHeartbeats 4000000 in
set_option maxRecDepth 100000 in
theorem c_X8_least (l : Launch) (D : va_G) (cy : Nat → ClassId) (x0 : Int64) (x2 : Int64) (post : Int64 → Prop) (h : sm_X8_least x0 x2 post) : xw_Rl l yX8_least wsX8_least ({ frames := 0, cells := 0, slots := 0, locals := 0 }) D cy [.long x0, .long x2] ([]) post := by
  intro A
  refine Met.ofW (cc := cX8_least) (maxL := 4) (ret := (some .long)) (by decide) rfl ?_
  intro p e s m args below meth c s₁ B hml hv
  obtain ⟨rfl, hP, hB, hD⟩ := hv
  have hP : va_P D vwCl ([]) s.heap := hP
  have hx := B.exec
  have hb := B.bytes
  have hr := B.returns
  have hts := atoms_spec (ws := wsX8_least) B.pre
  have hown : s.vm.findClass RX8 = some m.cls := findClass_of_methodNamed B.named
  have hlocks := B.notSynchronized
  refine xw_go (fun WW hWW => ?_)
  have hl := lv_entry ([.long x0, .long x2]) (n := 4) (Nat.le_of_ble_eq_true rfl)
  rw [lg_entry_eq]
  generalize (lg_sl ([.long x0, .long x2]) ++ List.replicate (4 - (lg_sl ([.long x0, .long x2])).length) Slot.unset).toArray = ls at hl ⊢
  have hl : lv_has ls 4 [(0, .long x0), (2, .long x2)] := hl
  unfold sm_X8_least at h
  refine lv_lload_n hx hb dX8_least_0 rfl (lv_at hl 0 rfl) ?_
  refine lv_lload_n hx hb dX8_least_1 rfl (lv_at hl 1 rfl) ?_
  refine W.lcmp hx hb dX8_least_2 ?_
  refine lv_if_ge (tgt := 10) hx hb dX8_least_3 (by decide) (fun c2 => ?_) (fun c2 => ?_)
  · have h := h.1 c2
    refine lv_lload_n hx hb dX8_least_10 rfl (lv_at hl 1 rfl) ?_
    exact xw_iretl hx hb hr hlocks h dX8_least_11
  · have h := h.2 c2
    refine lv_lload_n hx hb dX8_least_6 rfl (lv_at hl 0 rfl) ?_
    refine lv_goto (tgt := 11) hx hb dX8_least_7 (by decide) ?_
    exact xw_iretl hx hb hr hlocks h dX8_least_11

set_option maxHeartbeats 4000000 in
set_option maxRecDepth 100000 in
theorem c_X8_bits (l : Launch) (D : va_G) (cy : Nat → ClassId) (x0 : Int32) (post : Int32 → Prop) (h : sm_X8_bits x0 post) : xw_Ri l yX8_bits wsX8_bits ({ frames := 0, cells := 0, slots := 0, locals := 0 }) D cy [.int x0] ([]) post := by
  intro A
  refine Met.ofW (cc := cX8_bits) (maxL := 3) (ret := (some .int)) (by decide) rfl ?_
  intro p e s m args below meth c s₁ B hml hv
  obtain ⟨rfl, hP, hB, hD⟩ := hv
  have hP : va_P D vwCl ([]) s.heap := hP
  have hx := B.exec
  have hb := B.bytes
  have hr := B.returns
  have hts := atoms_spec (ws := wsX8_bits) B.pre
  have hown : s.vm.findClass RX8 = some m.cls := findClass_of_methodNamed B.named
  have hlocks := B.notSynchronized
  refine xw_go (fun WW hWW => ?_)
  have hl := lv_entry ([.int x0]) (n := 3) (Nat.le_of_ble_eq_true rfl)
  rw [lg_entry_eq]
  generalize (lg_sl ([.int x0]) ++ List.replicate (3 - (lg_sl ([.int x0])).length) Slot.unset).toArray = ls at hl ⊢
  have hl : lv_has ls 3 [(0, .int x0)] := hl
  obtain ⟨k4, mk4, el4⟩ : ∃ K : Int32 → Int32 → Prop, (∀ (y1 : Int32) (y2 : Int32), (∀ (ls : Array Slot), lv_has ls 3 [(0, .int x0), (1, .int y1), (2, .int y2)] → WW s.heap [] (F0 m 4 ls [])) → K y1 y2) ∧ (∀ (y1 : Int32) (y2 : Int32), K y1 y2 → (∀ (ls : Array Slot), lv_has ls 3 [(0, .int x0), (1, .int y1), (2, .int y2)] → WW s.heap [] (F0 m 4 ls []))) := ⟨fun (y1 : Int32) (y2 : Int32) => (∀ (ls : Array Slot), lv_has ls 3 [(0, .int x0), (1, .int y1), (2, .int y2)] → WW s.heap [] (F0 m 4 ls [])), fun _ _ h => h, fun _ _ h => h⟩
  have rl4 : ∀ (y1 : Int32) (y2 : Int32), (bd_X8_bits_4 x0 post k4 y1 y2) → k4 y1 y2 := by
    intro y1 y2 h
    refine mk4 _ _ ?_
    intro ls hl
    refine (hWW _ _ _).mpr ?_
    unfold bd_X8_bits_4 at h
    refine lv_iload_n hx hb dX8_bits_4 rfl (lv_at hl 2 rfl) ?_
    refine lv_bipush (v := 12) hx hb dX8_bits_5 (by decide) ?_
    refine lv_icmp_ge (tgt := 24) hx hb dX8_bits_7 (by decide) (fun c4 => ?_) (fun c4 => ?_)
    · have h := h.1 c4
      refine lv_iload_n hx hb dX8_bits_24 rfl (lv_at hl 1 rfl) ?_
      exact xw_ireti hx hb hr hlocks h dX8_bits_25
    · have h := h.2 c4
      refine lv_iload_n hx hb dX8_bits_10 rfl (lv_at hl 1 rfl) ?_
      refine lv_iload_n hx hb dX8_bits_11 rfl (lv_at hl 0 rfl) ?_
      refine lv_iload_n hx hb dX8_bits_12 rfl (lv_at hl 2 rfl) ?_
      refine lv_ishr hx hb dX8_bits_13 ?_
      refine lv_iconst (v := 1) hx hb dX8_bits_14 (by decide) ?_
      refine lv_iand hx hb dX8_bits_15 ?_
      refine lv_iadd hx hb dX8_bits_16 ?_
      refine lv_topi (fun v5 ev5 => ?_)
      have h := h v5 ev5
      refine lv_istore_n (lv' := [(1, .int v5), (0, .int x0), (2, .int y2)]) hx hb dX8_bits_17 rfl hl (by decide) rfl (fun ls hl => ?_)
      obtain ⟨v6, ev6⟩ : ∃ y : Int32, y = y2 + 1 := ⟨_, rfl⟩
      have h := h v6 ev6
      refine lv_iinc (v := v6) (lv' := [(2, .int v6), (1, .int v5), (0, .int x0)]) hx hb dX8_bits_18 hl (k := 2) rfl (by rw [ev6]; rfl) (by decide) rfl (fun ls hl => ?_)
      refine lv_goto (tgt := 4) hx hb dX8_bits_21 (by decide) ?_
      exact (hWW _ _ _).mp (el4 _ _ h ls (lv_sub hl [2, 1, 0] rfl))
  have h := h k4 rl4
  unfold bd_X8_bits_0 at h
  refine lv_iconst (v := 0) hx hb dX8_bits_0 (by decide) ?_
  refine lv_istore_n (lv' := [(1, .int (0 : Int32)), (0, .int x0)]) hx hb dX8_bits_1 rfl hl (by decide) rfl (fun ls hl => ?_)
  refine lv_iconst (v := 0) hx hb dX8_bits_2 (by decide) ?_
  refine lv_istore_n (lv' := [(2, .int (0 : Int32)), (1, .int (0 : Int32)), (0, .int x0)]) hx hb dX8_bits_3 rfl hl (by decide) rfl (fun ls hl => ?_)
  exact (hWW _ _ _).mp (el4 _ _ h ls (lv_sub hl [2, 1, 0] rfl))

theorem mX8_say_1 : Cond.fieldLink RX8 61 "TagCarrierModel" "signs" "I" ∈ wsX8_say := List.mem_of_getElem? (i := 1) rfl
theorem mX8_say_inX8 : ∀ w ∈ u_ws RX8 TX8 22, w ∈ wsX8_say := by decide +kernel
theorem mX8_say_2 : Cond.fieldLink RX8 28 "TagCarrierModel" "pad" "[I" ∈ wsX8_say := List.mem_of_getElem? (i := 2) rfl
set_option maxHeartbeats 4000000 in
set_option maxRecDepth 100000 in
theorem c_X8_say (l : Launch) (D : va_G) (cy : Nat → ClassId) (a : Nat → Nat) (x1 : Int32) (I : xw_I) (F : xw_F) (G : xw_G) (post : Int32 → xw_I → xw_F → xw_G → Prop) (h : sm_X8_say x1 I F G post) : xw_Wi l yX8_say wsX8_say ({ frames := 1, cells := 0, slots := 0, locals := 22 }) D cy [.ref (a 0), .int x1] (xM_w cy a I F G) (xM_w cy a) post := by
  intro A
  refine Met.ofW (cc := cX8_say) (maxL := 2) (ret := (some .int)) (by decide) rfl ?_
  intro p e s m args below meth c s₁ B hml hv
  obtain ⟨rfl, hP, hB, hD⟩ := hv
  have hP : va_P D vwCl (xM_w cy a I F G) s.heap := hP
  have hx := B.exec
  have hb := B.bytes
  have hr := B.returns
  have hts := atoms_spec (ws := wsX8_say) B.pre
  have hown : s.vm.findClass RX8 = some m.cls := findClass_of_methodNamed B.named
  have hlocks := B.notSynchronized
  have hS : va_S A s.heap s.heap [] := va_S.rf
  refine xw_go (fun WW hWW => ?_)
  have hl := lv_entry ([.ref (a 0), .int x1]) (n := 2) (Nat.le_of_ble_eq_true rfl)
  rw [lg_entry_eq]
  generalize (lg_sl ([.ref (a 0), .int x1]) ++ List.replicate (2 - (lg_sl ([.ref (a 0), .int x1])).length) Slot.unset).toArray = ls at hl ⊢
  have hl : lv_has ls 2 [(0, .ref (a 0)), (1, .int x1)] := hl
  unfold sm_X8_say at h
  refine lv_iload_n hx hb dX8_say_0 rfl (lv_at hl 1 rfl) ?_
  refine lv_bipush (v := 33) hx hb dX8_say_1 (by decide) ?_
  refine lv_bipush (v := 126) hx hb dX8_say_3 (by decide) ?_
  refine xw_ri (va_runS (rm := { frames := 0, cells := 0, slots := 0, locals := 0 }) (As := [.int x1, .int (33 : Int32), .int (126 : Int32)]) (rest := []) ⟨hx, hb, hml, hown, hts⟩ (c_X8_in l D cy x1 (33 : Int32) (126 : Int32) _ h (fun _ => True)) (va_cwS 3 hts gX8_say_X8_in rfl rfl rfl (by decide +kernel) ⟨Nat.le_of_ble_eq_true rfl, Nat.le_of_ble_eq_true rfl⟩) (xw_preS hB xw_P0 (xw_D0 (A := fun _ => True))) rfl rfl hl.1 rfl (lv_room (Nat.le_of_ble_eq_true rfl)) dX8_say_5 ⟨Nat.le_of_ble_eq_true rfl, Nat.le_of_ble_eq_true rfl⟩) (fun r4 h => ?_)
  refine lv_if_ne (tgt := 14) hx hb dX8_say_8 (by decide) (fun c5 => ?_) (fun c5 => ?_)
  · have h := h.1 c5
    refine lv_aload_n hx hb dX8_say_14 rfl (lv_at hl 0 rfl) ?_
    refine va_get (D := D) (ci := 8) (v := .int (I 3)) (C := RX8) (T := TX8) (N := 22) hx hb hts mX8_say_inX8 hown hB.1 hP 0 xM_c0 rfl 9 (by decide) (hts _ mX8_say_1) (fun _ h9 => h9) rfl dX8_say_15 ?_
    refine lv_bipush (v := 30) hx hb dX8_say_18 (by decide) ?_
    refine lv_icmp_ne (tgt := 26) hx hb dX8_say_20 (by decide) (fun c6 => ?_) (fun c6 => ?_)
    · have h := h.1 c6
      refine lv_aload_n hx hb dX8_say_26 rfl (lv_at hl 0 rfl) ?_
      refine va_get (D := D) (ci := 8) (v := .ref (a 7)) (C := RX8) (T := TX8) (N := 22) hx hb hts mX8_say_inX8 hown hB.1 hP 0 xM_c0 rfl 10 (by decide) (hts _ mX8_say_2) (fun _ h9 => h9) rfl dX8_say_27 ?_
      refine lv_aload_n hx hb dX8_say_30 rfl (lv_at hl 0 rfl) ?_
      refine va_get (D := D) (ci := 8) (v := .int (I 3)) (C := RX8) (T := TX8) (N := 22) hx hb hts mX8_say_inX8 hown hB.1 hP 0 xM_c0 rfl 9 (by decide) (hts _ mX8_say_1) (fun _ h9 => h9) rfl dX8_say_31 ?_
      refine lv_iload_n hx hb dX8_say_34 rfl (lv_at hl 1 rfl) ?_
      refine xw_iast hx hb hB hP hD hS 7 xM_c7 h.1 xM_f7 dX8_say_35 (fun H locs hP hD hS => ?_)
      have h := h.2
      obtain ⟨F7, eF7⟩ : ∃ f : xw_F, f = xw_up F 7 (upd (F 7) (I 3).toNatClampNeg x1) := ⟨_, rfl⟩
      rw [← eF7] at hP hD
      have h := h F7 eF7
      refine lv_aload_n hx hb dX8_say_36 rfl (lv_at hl 0 rfl) ?_
      refine lv_dup hx hb dX8_say_37 rfl ?_
      refine va_get (D := D) (ci := 8) (v := .int (I 3)) (C := RX8) (T := TX8) (N := 22) hx hb hts mX8_say_inX8 hown hB.1 hP 0 xM_c0 rfl 9 (by decide) (hts _ mX8_say_1) (fun _ h9 => h9) rfl dX8_say_38 ?_
      refine lv_iconst (v := 1) hx hb dX8_say_41 (by decide) ?_
      refine lv_iadd hx hb dX8_say_42 ?_
      refine xw_put (D := D) (ci := 8) (v := .int ((I 3) + (1 : Int32))) (ty := .int) (C := RX8) (T := TX8) (N := 22) hx hb hts mX8_say_inX8 tyX8 tyX8_ok nmX8 hown hB hP hD hS 0 xM_c0 rfl 9 (by decide) (hts _ mX8_say_1) (fun _ h9 => h9) rfl (by decide +kernel) rfl rfl (Nat.le_of_ble_eq_true rfl) xM_i3 dX8_say_43 (fun H locs hP hD hS => ?_)
      obtain ⟨I8, eI8⟩ : ∃ f : xw_I, f = xw_up I 3 ((I 3) + (1 : Int32)) := ⟨_, rfl⟩
      rw [← eI8] at hP hD
      have h := h I8 eI8
      refine lv_aload_n hx hb dX8_say_46 rfl (lv_at hl 0 rfl) ?_
      refine va_get (D := D) (ci := 8) (v := .int (I8 3)) (C := RX8) (T := TX8) (N := 22) hx hb hts mX8_say_inX8 hown hB.1 hP 0 xM_c0 rfl 9 (by decide) (hts _ mX8_say_1) (fun _ h9 => h9) rfl dX8_say_47 ?_
      exact xw_wreti hx hb hr hlocks hP hD hS h dX8_say_50
    · have h := h.2 c6
      refine lv_bipush (v := -4) hx hb dX8_say_23 (by decide) ?_
      exact xw_wreti hx hb hr hlocks hP hD hS h dX8_say_25
  · have h := h.2 c5
    refine lv_bipush (v := -2) hx hb dX8_say_11 (by decide) ?_
    exact xw_wreti hx hb hr hlocks hP hD hS h dX8_say_13

theorem mX8_wipe_1 : Cond.fieldLink RX8 61 "TagCarrierModel" "signs" "I" ∈ wsX8_wipe := List.mem_of_getElem? (i := 1) rfl
theorem mX8_wipe_inX8 : ∀ w ∈ u_ws RX8 TX8 22, w ∈ wsX8_wipe := by decide +kernel
set_option maxHeartbeats 4000000 in
set_option maxRecDepth 100000 in
theorem c_X8_wipe (l : Launch) (D : va_G) (cy : Nat → ClassId) (a : Nat → Nat) (I : xw_I) (F : xw_F) (G : xw_G) (post : Int32 → xw_I → xw_F → xw_G → Prop) (h : sm_X8_wipe I F G post) : xw_Wi l yX8_wipe wsX8_wipe ({ frames := 0, cells := 0, slots := 0, locals := 0 }) D cy [.ref (a 0)] (xM_w cy a I F G) (xM_w cy a) post := by
  intro A
  refine Met.ofW (cc := cX8_wipe) (maxL := 2) (ret := (some .int)) (by decide) rfl ?_
  intro p e s m args below meth c s₁ B hml hv
  obtain ⟨rfl, hP, hB, hD⟩ := hv
  have hP : va_P D vwCl (xM_w cy a I F G) s.heap := hP
  have hx := B.exec
  have hb := B.bytes
  have hr := B.returns
  have hts := atoms_spec (ws := wsX8_wipe) B.pre
  have hown : s.vm.findClass RX8 = some m.cls := findClass_of_methodNamed B.named
  have hlocks := B.notSynchronized
  have hS : va_S A s.heap s.heap [] := va_S.rf
  refine xw_go (fun WW hWW => ?_)
  have hl := lv_entry ([.ref (a 0)]) (n := 2) (Nat.le_of_ble_eq_true rfl)
  rw [lg_entry_eq]
  generalize (lg_sl ([.ref (a 0)]) ++ List.replicate (2 - (lg_sl ([.ref (a 0)])).length) Slot.unset).toArray = ls at hl ⊢
  have hl : lv_has ls 2 [(0, .ref (a 0))] := hl
  unfold sm_X8_wipe at h
  refine lv_aload_n hx hb dX8_wipe_0 rfl (lv_at hl 0 rfl) ?_
  refine va_get (D := D) (ci := 8) (v := .int (I 3)) (C := RX8) (T := TX8) (N := 22) hx hb hts mX8_wipe_inX8 hown hB.1 hP 0 xM_c0 rfl 9 (by decide) (hts _ mX8_wipe_1) (fun _ h9 => h9) rfl dX8_wipe_1 ?_
  refine lv_topi (fun v2 ev2 => ?_)
  have h := h v2 ev2
  refine lv_istore_n (lv' := [(1, .int v2), (0, .ref (a 0))]) hx hb dX8_wipe_4 rfl hl (by decide) rfl (fun ls hl => ?_)
  refine lv_aload_n hx hb dX8_wipe_5 rfl (lv_at hl 1 rfl) ?_
  refine lv_iconst (v := 0) hx hb dX8_wipe_6 (by decide) ?_
  refine xw_put (D := D) (ci := 8) (v := .int (0 : Int32)) (ty := .int) (C := RX8) (T := TX8) (N := 22) hx hb hts mX8_wipe_inX8 tyX8 tyX8_ok nmX8 hown hB hP hD hS 0 xM_c0 rfl 9 (by decide) (hts _ mX8_wipe_1) (fun _ h9 => h9) rfl (by decide +kernel) rfl rfl (Nat.le_of_ble_eq_true rfl) xM_i3 dX8_wipe_7 (fun H locs hP hD hS => ?_)
  obtain ⟨I3, eI3⟩ : ∃ f : xw_I, f = xw_up I 3 (0 : Int32) := ⟨_, rfl⟩
  rw [← eI3] at hP hD
  have h := h I3 eI3
  refine lv_iload_n hx hb dX8_wipe_10 rfl (lv_at hl 0 rfl) ?_
  exact xw_wreti hx hb hr hlocks hP hD hS h dX8_wipe_11

theorem mX8_faultOf_1 : Cond.fieldLink RX8 61 "TagCarrierModel" "signs" "I" ∈ wsX8_faultOf := List.mem_of_getElem? (i := 1) rfl
theorem mX8_faultOf_inX8 : ∀ w ∈ u_ws RX8 TX8 22, w ∈ wsX8_faultOf := by decide +kernel
theorem mX8_faultOf_2 : Cond.fieldLink RX8 28 "TagCarrierModel" "pad" "[I" ∈ wsX8_faultOf := List.mem_of_getElem? (i := 2) rfl
theorem mX8_faultOf_3 : Cond.fieldLink RX8 31 "TagCarrierModel" "pile" "[I" ∈ wsX8_faultOf := List.mem_of_getElem? (i := 3) rfl
set_option maxHeartbeats 4000000 in
set_option maxRecDepth 100000 in
theorem c_X8_faultOf (l : Launch) (D : va_G) (cy : Nat → ClassId) (a : Nat → Nat) (I : xw_I) (F : xw_F) (G : xw_G) (post : Int32 → xw_I → xw_F → xw_G → Prop) (h : sm_X8_faultOf I F G post) : xw_Wi l yX8_faultOf wsX8_faultOf ({ frames := 1, cells := 0, slots := 0, locals := 22 }) D cy [.ref (a 0)] (xM_w cy a I F G) (xM_w cy a) post := by
  intro A
  refine Met.ofW (cc := cX8_faultOf) (maxL := 7) (ret := (some .int)) (by decide) rfl ?_
  intro p e s m args below meth c s₁ B hml hv
  obtain ⟨rfl, hP, hB, hD⟩ := hv
  have hP : va_P D vwCl (xM_w cy a I F G) s.heap := hP
  have hx := B.exec
  have hb := B.bytes
  have hr := B.returns
  have hts := atoms_spec (ws := wsX8_faultOf) B.pre
  have hown : s.vm.findClass RX8 = some m.cls := findClass_of_methodNamed B.named
  have hlocks := B.notSynchronized
  have hS : va_S A s.heap s.heap [] := va_S.rf
  refine xw_go (fun WW hWW => ?_)
  have hl := lv_entry ([.ref (a 0)]) (n := 7) (Nat.le_of_ble_eq_true rfl)
  rw [lg_entry_eq]
  generalize (lg_sl ([.ref (a 0)]) ++ List.replicate (7 - (lg_sl ([.ref (a 0)])).length) Slot.unset).toArray = ls at hl ⊢
  have hl : lv_has ls 7 [(0, .ref (a 0))] := hl
  obtain ⟨k12, mk12, el12⟩ : ∃ K : Int32 → Int32 → Int32 → Int32 → Int32 → xw_I → xw_F → xw_G → Prop, (∀ (y1 : Int32) (y2 : Int32) (y3 : Int32) (y4 : Int32) (y5 : Int32) (I : xw_I) (F : xw_F) (G : xw_G), (∀ (H : Heap) (locs : List Loc) (ls : Array Slot), va_P D vwCl (xM_w cy a I F G) H → va_D A (xM_w cy a I F G) → va_S A s.heap H locs → lv_has ls 7 [(0, .ref (a 0)), (1, .int y1), (2, .int y2), (3, .int y3), (4, .int y4), (5, .int y5)] → WW H locs (F0 m 12 ls [])) → K y1 y2 y3 y4 y5 I F G) ∧ (∀ (y1 : Int32) (y2 : Int32) (y3 : Int32) (y4 : Int32) (y5 : Int32) (I : xw_I) (F : xw_F) (G : xw_G), K y1 y2 y3 y4 y5 I F G → (∀ (H : Heap) (locs : List Loc) (ls : Array Slot), va_P D vwCl (xM_w cy a I F G) H → va_D A (xM_w cy a I F G) → va_S A s.heap H locs → lv_has ls 7 [(0, .ref (a 0)), (1, .int y1), (2, .int y2), (3, .int y3), (4, .int y4), (5, .int y5)] → WW H locs (F0 m 12 ls []))) := ⟨fun (y1 : Int32) (y2 : Int32) (y3 : Int32) (y4 : Int32) (y5 : Int32) (I : xw_I) (F : xw_F) (G : xw_G) => (∀ (H : Heap) (locs : List Loc) (ls : Array Slot), va_P D vwCl (xM_w cy a I F G) H → va_D A (xM_w cy a I F G) → va_S A s.heap H locs → lv_has ls 7 [(0, .ref (a 0)), (1, .int y1), (2, .int y2), (3, .int y3), (4, .int y4), (5, .int y5)] → WW H locs (F0 m 12 ls [])), fun _ _ _ _ _ _ _ _ h => h, fun _ _ _ _ _ _ _ _ h => h⟩
  have rl12 : ∀ (y1 : Int32) (y2 : Int32) (y3 : Int32) (y4 : Int32) (y5 : Int32) (I : xw_I) (F : xw_F) (G : xw_G), (bd_X8_faultOf_12 post k12 y1 y2 y3 y4 y5 I F G) → k12 y1 y2 y3 y4 y5 I F G := by
    intro y1 y2 y3 y4 y5 I F G h
    refine mk12 _ _ _ _ _ _ _ _ ?_
    intro H locs ls hP hD hS hl
    refine (hWW _ _ _).mpr ?_
    unfold bd_X8_faultOf_12 at h
    refine lv_iload hx hb dX8_faultOf_12 (lv_at hl 5 rfl) ?_
    refine lv_aload_n hx hb dX8_faultOf_14 rfl (lv_at hl 0 rfl) ?_
    refine va_get (D := D) (ci := 8) (v := .int (I 3)) (C := RX8) (T := TX8) (N := 22) hx hb hts mX8_faultOf_inX8 hown hB.1 hP 0 xM_c0 rfl 9 (by decide) (hts _ mX8_faultOf_1) (fun _ h9 => h9) rfl dX8_faultOf_15 ?_
    refine lv_icmp_ge (tgt := 201) hx hb dX8_faultOf_18 (by decide) (fun c24 => ?_) (fun c24 => ?_)
    · have h := h.1 c24
      refine lv_iload hx hb dX8_faultOf_201 (lv_at hl 4 rfl) ?_
      refine lv_if_le (tgt := 213) hx hb dX8_faultOf_203 (by decide) (fun c25 => ?_) (fun c25 => ?_)
      · have h := h.1 c25
        refine lv_bipush (v := -6) hx hb dX8_faultOf_213 (by decide) ?_
        exact xw_wreti hx hb hr hlocks hP hD hS h dX8_faultOf_215
      · have h := h.2 c25
        refine lv_aload_n hx hb dX8_faultOf_206 rfl (lv_at hl 0 rfl) ?_
        refine va_get (D := D) (ci := 8) (v := .int (I 3)) (C := RX8) (T := TX8) (N := 22) hx hb hts mX8_faultOf_inX8 hown hB.1 hP 0 xM_c0 rfl 9 (by decide) (hts _ mX8_faultOf_1) (fun _ h9 => h9) rfl dX8_faultOf_207 ?_
        refine lv_goto (tgt := 215) hx hb dX8_faultOf_210 (by decide) ?_
        exact xw_wreti hx hb hr hlocks hP hD hS h dX8_faultOf_215
    · have h := h.2 c24
      refine lv_aload_n hx hb dX8_faultOf_21 rfl (lv_at hl 0 rfl) ?_
      refine va_get (D := D) (ci := 8) (v := .ref (a 7)) (C := RX8) (T := TX8) (N := 22) hx hb hts mX8_faultOf_inX8 hown hB.1 hP 0 xM_c0 rfl 10 (by decide) (hts _ mX8_faultOf_2) (fun _ h9 => h9) rfl dX8_faultOf_22 ?_
      refine lv_iload hx hb dX8_faultOf_25 (lv_at hl 5 rfl) ?_
      refine xw_iald hx hb hB hP 7 xM_c7 h.1 dX8_faultOf_27 (fun v26 ev26 => ?_)
      have h := h.2 v26 ev26
      refine lv_istore (lv' := [(6, .int v26), (0, .ref (a 0)), (1, .int y1), (2, .int y2), (3, .int y3), (4, .int y4), (5, .int y5)]) hx hb dX8_faultOf_28 hl (by decide) rfl (fun ls hl => ?_)
      refine lv_iload hx hb dX8_faultOf_30 (lv_at hl 0 rfl) ?_
      refine lv_bipush (v := 46) hx hb dX8_faultOf_32 (by decide) ?_
      refine lv_icmp_ne (tgt := 52) hx hb dX8_faultOf_34 (by decide) (fun c27 => ?_) (fun c27 => ?_)
      · have h := h.1 c27
        refine lv_iload hx hb dX8_faultOf_52 (lv_at hl 0 rfl) ?_
        refine lv_bipush (v := 65) hx hb dX8_faultOf_54 (by decide) ?_
        refine lv_bipush (v := 69) hx hb dX8_faultOf_56 (by decide) ?_
        refine xw_ri (va_runS (rm := { frames := 0, cells := 0, slots := 0, locals := 0 }) (As := [.int v26, .int (65 : Int32), .int (69 : Int32)]) (rest := []) ⟨hx, hb, hml, hown, hts⟩ (c_X8_in l D cy v26 (65 : Int32) (69 : Int32) _ h (fun _ => True)) (va_cwS 3 hts gX8_faultOf_X8_in rfl rfl rfl (by decide +kernel) ⟨Nat.le_of_ble_eq_true rfl, Nat.le_of_ble_eq_true rfl⟩) (xw_preS hB xw_P0 (xw_D0 (A := fun _ => True))) rfl rfl hl.1 rfl (lv_room (Nat.le_of_ble_eq_true rfl)) dX8_faultOf_58 ⟨Nat.le_of_ble_eq_true rfl, Nat.le_of_ble_eq_true rfl⟩) (fun r28 h => ?_)
        refine lv_if_eq (tgt := 108) hx hb dX8_faultOf_61 (by decide) (fun c29 => ?_) (fun c29 => ?_)
        · have h := h.1 c29
          refine lv_iload hx hb dX8_faultOf_108 (lv_at hl 0 rfl) ?_
          refine lv_bipush (v := 97) hx hb dX8_faultOf_110 (by decide) ?_
          refine lv_bipush (v := 101) hx hb dX8_faultOf_112 (by decide) ?_
          refine xw_ri (va_runS (rm := { frames := 0, cells := 0, slots := 0, locals := 0 }) (As := [.int v26, .int (97 : Int32), .int (101 : Int32)]) (rest := []) ⟨hx, hb, hml, hown, hts⟩ (c_X8_in l D cy v26 (97 : Int32) (101 : Int32) _ h (fun _ => True)) (va_cwS 3 hts gX8_faultOf_X8_in rfl rfl rfl (by decide +kernel) ⟨Nat.le_of_ble_eq_true rfl, Nat.le_of_ble_eq_true rfl⟩) (xw_preS hB xw_P0 (xw_D0 (A := fun _ => True))) rfl rfl hl.1 rfl (lv_room (Nat.le_of_ble_eq_true rfl)) dX8_faultOf_114 ⟨Nat.le_of_ble_eq_true rfl, Nat.le_of_ble_eq_true rfl⟩) (fun r30 h => ?_)
          refine lv_if_eq (tgt := 151) hx hb dX8_faultOf_117 (by decide) (fun c31 => ?_) (fun c31 => ?_)
          · have h := h.1 c31
            refine lv_iload hx hb dX8_faultOf_151 (lv_at hl 0 rfl) ?_
            refine lv_bipush (v := 120) hx hb dX8_faultOf_153 (by decide) ?_
            refine lv_bipush (v := 122) hx hb dX8_faultOf_155 (by decide) ?_
            refine xw_ri (va_runS (rm := { frames := 0, cells := 0, slots := 0, locals := 0 }) (As := [.int v26, .int (120 : Int32), .int (122 : Int32)]) (rest := []) ⟨hx, hb, hml, hown, hts⟩ (c_X8_in l D cy v26 (120 : Int32) (122 : Int32) _ h (fun _ => True)) (va_cwS 3 hts gX8_faultOf_X8_in rfl rfl rfl (by decide +kernel) ⟨Nat.le_of_ble_eq_true rfl, Nat.le_of_ble_eq_true rfl⟩) (xw_preS hB xw_P0 (xw_D0 (A := fun _ => True))) rfl rfl hl.1 rfl (lv_room (Nat.le_of_ble_eq_true rfl)) dX8_faultOf_157 ⟨Nat.le_of_ble_eq_true rfl, Nat.le_of_ble_eq_true rfl⟩) (fun r32 h => ?_)
            refine lv_if_eq (tgt := 192) hx hb dX8_faultOf_160 (by decide) (fun c33 => ?_) (fun c33 => ?_)
            · have h := h.1 c33
              refine lv_iload hx hb dX8_faultOf_192 (lv_at hl 6 rfl) ?_
              exact xw_wreti hx hb hr hlocks hP hD hS h dX8_faultOf_194
            · have h := h.2 c33
              refine lv_iload_n hx hb dX8_faultOf_163 rfl (lv_at hl 4 rfl) ?_
              refine lv_iload hx hb dX8_faultOf_164 (lv_at hl 0 rfl) ?_
              refine lv_bipush (v := 120) hx hb dX8_faultOf_166 (by decide) ?_
              refine lv_isub hx hb dX8_faultOf_168 ?_
              refine lv_ishr hx hb dX8_faultOf_169 ?_
              refine lv_iconst (v := 1) hx hb dX8_faultOf_170 (by decide) ?_
              refine lv_iand hx hb dX8_faultOf_171 ?_
              refine lv_iconst (v := 1) hx hb dX8_faultOf_172 (by decide) ?_
              refine lv_icmp_ne (tgt := 179) hx hb dX8_faultOf_173 (by decide) (fun c34 => ?_) (fun c34 => ?_)
              · have h := h.1 c34
                refine lv_iload_n hx hb dX8_faultOf_179 rfl (lv_at hl 4 rfl) ?_
                refine lv_iconst (v := 1) hx hb dX8_faultOf_180 (by decide) ?_
                refine lv_iload hx hb dX8_faultOf_181 (lv_at hl 0 rfl) ?_
                refine lv_bipush (v := 120) hx hb dX8_faultOf_183 (by decide) ?_
                refine lv_isub hx hb dX8_faultOf_185 ?_
                refine lv_ishl hx hb dX8_faultOf_186 ?_
                refine lv_ior hx hb dX8_faultOf_187 ?_
                refine lv_topi (fun v35 ev35 => ?_)
                have h := h v35 ev35
                refine lv_istore_n (lv' := [(3, .int v35), (6, .int v26), (0, .ref (a 0)), (1, .int y1), (2, .int y2), (4, .int y4), (5, .int y5)]) hx hb dX8_faultOf_188 rfl hl (by decide) rfl (fun ls hl => ?_)
                refine lv_goto (tgt := 195) hx hb dX8_faultOf_189 (by decide) ?_
                obtain ⟨v36, ev36⟩ : ∃ y : Int32, y = y5 + 1 := ⟨_, rfl⟩
                have h := h v36 ev36
                refine lv_iinc (v := v36) (lv' := [(5, .int v36), (3, .int v35), (6, .int v26), (0, .ref (a 0)), (1, .int y1), (2, .int y2), (4, .int y4)]) hx hb dX8_faultOf_195 hl (k := 6) rfl (by rw [ev36]; rfl) (by decide) rfl (fun ls hl => ?_)
                refine lv_goto (tgt := 12) hx hb dX8_faultOf_198 (by decide) ?_
                exact (hWW _ _ _).mp (el12 _ _ _ _ _ _ _ _ h _ _ ls hP hD hS (lv_sub hl [3, 4, 5, 1, 6, 0] rfl))
              · have h := h.2 c34
                refine lv_iload hx hb dX8_faultOf_176 (lv_at hl 6 rfl) ?_
                exact xw_wreti hx hb hr hlocks hP hD hS h dX8_faultOf_178
          · have h := h.2 c31
            refine lv_iload hx hb dX8_faultOf_120 (lv_at hl 5 rfl) ?_
            refine lv_if_eq (tgt := 142) hx hb dX8_faultOf_122 (by decide) (fun c37 => ?_) (fun c37 => ?_)
            · have h := h.1 c37
              refine lv_iload hx hb dX8_faultOf_142 (lv_at hl 6 rfl) ?_
              exact xw_wreti hx hb hr hlocks hP hD hS h dX8_faultOf_144
            · have h := h.2 c37
              refine lv_aload_n hx hb dX8_faultOf_125 rfl (lv_at hl 1 rfl) ?_
              refine va_get (D := D) (ci := 8) (v := .ref (a 8)) (C := RX8) (T := TX8) (N := 22) hx hb hts mX8_faultOf_inX8 hown hB.1 hP 0 xM_c0 rfl 11 (by decide) (hts _ mX8_faultOf_3) (fun _ h9 => h9) rfl dX8_faultOf_126 ?_
              refine lv_iload hx hb dX8_faultOf_129 (lv_at hl 5 rfl) ?_
              refine lv_iconst (v := 1) hx hb dX8_faultOf_131 (by decide) ?_
              refine lv_isub hx hb dX8_faultOf_132 ?_
              refine xw_iald hx hb hB hP 8 xM_c8 h.1 dX8_faultOf_133 (fun v38 ev38 => ?_)
              have h := h.2 v38 ev38
              refine lv_iload hx hb dX8_faultOf_134 (lv_at hl 0 rfl) ?_
              refine lv_bipush (v := 97) hx hb dX8_faultOf_136 (by decide) ?_
              refine lv_isub hx hb dX8_faultOf_138 ?_
              refine lv_icmp_eq (tgt := 145) hx hb dX8_faultOf_139 (by decide) (fun c39 => ?_) (fun c39 => ?_)
              · have h := h.1 c39
                obtain ⟨v40, ev40⟩ : ∃ y : Int32, y = y4 + (-1) := ⟨_, rfl⟩
                have h := h v40 ev40
                refine lv_iinc (v := v40) (lv' := [(4, .int v40), (6, .int v26), (0, .ref (a 0)), (1, .int y1), (2, .int y2), (3, .int y3), (5, .int y5)]) hx hb dX8_faultOf_145 hl (k := 5) rfl (by rw [ev40]; rfl) (by decide) rfl (fun ls hl => ?_)
                refine lv_goto (tgt := 195) hx hb dX8_faultOf_148 (by decide) ?_
                obtain ⟨v41, ev41⟩ : ∃ y : Int32, y = y5 + 1 := ⟨_, rfl⟩
                have h := h v41 ev41
                refine lv_iinc (v := v41) (lv' := [(5, .int v41), (4, .int v40), (6, .int v26), (0, .ref (a 0)), (1, .int y1), (2, .int y2), (3, .int y3)]) hx hb dX8_faultOf_195 hl (k := 6) rfl (by rw [ev41]; rfl) (by decide) rfl (fun ls hl => ?_)
                refine lv_goto (tgt := 12) hx hb dX8_faultOf_198 (by decide) ?_
                exact (hWW _ _ _).mp (el12 _ _ _ _ _ _ _ _ h _ _ ls hP hD hS (lv_sub hl [3, 4, 5, 6, 1, 0] rfl))
              · have h := h.2 c39
                refine lv_iload hx hb dX8_faultOf_142 (lv_at hl 6 rfl) ?_
                exact xw_wreti hx hb hr hlocks hP hD hS h dX8_faultOf_144
        · have h := h.2 c29
          refine lv_iload_n hx hb dX8_faultOf_64 rfl (lv_at hl 3 rfl) ?_
          refine lv_iload hx hb dX8_faultOf_65 (lv_at hl 0 rfl) ?_
          refine lv_bipush (v := 65) hx hb dX8_faultOf_67 (by decide) ?_
          refine lv_isub hx hb dX8_faultOf_69 ?_
          refine lv_ishr hx hb dX8_faultOf_70 ?_
          refine lv_iconst (v := 1) hx hb dX8_faultOf_71 (by decide) ?_
          refine lv_iand hx hb dX8_faultOf_72 ?_
          refine lv_iconst (v := 1) hx hb dX8_faultOf_73 (by decide) ?_
          refine lv_icmp_ne (tgt := 80) hx hb dX8_faultOf_74 (by decide) (fun c42 => ?_) (fun c42 => ?_)
          · have h := h.1 c42
            refine lv_iload_n hx hb dX8_faultOf_80 rfl (lv_at hl 3 rfl) ?_
            refine lv_iconst (v := 1) hx hb dX8_faultOf_81 (by decide) ?_
            refine lv_iload hx hb dX8_faultOf_82 (lv_at hl 0 rfl) ?_
            refine lv_bipush (v := 65) hx hb dX8_faultOf_84 (by decide) ?_
            refine lv_isub hx hb dX8_faultOf_86 ?_
            refine lv_ishl hx hb dX8_faultOf_87 ?_
            refine lv_ior hx hb dX8_faultOf_88 ?_
            refine lv_topi (fun v43 ev43 => ?_)
            have h := h v43 ev43
            refine lv_istore_n (lv' := [(2, .int v43), (6, .int v26), (0, .ref (a 0)), (1, .int y1), (3, .int y3), (4, .int y4), (5, .int y5)]) hx hb dX8_faultOf_89 rfl hl (by decide) rfl (fun ls hl => ?_)
            refine lv_aload_n hx hb dX8_faultOf_90 rfl (lv_at hl 2 rfl) ?_
            refine va_get (D := D) (ci := 8) (v := .ref (a 8)) (C := RX8) (T := TX8) (N := 22) hx hb hts mX8_faultOf_inX8 hown hB.1 hP 0 xM_c0 rfl 11 (by decide) (hts _ mX8_faultOf_3) (fun _ h9 => h9) rfl dX8_faultOf_91 ?_
            refine lv_iload hx hb dX8_faultOf_94 (lv_at hl 5 rfl) ?_
            refine lv_iload hx hb dX8_faultOf_96 (lv_at hl 1 rfl) ?_
            refine lv_bipush (v := 65) hx hb dX8_faultOf_98 (by decide) ?_
            refine lv_isub hx hb dX8_faultOf_100 ?_
            refine xw_iast hx hb hB hP hD hS 8 xM_c8 h.1 xM_f8 dX8_faultOf_101 (fun H locs hP hD hS => ?_)
            have h := h.2
            obtain ⟨F44, eF44⟩ : ∃ f : xw_F, f = xw_up F 8 (upd (F 8) y4.toNatClampNeg (v26 - (65 : Int32))) := ⟨_, rfl⟩
            rw [← eF44] at hP hD
            have h := h F44 eF44
            obtain ⟨v45, ev45⟩ : ∃ y : Int32, y = y4 + 1 := ⟨_, rfl⟩
            have h := h v45 ev45
            refine lv_iinc (v := v45) (lv' := [(4, .int v45), (2, .int v43), (6, .int v26), (0, .ref (a 0)), (1, .int y1), (3, .int y3), (5, .int y5)]) hx hb dX8_faultOf_102 hl (k := 5) rfl (by rw [ev45]; rfl) (by decide) rfl (fun ls hl => ?_)
            refine lv_goto (tgt := 195) hx hb dX8_faultOf_105 (by decide) ?_
            obtain ⟨v46, ev46⟩ : ∃ y : Int32, y = y5 + 1 := ⟨_, rfl⟩
            have h := h v46 ev46
            refine lv_iinc (v := v46) (lv' := [(5, .int v46), (4, .int v45), (2, .int v43), (6, .int v26), (0, .ref (a 0)), (1, .int y1), (3, .int y3)]) hx hb dX8_faultOf_195 hl (k := 6) rfl (by rw [ev46]; rfl) (by decide) rfl (fun ls hl => ?_)
            refine lv_goto (tgt := 12) hx hb dX8_faultOf_198 (by decide) ?_
            exact (hWW _ _ _).mp (el12 _ _ _ _ _ _ _ _ h _ _ ls hP hD hS (lv_sub hl [4, 5, 2, 6, 1, 0] rfl))
          · have h := h.2 c42
            refine lv_iload hx hb dX8_faultOf_77 (lv_at hl 6 rfl) ?_
            exact xw_wreti hx hb hr hlocks hP hD hS h dX8_faultOf_79
      · have h := h.2 c27
        refine lv_iload_n hx hb dX8_faultOf_37 rfl (lv_at hl 2 rfl) ?_
        refine lv_bipush (v := 12) hx hb dX8_faultOf_38 (by decide) ?_
        refine lv_icmp_ne (tgt := 46) hx hb dX8_faultOf_40 (by decide) (fun c47 => ?_) (fun c47 => ?_)
        · have h := h.1 c47
          obtain ⟨v48, ev48⟩ : ∃ y : Int32, y = y1 + 1 := ⟨_, rfl⟩
          have h := h v48 ev48
          refine lv_iinc (v := v48) (lv' := [(1, .int v48), (6, .int v26), (0, .ref (a 0)), (2, .int y2), (3, .int y3), (4, .int y4), (5, .int y5)]) hx hb dX8_faultOf_46 hl (k := 2) rfl (by rw [ev48]; rfl) (by decide) rfl (fun ls hl => ?_)
          refine lv_goto (tgt := 195) hx hb dX8_faultOf_49 (by decide) ?_
          obtain ⟨v49, ev49⟩ : ∃ y : Int32, y = y5 + 1 := ⟨_, rfl⟩
          have h := h v49 ev49
          refine lv_iinc (v := v49) (lv' := [(5, .int v49), (1, .int v48), (6, .int v26), (0, .ref (a 0)), (2, .int y2), (3, .int y3), (4, .int y4)]) hx hb dX8_faultOf_195 hl (k := 6) rfl (by rw [ev49]; rfl) (by decide) rfl (fun ls hl => ?_)
          refine lv_goto (tgt := 12) hx hb dX8_faultOf_198 (by decide) ?_
          exact (hWW _ _ _).mp (el12 _ _ _ _ _ _ _ _ h _ _ ls hP hD hS (lv_sub hl [3, 1, 4, 5, 6, 0] rfl))
        · have h := h.2 c47
          refine lv_iload hx hb dX8_faultOf_43 (lv_at hl 6 rfl) ?_
          exact xw_wreti hx hb hr hlocks hP hD hS h dX8_faultOf_45
  have h := h k12 rl12
  unfold bd_X8_faultOf_0 at h
  refine lv_iconst (v := 0) hx hb dX8_faultOf_0 (by decide) ?_
  refine lv_istore_n (lv' := [(1, .int (0 : Int32)), (0, .ref (a 0))]) hx hb dX8_faultOf_1 rfl hl (by decide) rfl (fun ls hl => ?_)
  refine lv_iconst (v := 0) hx hb dX8_faultOf_2 (by decide) ?_
  refine lv_istore_n (lv' := [(2, .int (0 : Int32)), (1, .int (0 : Int32)), (0, .ref (a 0))]) hx hb dX8_faultOf_3 rfl hl (by decide) rfl (fun ls hl => ?_)
  refine lv_iconst (v := 0) hx hb dX8_faultOf_4 (by decide) ?_
  refine lv_istore_n (lv' := [(3, .int (0 : Int32)), (2, .int (0 : Int32)), (1, .int (0 : Int32)), (0, .ref (a 0))]) hx hb dX8_faultOf_5 rfl hl (by decide) rfl (fun ls hl => ?_)
  refine lv_iconst (v := 0) hx hb dX8_faultOf_6 (by decide) ?_
  refine lv_istore (lv' := [(4, .int (0 : Int32)), (3, .int (0 : Int32)), (2, .int (0 : Int32)), (1, .int (0 : Int32)), (0, .ref (a 0))]) hx hb dX8_faultOf_7 hl (by decide) rfl (fun ls hl => ?_)
  refine lv_iconst (v := 0) hx hb dX8_faultOf_9 (by decide) ?_
  refine lv_istore (lv' := [(5, .int (0 : Int32)), (4, .int (0 : Int32)), (3, .int (0 : Int32)), (2, .int (0 : Int32)), (1, .int (0 : Int32)), (0, .ref (a 0))]) hx hb dX8_faultOf_10 hl (by decide) rfl (fun ls hl => ?_)
  exact (hWW _ _ _).mp (el12 _ _ _ _ _ _ _ _ h _ _ ls hP hD hS (lv_sub hl [5, 4, 3, 2, 1, 0] rfl))

set_option maxHeartbeats 4000000 in
set_option maxRecDepth 100000 in
theorem c_X8_fault (l : Launch) (D : va_G) (cy : Nat → ClassId) (a : Nat → Nat) (I : xw_I) (F : xw_F) (G : xw_G) (post : Int32 → xw_I → xw_F → xw_G → Prop) (h : sm_X8_fault I F G post) : xw_Wi l yX8_fault wsX8_fault ({ frames := 2, cells := 0, slots := 0, locals := 48 }) D cy [.ref (a 0)] (xM_w cy a I F G) (xM_w cy a) post := by
  intro A
  refine Met.ofW (cc := cX8_fault) (maxL := 1) (ret := (some .int)) (by decide) rfl ?_
  intro p e s m args below meth c s₁ B hml hv
  obtain ⟨rfl, hP, hB, hD⟩ := hv
  have hP : va_P D vwCl (xM_w cy a I F G) s.heap := hP
  have hx := B.exec
  have hb := B.bytes
  have hr := B.returns
  have hts := atoms_spec (ws := wsX8_fault) B.pre
  have hown : s.vm.findClass RX8 = some m.cls := findClass_of_methodNamed B.named
  have hlocks := B.notSynchronized
  have hS : va_S A s.heap s.heap [] := va_S.rf
  refine xw_go (fun WW hWW => ?_)
  have hl := lv_entry ([.ref (a 0)]) (n := 1) (Nat.le_of_ble_eq_true rfl)
  rw [lg_entry_eq]
  generalize (lg_sl ([.ref (a 0)]) ++ List.replicate (1 - (lg_sl ([.ref (a 0)])).length) Slot.unset).toArray = ls at hl ⊢
  have hl : lv_has ls 1 [(0, .ref (a 0))] := hl
  unfold sm_X8_fault at h
  refine lv_aload_n hx hb dX8_fault_0 rfl (lv_at hl 0 rfl) ?_
  refine xw_wi (va_runV (rm := { frames := 1, cells := 0, slots := 0, locals := 22 }) (As := []) (rest := []) ⟨hx, hb, hml, hown, hts⟩ (c_X8_faultOf l D cy a I F G _ h A) (cwV 0 hts gX8_fault_X8_faultOf rfl rfl rfl (by decide +kernel) ⟨Nat.le_of_ble_eq_true rfl, Nat.le_of_ble_eq_true rfl⟩) (xw_preV hB hP hD (ci := 8) rfl xM_c0) rfl rfl hl.1 rfl (lv_room (Nat.le_of_ble_eq_true rfl)) dX8_fault_1 ⟨Nat.le_of_ble_eq_true rfl, Nat.le_of_ble_eq_true rfl⟩) hS (fun r1 I1 F1 G1 H locs h hP hD hS => ?_)
  exact xw_wreti hx hb hr hlocks hP hD hS h dX8_fault_4

theorem mX8_unlink_1 : Cond.fieldLink RX8 25 "TagCarrierModel" "links" "[I" ∈ wsX8_unlink := List.mem_of_getElem? (i := 1) rfl
theorem mX8_unlink_inX8 : ∀ w ∈ u_ws RX8 TX8 22, w ∈ wsX8_unlink := by decide +kernel
set_option maxHeartbeats 4000000 in
set_option maxRecDepth 100000 in
theorem c_X8_unlink (l : Launch) (D : va_G) (cy : Nat → ClassId) (a : Nat → Nat) (I : xw_I) (F : xw_F) (G : xw_G) (post : xw_I → xw_F → xw_G → Prop) (h : sm_X8_unlink I F G post) : xw_Wv l yX8_unlink wsX8_unlink ({ frames := 0, cells := 0, slots := 0, locals := 0 }) D cy [.ref (a 0)] (xM_w cy a I F G) (xM_w cy a) post := by
  intro A
  refine Met.ofW (cc := cX8_unlink) (maxL := 2) (ret := none) (by decide) rfl ?_
  intro p e s m args below meth c s₁ B hml hv
  obtain ⟨rfl, hP, hB, hD⟩ := hv
  have hP : va_P D vwCl (xM_w cy a I F G) s.heap := hP
  have hx := B.exec
  have hb := B.bytes
  have hr := B.returns
  have hts := atoms_spec (ws := wsX8_unlink) B.pre
  have hown : s.vm.findClass RX8 = some m.cls := findClass_of_methodNamed B.named
  have hlocks := B.notSynchronized
  have hS : va_S A s.heap s.heap [] := va_S.rf
  refine xw_go (fun WW hWW => ?_)
  have hl := lv_entry ([.ref (a 0)]) (n := 2) (Nat.le_of_ble_eq_true rfl)
  rw [lg_entry_eq]
  generalize (lg_sl ([.ref (a 0)]) ++ List.replicate (2 - (lg_sl ([.ref (a 0)])).length) Slot.unset).toArray = ls at hl ⊢
  have hl : lv_has ls 2 [(0, .ref (a 0))] := hl
  obtain ⟨k2, mk2, el2⟩ : ∃ K : Int32 → xw_I → xw_F → xw_G → Prop, (∀ (y1 : Int32) (I : xw_I) (F : xw_F) (G : xw_G), (∀ (H : Heap) (locs : List Loc) (ls : Array Slot), va_P D vwCl (xM_w cy a I F G) H → va_D A (xM_w cy a I F G) → va_S A s.heap H locs → lv_has ls 2 [(0, .ref (a 0)), (1, .int y1)] → WW H locs (F0 m 2 ls [])) → K y1 I F G) ∧ (∀ (y1 : Int32) (I : xw_I) (F : xw_F) (G : xw_G), K y1 I F G → (∀ (H : Heap) (locs : List Loc) (ls : Array Slot), va_P D vwCl (xM_w cy a I F G) H → va_D A (xM_w cy a I F G) → va_S A s.heap H locs → lv_has ls 2 [(0, .ref (a 0)), (1, .int y1)] → WW H locs (F0 m 2 ls []))) := ⟨fun (y1 : Int32) (I : xw_I) (F : xw_F) (G : xw_G) => (∀ (H : Heap) (locs : List Loc) (ls : Array Slot), va_P D vwCl (xM_w cy a I F G) H → va_D A (xM_w cy a I F G) → va_S A s.heap H locs → lv_has ls 2 [(0, .ref (a 0)), (1, .int y1)] → WW H locs (F0 m 2 ls [])), fun _ _ _ _ h => h, fun _ _ _ _ h => h⟩
  have rl2 : ∀ (y1 : Int32) (I : xw_I) (F : xw_F) (G : xw_G), (bd_X8_unlink_2 post k2 y1 I F G) → k2 y1 I F G := by
    intro y1 I F G h
    refine mk2 _ _ _ _ ?_
    intro H locs ls hP hD hS hl
    refine (hWW _ _ _).mpr ?_
    unfold bd_X8_unlink_2 at h
    refine lv_iload_n hx hb dX8_unlink_2 rfl (lv_at hl 1 rfl) ?_
    refine lv_bipush (v := 12) hx hb dX8_unlink_3 (by decide) ?_
    refine lv_icmp_ge (tgt := 21) hx hb dX8_unlink_5 (by decide) (fun c4 => ?_) (fun c4 => ?_)
    · have h := h.1 c4
      exact xw_wretv hx hb hr hlocks hP hD hS h dX8_unlink_21
    · have h := h.2 c4
      refine lv_aload_n hx hb dX8_unlink_8 rfl (lv_at hl 0 rfl) ?_
      refine va_get (D := D) (ci := 8) (v := .ref (a 6)) (C := RX8) (T := TX8) (N := 22) hx hb hts mX8_unlink_inX8 hown hB.1 hP 0 xM_c0 rfl 8 (by decide) (hts _ mX8_unlink_1) (fun _ h9 => h9) rfl dX8_unlink_9 ?_
      refine lv_iload_n hx hb dX8_unlink_12 rfl (lv_at hl 1 rfl) ?_
      refine lv_iconst (v := 0) hx hb dX8_unlink_13 (by decide) ?_
      refine xw_iast hx hb hB hP hD hS 6 xM_c6 h.1 xM_f6 dX8_unlink_14 (fun H locs hP hD hS => ?_)
      have h := h.2
      obtain ⟨F5, eF5⟩ : ∃ f : xw_F, f = xw_up F 6 (upd (F 6) y1.toNatClampNeg (0 : Int32)) := ⟨_, rfl⟩
      rw [← eF5] at hP hD
      have h := h F5 eF5
      obtain ⟨v6, ev6⟩ : ∃ y : Int32, y = y1 + 1 := ⟨_, rfl⟩
      have h := h v6 ev6
      refine lv_iinc (v := v6) (lv' := [(1, .int v6), (0, .ref (a 0))]) hx hb dX8_unlink_15 hl (k := 1) rfl (by rw [ev6]; rfl) (by decide) rfl (fun ls hl => ?_)
      refine lv_goto (tgt := 2) hx hb dX8_unlink_18 (by decide) ?_
      exact (hWW _ _ _).mp (el2 _ _ _ _ h _ _ ls hP hD hS (lv_sub hl [1, 0] rfl))
  have h := h k2 rl2
  unfold bd_X8_unlink_0 at h
  refine lv_iconst (v := 0) hx hb dX8_unlink_0 (by decide) ?_
  refine lv_istore_n (lv' := [(1, .int (0 : Int32)), (0, .ref (a 0))]) hx hb dX8_unlink_1 rfl hl (by decide) rfl (fun ls hl => ?_)
  exact (hWW _ _ _).mp (el2 _ _ _ _ h _ _ ls hP hD hS (lv_sub hl [1, 0] rfl))

theorem mX8_load_1 : Cond.fieldLink RX8 69 "TagCarrierModel" "words" "I" ∈ wsX8_load := List.mem_of_getElem? (i := 1) rfl
theorem mX8_load_inX8 : ∀ w ∈ u_ws RX8 TX8 22, w ∈ wsX8_load := by decide +kernel
theorem mX8_load_2 : Cond.fieldLink RX8 72 "TagCarrierModel" "marks" "I" ∈ wsX8_load := List.mem_of_getElem? (i := 2) rfl
theorem mX8_load_3 : Cond.fieldLink RX8 7 "TagCarrierModel" "opens" "[I" ∈ wsX8_load := List.mem_of_getElem? (i := 3) rfl
theorem mX8_load_4 : Cond.fieldLink RX8 16 "TagCarrierModel" "holds" "[I" ∈ wsX8_load := List.mem_of_getElem? (i := 4) rfl
theorem mX8_load_5 : Cond.fieldLink RX8 19 "TagCarrierModel" "markGap" "[I" ∈ wsX8_load := List.mem_of_getElem? (i := 5) rfl
theorem mX8_load_6 : Cond.fieldLink RX8 61 "TagCarrierModel" "signs" "I" ∈ wsX8_load := List.mem_of_getElem? (i := 6) rfl
theorem mX8_load_7 : Cond.fieldLink RX8 28 "TagCarrierModel" "pad" "[I" ∈ wsX8_load := List.mem_of_getElem? (i := 7) rfl
theorem mX8_load_9 : Cond.fieldLink RX8 22 "TagCarrierModel" "order" "[I" ∈ wsX8_load := List.mem_of_getElem? (i := 9) rfl
theorem mX8_load_8 : Cond.fieldLink RX8 13 "TagCarrierModel" "closes" "[I" ∈ wsX8_load := List.mem_of_getElem? (i := 8) rfl
set_option maxHeartbeats 4000000 in
set_option maxRecDepth 100000 in
theorem c_X8_load (l : Launch) (D : va_G) (cy : Nat → ClassId) (a : Nat → Nat) (I : xw_I) (F : xw_F) (G : xw_G) (post : Int32 → xw_I → xw_F → xw_G → Prop) (h : sm_X8_load I F G post) : xw_Wi l yX8_load wsX8_load ({ frames := 2, cells := 0, slots := 0, locals := 48 }) D cy [.ref (a 0)] (xM_w cy a I F G) (xM_w cy a) post := by
  intro A
  refine Met.ofW (cc := cX8_load) (maxL := 5) (ret := (some .int)) (by decide) rfl ?_
  intro p e s m args below meth c s₁ B hml hv
  obtain ⟨rfl, hP, hB, hD⟩ := hv
  have hP : va_P D vwCl (xM_w cy a I F G) s.heap := hP
  have hx := B.exec
  have hb := B.bytes
  have hr := B.returns
  have hts := atoms_spec (ws := wsX8_load) B.pre
  have hown : s.vm.findClass RX8 = some m.cls := findClass_of_methodNamed B.named
  have hlocks := B.notSynchronized
  have hS : va_S A s.heap s.heap [] := va_S.rf
  refine xw_go (fun WW hWW => ?_)
  have hl := lv_entry ([.ref (a 0)]) (n := 5) (Nat.le_of_ble_eq_true rfl)
  rw [lg_entry_eq]
  generalize (lg_sl ([.ref (a 0)]) ++ List.replicate (5 - (lg_sl ([.ref (a 0)])).length) Slot.unset).toArray = ls at hl ⊢
  have hl : lv_has ls 5 [(0, .ref (a 0))] := hl
  obtain ⟨k22, mk22, el22⟩ : ∃ K : Int32 → xw_I → xw_F → xw_G → Prop, (∀ (y1 : Int32) (I : xw_I) (F : xw_F) (G : xw_G), (∀ (H : Heap) (locs : List Loc) (ls : Array Slot), va_P D vwCl (xM_w cy a I F G) H → va_D A (xM_w cy a I F G) → va_S A s.heap H locs → lv_has ls 5 [(0, .ref (a 0)), (1, .int y1)] → WW H locs (F0 m 22 ls [])) → K y1 I F G) ∧ (∀ (y1 : Int32) (I : xw_I) (F : xw_F) (G : xw_G), K y1 I F G → (∀ (H : Heap) (locs : List Loc) (ls : Array Slot), va_P D vwCl (xM_w cy a I F G) H → va_D A (xM_w cy a I F G) → va_S A s.heap H locs → lv_has ls 5 [(0, .ref (a 0)), (1, .int y1)] → WW H locs (F0 m 22 ls []))) := ⟨fun (y1 : Int32) (I : xw_I) (F : xw_F) (G : xw_G) => (∀ (H : Heap) (locs : List Loc) (ls : Array Slot), va_P D vwCl (xM_w cy a I F G) H → va_D A (xM_w cy a I F G) → va_S A s.heap H locs → lv_has ls 5 [(0, .ref (a 0)), (1, .int y1)] → WW H locs (F0 m 22 ls [])), fun _ _ _ _ h => h, fun _ _ _ _ h => h⟩
  obtain ⟨k50, mk50, el50⟩ : ∃ K : Int32 → xw_I → xw_F → xw_G → Prop, (∀ (y1 : Int32) (I : xw_I) (F : xw_F) (G : xw_G), (∀ (H : Heap) (locs : List Loc) (ls : Array Slot), va_P D vwCl (xM_w cy a I F G) H → va_D A (xM_w cy a I F G) → va_S A s.heap H locs → lv_has ls 5 [(0, .ref (a 0)), (1, .int y1)] → WW H locs (F0 m 50 ls [])) → K y1 I F G) ∧ (∀ (y1 : Int32) (I : xw_I) (F : xw_F) (G : xw_G), K y1 I F G → (∀ (H : Heap) (locs : List Loc) (ls : Array Slot), va_P D vwCl (xM_w cy a I F G) H → va_D A (xM_w cy a I F G) → va_S A s.heap H locs → lv_has ls 5 [(0, .ref (a 0)), (1, .int y1)] → WW H locs (F0 m 50 ls []))) := ⟨fun (y1 : Int32) (I : xw_I) (F : xw_F) (G : xw_G) => (∀ (H : Heap) (locs : List Loc) (ls : Array Slot), va_P D vwCl (xM_w cy a I F G) H → va_D A (xM_w cy a I F G) → va_S A s.heap H locs → lv_has ls 5 [(0, .ref (a 0)), (1, .int y1)] → WW H locs (F0 m 50 ls [])), fun _ _ _ _ h => h, fun _ _ _ _ h => h⟩
  obtain ⟨k73, mk73, el73⟩ : ∃ K : Int32 → Int32 → xw_I → xw_F → xw_G → Prop, (∀ (y1 : Int32) (y2 : Int32) (I : xw_I) (F : xw_F) (G : xw_G), (∀ (H : Heap) (locs : List Loc) (ls : Array Slot), va_P D vwCl (xM_w cy a I F G) H → va_D A (xM_w cy a I F G) → va_S A s.heap H locs → lv_has ls 5 [(0, .ref (a 0)), (1, .int y1), (2, .int y2)] → WW H locs (F0 m 73 ls [])) → K y1 y2 I F G) ∧ (∀ (y1 : Int32) (y2 : Int32) (I : xw_I) (F : xw_F) (G : xw_G), K y1 y2 I F G → (∀ (H : Heap) (locs : List Loc) (ls : Array Slot), va_P D vwCl (xM_w cy a I F G) H → va_D A (xM_w cy a I F G) → va_S A s.heap H locs → lv_has ls 5 [(0, .ref (a 0)), (1, .int y1), (2, .int y2)] → WW H locs (F0 m 73 ls []))) := ⟨fun (y1 : Int32) (y2 : Int32) (I : xw_I) (F : xw_F) (G : xw_G) => (∀ (H : Heap) (locs : List Loc) (ls : Array Slot), va_P D vwCl (xM_w cy a I F G) H → va_D A (xM_w cy a I F G) → va_S A s.heap H locs → lv_has ls 5 [(0, .ref (a 0)), (1, .int y1), (2, .int y2)] → WW H locs (F0 m 73 ls [])), fun _ _ _ _ _ h => h, fun _ _ _ _ _ h => h⟩
  obtain ⟨k121, mk121, el121⟩ : ∃ K : Int32 → Int32 → Int32 → Int32 → xw_I → xw_F → xw_G → Prop, (∀ (y1 : Int32) (y2 : Int32) (y3 : Int32) (y4 : Int32) (I : xw_I) (F : xw_F) (G : xw_G), (∀ (H : Heap) (locs : List Loc) (ls : Array Slot), va_P D vwCl (xM_w cy a I F G) H → va_D A (xM_w cy a I F G) → va_S A s.heap H locs → lv_has ls 5 [(0, .ref (a 0)), (1, .int y1), (2, .int y2), (3, .int y3), (4, .int y4)] → WW H locs (F0 m 121 ls [])) → K y1 y2 y3 y4 I F G) ∧ (∀ (y1 : Int32) (y2 : Int32) (y3 : Int32) (y4 : Int32) (I : xw_I) (F : xw_F) (G : xw_G), K y1 y2 y3 y4 I F G → (∀ (H : Heap) (locs : List Loc) (ls : Array Slot), va_P D vwCl (xM_w cy a I F G) H → va_D A (xM_w cy a I F G) → va_S A s.heap H locs → lv_has ls 5 [(0, .ref (a 0)), (1, .int y1), (2, .int y2), (3, .int y3), (4, .int y4)] → WW H locs (F0 m 121 ls []))) := ⟨fun (y1 : Int32) (y2 : Int32) (y3 : Int32) (y4 : Int32) (I : xw_I) (F : xw_F) (G : xw_G) => (∀ (H : Heap) (locs : List Loc) (ls : Array Slot), va_P D vwCl (xM_w cy a I F G) H → va_D A (xM_w cy a I F G) → va_S A s.heap H locs → lv_has ls 5 [(0, .ref (a 0)), (1, .int y1), (2, .int y2), (3, .int y3), (4, .int y4)] → WW H locs (F0 m 121 ls [])), fun _ _ _ _ _ _ _ h => h, fun _ _ _ _ _ _ _ h => h⟩
  obtain ⟨k155, mk155, el155⟩ : ∃ K : Int32 → Int32 → Int32 → Int32 → Int32 → Int32 → Int32 → xw_I → xw_F → xw_G → Prop, (∀ (y1 : Int32) (y2 : Int32) (y3 : Int32) (y4 : Int32) (t1 : Int32) (t2 : Int32) (t3 : Int32) (I : xw_I) (F : xw_F) (G : xw_G), (∀ (H : Heap) (locs : List Loc) (ls : Array Slot), va_P D vwCl (xM_w cy a I F G) H → va_D A (xM_w cy a I F G) → va_S A s.heap H locs → lv_has ls 5 [(0, .ref (a 0)), (1, .int y1), (2, .int y2), (3, .int y3), (4, .int y4)] → WW H locs (F0 m 155 ls [.int t3, .int t2, .int t1, .ref (a 3)])) → K y1 y2 y3 y4 t1 t2 t3 I F G) ∧ (∀ (y1 : Int32) (y2 : Int32) (y3 : Int32) (y4 : Int32) (t1 : Int32) (t2 : Int32) (t3 : Int32) (I : xw_I) (F : xw_F) (G : xw_G), K y1 y2 y3 y4 t1 t2 t3 I F G → (∀ (H : Heap) (locs : List Loc) (ls : Array Slot), va_P D vwCl (xM_w cy a I F G) H → va_D A (xM_w cy a I F G) → va_S A s.heap H locs → lv_has ls 5 [(0, .ref (a 0)), (1, .int y1), (2, .int y2), (3, .int y3), (4, .int y4)] → WW H locs (F0 m 155 ls [.int t3, .int t2, .int t1, .ref (a 3)]))) := ⟨fun (y1 : Int32) (y2 : Int32) (y3 : Int32) (y4 : Int32) (t1 : Int32) (t2 : Int32) (t3 : Int32) (I : xw_I) (F : xw_F) (G : xw_G) => (∀ (H : Heap) (locs : List Loc) (ls : Array Slot), va_P D vwCl (xM_w cy a I F G) H → va_D A (xM_w cy a I F G) → va_S A s.heap H locs → lv_has ls 5 [(0, .ref (a 0)), (1, .int y1), (2, .int y2), (3, .int y3), (4, .int y4)] → WW H locs (F0 m 155 ls [.int t3, .int t2, .int t1, .ref (a 3)])), fun _ _ _ _ _ _ _ _ _ _ h => h, fun _ _ _ _ _ _ _ _ _ _ h => h⟩
  have rl22 : ∀ (y1 : Int32) (I : xw_I) (F : xw_F) (G : xw_G), (bd_X8_load_22 post k22 k50 k73 k121 k155 y1 I F G) → k22 y1 I F G := by
    intro y1 I F G h
    refine mk22 _ _ _ _ ?_
    intro H locs ls hP hD hS hl
    refine (hWW _ _ _).mpr ?_
    unfold bd_X8_load_22 at h
    refine lv_iload_n hx hb dX8_load_22 rfl (lv_at hl 1 rfl) ?_
    refine lv_iconst (v := 5) hx hb dX8_load_23 (by decide) ?_
    refine lv_icmp_ge (tgt := 48) hx hb dX8_load_24 (by decide) (fun c33 => ?_) (fun c33 => ?_)
    · have h := h.1 c33
      refine lv_iconst (v := 0) hx hb dX8_load_48 (by decide) ?_
      refine lv_istore_n (lv' := [(1, .int (0 : Int32)), (0, .ref (a 0))]) hx hb dX8_load_49 rfl hl (by decide) rfl (fun ls hl => ?_)
      exact (hWW _ _ _).mp (el50 _ _ _ _ h _ _ ls hP hD hS (lv_sub hl [1, 0] rfl))
    · have h := h.2 c33
      refine lv_aload_n hx hb dX8_load_27 rfl (lv_at hl 0 rfl) ?_
      refine va_get (D := D) (ci := 8) (v := .ref (a 1)) (C := RX8) (T := TX8) (N := 22) hx hb hts mX8_load_inX8 hown hB.1 hP 0 xM_c0 rfl 1 (by decide) (hts _ mX8_load_3) (fun _ h9 => h9) rfl dX8_load_28 ?_
      refine lv_iload_n hx hb dX8_load_31 rfl (lv_at hl 1 rfl) ?_
      refine lv_bipush (v := -6) hx hb dX8_load_32 (by decide) ?_
      refine xw_iast hx hb hB hP hD hS 1 xM_c1 h.1 xM_f1 dX8_load_34 (fun H locs hP hD hS => ?_)
      have h := h.2
      obtain ⟨F34, eF34⟩ : ∃ f : xw_F, f = xw_up F 1 (upd (F 1) y1.toNatClampNeg (-6 : Int32)) := ⟨_, rfl⟩
      rw [← eF34] at hP hD
      have h := h F34 eF34
      refine lv_aload_n hx hb dX8_load_35 rfl (lv_at hl 0 rfl) ?_
      refine va_get (D := D) (ci := 8) (v := .ref (a 3)) (C := RX8) (T := TX8) (N := 22) hx hb hts mX8_load_inX8 hown hB.1 hP 0 xM_c0 rfl 3 (by decide) (hts _ mX8_load_4) (fun _ h9 => h9) rfl dX8_load_36 ?_
      refine lv_iload_n hx hb dX8_load_39 rfl (lv_at hl 1 rfl) ?_
      refine lv_iconst (v := 0) hx hb dX8_load_40 (by decide) ?_
      refine xw_iast hx hb hB hP hD hS 3 xM_c3 h.1 xM_f3 dX8_load_41 (fun H locs hP hD hS => ?_)
      have h := h.2
      obtain ⟨F35, eF35⟩ : ∃ f : xw_F, f = xw_up F34 3 (upd (F34 3) y1.toNatClampNeg (0 : Int32)) := ⟨_, rfl⟩
      rw [← eF35] at hP hD
      have h := h F35 eF35
      obtain ⟨v36, ev36⟩ : ∃ y : Int32, y = y1 + 1 := ⟨_, rfl⟩
      have h := h v36 ev36
      refine lv_iinc (v := v36) (lv' := [(1, .int v36), (0, .ref (a 0))]) hx hb dX8_load_42 hl (k := 1) rfl (by rw [ev36]; rfl) (by decide) rfl (fun ls hl => ?_)
      refine lv_goto (tgt := 22) hx hb dX8_load_45 (by decide) ?_
      exact (hWW _ _ _).mp (el22 _ _ _ _ h _ _ ls hP hD hS (lv_sub hl [1, 0] rfl))
  have rl50 : ∀ (y1 : Int32) (I : xw_I) (F : xw_F) (G : xw_G), (bd_X8_load_50 post k22 k50 k73 k121 k155 y1 I F G) → k50 y1 I F G := by
    intro y1 I F G h
    refine mk50 _ _ _ _ ?_
    intro H locs ls hP hD hS hl
    refine (hWW _ _ _).mpr ?_
    unfold bd_X8_load_50 at h
    refine lv_iload_n hx hb dX8_load_50 rfl (lv_at hl 1 rfl) ?_
    refine lv_iconst (v := 3) hx hb dX8_load_51 (by decide) ?_
    refine lv_icmp_ge (tgt := 69) hx hb dX8_load_52 (by decide) (fun c37 => ?_) (fun c37 => ?_)
    · have h := h.1 c37
      refine lv_iconst (v := 0) hx hb dX8_load_69 (by decide) ?_
      refine lv_istore_n (lv' := [(1, .int (0 : Int32)), (0, .ref (a 0))]) hx hb dX8_load_70 rfl hl (by decide) rfl (fun ls hl => ?_)
      refine lv_iconst (v := 0) hx hb dX8_load_71 (by decide) ?_
      refine lv_istore_n (lv' := [(2, .int (0 : Int32)), (1, .int (0 : Int32)), (0, .ref (a 0))]) hx hb dX8_load_72 rfl hl (by decide) rfl (fun ls hl => ?_)
      exact (hWW _ _ _).mp (el73 _ _ _ _ _ h _ _ ls hP hD hS (lv_sub hl [2, 1, 0] rfl))
    · have h := h.2 c37
      refine lv_aload_n hx hb dX8_load_55 rfl (lv_at hl 0 rfl) ?_
      refine va_get (D := D) (ci := 8) (v := .ref (a 4)) (C := RX8) (T := TX8) (N := 22) hx hb hts mX8_load_inX8 hown hB.1 hP 0 xM_c0 rfl 4 (by decide) (hts _ mX8_load_5) (fun _ h9 => h9) rfl dX8_load_56 ?_
      refine lv_iload_n hx hb dX8_load_59 rfl (lv_at hl 1 rfl) ?_
      refine lv_bipush (v := -6) hx hb dX8_load_60 (by decide) ?_
      refine xw_iast hx hb hB hP hD hS 4 xM_c4 h.1 xM_f4 dX8_load_62 (fun H locs hP hD hS => ?_)
      have h := h.2
      obtain ⟨F38, eF38⟩ : ∃ f : xw_F, f = xw_up F 4 (upd (F 4) y1.toNatClampNeg (-6 : Int32)) := ⟨_, rfl⟩
      rw [← eF38] at hP hD
      have h := h F38 eF38
      obtain ⟨v39, ev39⟩ : ∃ y : Int32, y = y1 + 1 := ⟨_, rfl⟩
      have h := h v39 ev39
      refine lv_iinc (v := v39) (lv' := [(1, .int v39), (0, .ref (a 0))]) hx hb dX8_load_63 hl (k := 1) rfl (by rw [ev39]; rfl) (by decide) rfl (fun ls hl => ?_)
      refine lv_goto (tgt := 50) hx hb dX8_load_66 (by decide) ?_
      exact (hWW _ _ _).mp (el50 _ _ _ _ h _ _ ls hP hD hS (lv_sub hl [1, 0] rfl))
  have rl73 : ∀ (y1 : Int32) (y2 : Int32) (I : xw_I) (F : xw_F) (G : xw_G), (bd_X8_load_73 post k22 k50 k73 k121 k155 y1 y2 I F G) → k73 y1 y2 I F G := by
    intro y1 y2 I F G h
    refine mk73 _ _ _ _ _ ?_
    intro H locs ls hP hD hS hl
    refine (hWW _ _ _).mpr ?_
    unfold bd_X8_load_73 at h
    refine lv_iload_n hx hb dX8_load_73 rfl (lv_at hl 2 rfl) ?_
    refine lv_aload_n hx hb dX8_load_74 rfl (lv_at hl 0 rfl) ?_
    refine va_get (D := D) (ci := 8) (v := .int (I 3)) (C := RX8) (T := TX8) (N := 22) hx hb hts mX8_load_inX8 hown hB.1 hP 0 xM_c0 rfl 9 (by decide) (hts _ mX8_load_6) (fun _ h9 => h9) rfl dX8_load_75 ?_
    refine lv_icmp_ge (tgt := 268) hx hb dX8_load_78 (by decide) (fun c40 => ?_) (fun c40 => ?_)
    · have h := h.1 c40
      refine lv_aload_n hx hb dX8_load_268 rfl (lv_at hl 0 rfl) ?_
      refine xw_wv (va_runV (rm := { frames := 0, cells := 0, slots := 0, locals := 0 }) (As := []) (rest := []) ⟨hx, hb, hml, hown, hts⟩ (c_X8_unlink l D cy a I F G _ h A) (cwV 0 hts gX8_load_X8_unlink rfl rfl rfl (by decide +kernel) ⟨Nat.le_of_ble_eq_true rfl, Nat.le_of_ble_eq_true rfl⟩) (xw_preV hB hP hD (ci := 8) rfl xM_c0) rfl rfl hl.1 rfl (lv_room (Nat.le_of_ble_eq_true rfl)) dX8_load_269 ⟨Nat.le_of_ble_eq_true rfl, Nat.le_of_ble_eq_true rfl⟩) hS (fun I41 F41 G41 H locs h hP hD hS => ?_)
      refine lv_aload_n hx hb dX8_load_272 rfl (lv_at hl 0 rfl) ?_
      refine lv_iconst (v := 0) hx hb dX8_load_273 (by decide) ?_
      refine xw_put (D := D) (ci := 8) (v := .int (0 : Int32)) (ty := .int) (C := RX8) (T := TX8) (N := 22) hx hb hts mX8_load_inX8 tyX8 tyX8_ok nmX8 hown hB hP hD hS 0 xM_c0 rfl 9 (by decide) (hts _ mX8_load_6) (fun _ h9 => h9) rfl (by decide +kernel) rfl rfl (Nat.le_of_ble_eq_true rfl) xM_i3 dX8_load_274 (fun H locs hP hD hS => ?_)
      obtain ⟨I42, eI42⟩ : ∃ f : xw_I, f = xw_up I41 3 (0 : Int32) := ⟨_, rfl⟩
      rw [← eI42] at hP hD
      have h := h I42 eI42
      refine lv_aload_n hx hb dX8_load_277 rfl (lv_at hl 0 rfl) ?_
      refine va_get (D := D) (ci := 8) (v := .int (I42 0)) (C := RX8) (T := TX8) (N := 22) hx hb hts mX8_load_inX8 hown hB.1 hP 0 xM_c0 rfl 0 (by decide) (hts _ mX8_load_1) (fun _ h9 => h9) rfl dX8_load_278 ?_
      exact xw_wreti hx hb hr hlocks hP hD hS h dX8_load_281
    · have h := h.2 c40
      refine lv_aload_n hx hb dX8_load_81 rfl (lv_at hl 0 rfl) ?_
      refine va_get (D := D) (ci := 8) (v := .ref (a 7)) (C := RX8) (T := TX8) (N := 22) hx hb hts mX8_load_inX8 hown hB.1 hP 0 xM_c0 rfl 10 (by decide) (hts _ mX8_load_7) (fun _ h9 => h9) rfl dX8_load_82 ?_
      refine lv_iload_n hx hb dX8_load_85 rfl (lv_at hl 2 rfl) ?_
      refine xw_iald hx hb hB hP 7 xM_c7 h.1 dX8_load_86 (fun v43 ev43 => ?_)
      have h := h.2 v43 ev43
      refine lv_istore_n (lv' := [(3, .int v43), (0, .ref (a 0)), (1, .int y1), (2, .int y2)]) hx hb dX8_load_87 rfl hl (by decide) rfl (fun ls hl => ?_)
      refine lv_iload_n hx hb dX8_load_88 rfl (lv_at hl 0 rfl) ?_
      refine lv_bipush (v := 46) hx hb dX8_load_89 (by decide) ?_
      refine lv_icmp_ne (tgt := 107) hx hb dX8_load_91 (by decide) (fun c44 => ?_) (fun c44 => ?_)
      · have h := h.1 c44
        refine lv_iload_n hx hb dX8_load_107 rfl (lv_at hl 0 rfl) ?_
        refine lv_bipush (v := 65) hx hb dX8_load_108 (by decide) ?_
        refine lv_bipush (v := 69) hx hb dX8_load_110 (by decide) ?_
        refine xw_ri (va_runS (rm := { frames := 0, cells := 0, slots := 0, locals := 0 }) (As := [.int v43, .int (65 : Int32), .int (69 : Int32)]) (rest := []) ⟨hx, hb, hml, hown, hts⟩ (c_X8_in l D cy v43 (65 : Int32) (69 : Int32) _ h (fun _ => True)) (va_cwS 3 hts gX8_load_X8_in rfl rfl rfl (by decide +kernel) ⟨Nat.le_of_ble_eq_true rfl, Nat.le_of_ble_eq_true rfl⟩) (xw_preS hB xw_P0 (xw_D0 (A := fun _ => True))) rfl rfl hl.1 rfl (lv_room (Nat.le_of_ble_eq_true rfl)) dX8_load_112 ⟨Nat.le_of_ble_eq_true rfl, Nat.le_of_ble_eq_true rfl⟩) (fun r45 h => ?_)
        refine lv_if_eq (tgt := 188) hx hb dX8_load_115 (by decide) (fun c46 => ?_) (fun c46 => ?_)
        · have h := h.1 c46
          refine lv_iload_n hx hb dX8_load_188 rfl (lv_at hl 0 rfl) ?_
          refine lv_bipush (v := 97) hx hb dX8_load_189 (by decide) ?_
          refine lv_bipush (v := 101) hx hb dX8_load_191 (by decide) ?_
          refine xw_ri (va_runS (rm := { frames := 0, cells := 0, slots := 0, locals := 0 }) (As := [.int v43, .int (97 : Int32), .int (101 : Int32)]) (rest := []) ⟨hx, hb, hml, hown, hts⟩ (c_X8_in l D cy v43 (97 : Int32) (101 : Int32) _ h (fun _ => True)) (va_cwS 3 hts gX8_load_X8_in rfl rfl rfl (by decide +kernel) ⟨Nat.le_of_ble_eq_true rfl, Nat.le_of_ble_eq_true rfl⟩) (xw_preS hB xw_P0 (xw_D0 (A := fun _ => True))) rfl rfl hl.1 rfl (lv_room (Nat.le_of_ble_eq_true rfl)) dX8_load_193 ⟨Nat.le_of_ble_eq_true rfl, Nat.le_of_ble_eq_true rfl⟩) (fun r47 h => ?_)
          refine lv_if_eq (tgt := 226) hx hb dX8_load_196 (by decide) (fun c48 => ?_) (fun c48 => ?_)
          · have h := h.1 c48
            refine lv_aload_n hx hb dX8_load_226 rfl (lv_at hl 1 rfl) ?_
            refine va_get (D := D) (ci := 8) (v := .ref (a 4)) (C := RX8) (T := TX8) (N := 22) hx hb hts mX8_load_inX8 hown hB.1 hP 0 xM_c0 rfl 4 (by decide) (hts _ mX8_load_5) (fun _ h9 => h9) rfl dX8_load_227 ?_
            refine lv_iload_n hx hb dX8_load_230 rfl (lv_at hl 0 rfl) ?_
            refine lv_bipush (v := 120) hx hb dX8_load_231 (by decide) ?_
            refine lv_isub hx hb dX8_load_233 ?_
            refine lv_aload_n hx hb dX8_load_234 rfl (lv_at hl 1 rfl) ?_
            refine va_get (D := D) (ci := 8) (v := .int (I 0)) (C := RX8) (T := TX8) (N := 22) hx hb hts mX8_load_inX8 hown hB.1 hP 0 xM_c0 rfl 0 (by decide) (hts _ mX8_load_1) (fun _ h9 => h9) rfl dX8_load_235 ?_
            refine xw_iast hx hb hB hP hD hS 4 xM_c4 h.1 xM_f4 dX8_load_238 (fun H locs hP hD hS => ?_)
            have h := h.2
            obtain ⟨F49, eF49⟩ : ∃ f : xw_F, f = xw_up F 4 (upd (F 4) (v43 - (120 : Int32)).toNatClampNeg (I 0)) := ⟨_, rfl⟩
            rw [← eF49] at hP hD
            have h := h F49 eF49
            refine lv_aload_n hx hb dX8_load_239 rfl (lv_at hl 1 rfl) ?_
            refine va_get (D := D) (ci := 8) (v := .ref (a 5)) (C := RX8) (T := TX8) (N := 22) hx hb hts mX8_load_inX8 hown hB.1 hP 0 xM_c0 rfl 5 (by decide) (hts _ mX8_load_9) (fun _ h9 => h9) rfl dX8_load_240 ?_
            refine lv_aload_n hx hb dX8_load_243 rfl (lv_at hl 1 rfl) ?_
            refine va_get (D := D) (ci := 8) (v := .int (I 1)) (C := RX8) (T := TX8) (N := 22) hx hb hts mX8_load_inX8 hown hB.1 hP 0 xM_c0 rfl 6 (by decide) (hts _ mX8_load_2) (fun _ h9 => h9) rfl dX8_load_244 ?_
            refine lv_iload_n hx hb dX8_load_247 rfl (lv_at hl 0 rfl) ?_
            refine lv_bipush (v := 120) hx hb dX8_load_248 (by decide) ?_
            refine lv_isub hx hb dX8_load_250 ?_
            refine xw_iast hx hb hB hP hD hS 5 xM_c5 h.1 xM_f5 dX8_load_251 (fun H locs hP hD hS => ?_)
            have h := h.2
            obtain ⟨F50, eF50⟩ : ∃ f : xw_F, f = xw_up F49 5 (upd (F49 5) (I 1).toNatClampNeg (v43 - (120 : Int32))) := ⟨_, rfl⟩
            rw [← eF50] at hP hD
            have h := h F50 eF50
            refine lv_aload_n hx hb dX8_load_252 rfl (lv_at hl 1 rfl) ?_
            refine lv_dup hx hb dX8_load_253 rfl ?_
            refine va_get (D := D) (ci := 8) (v := .int (I 1)) (C := RX8) (T := TX8) (N := 22) hx hb hts mX8_load_inX8 hown hB.1 hP 0 xM_c0 rfl 6 (by decide) (hts _ mX8_load_2) (fun _ h9 => h9) rfl dX8_load_254 ?_
            refine lv_iconst (v := 1) hx hb dX8_load_257 (by decide) ?_
            refine lv_iadd hx hb dX8_load_258 ?_
            refine xw_put (D := D) (ci := 8) (v := .int ((I 1) + (1 : Int32))) (ty := .int) (C := RX8) (T := TX8) (N := 22) hx hb hts mX8_load_inX8 tyX8 tyX8_ok nmX8 hown hB hP hD hS 0 xM_c0 rfl 6 (by decide) (hts _ mX8_load_2) (fun _ h9 => h9) rfl (by decide +kernel) rfl rfl (Nat.le_of_ble_eq_true rfl) xM_i1 dX8_load_259 (fun H locs hP hD hS => ?_)
            obtain ⟨I51, eI51⟩ : ∃ f : xw_I, f = xw_up I 1 ((I 1) + (1 : Int32)) := ⟨_, rfl⟩
            rw [← eI51] at hP hD
            have h := h I51 eI51
            obtain ⟨v52, ev52⟩ : ∃ y : Int32, y = y2 + 1 := ⟨_, rfl⟩
            have h := h v52 ev52
            refine lv_iinc (v := v52) (lv' := [(2, .int v52), (3, .int v43), (0, .ref (a 0)), (1, .int y1)]) hx hb dX8_load_262 hl (k := 3) rfl (by rw [ev52]; rfl) (by decide) rfl (fun ls hl => ?_)
            refine lv_goto (tgt := 73) hx hb dX8_load_265 (by decide) ?_
            exact (hWW _ _ _).mp (el73 _ _ _ _ _ h _ _ ls hP hD hS (lv_sub hl [2, 3, 0] rfl))
          · have h := h.2 c48
            refine lv_aload_n hx hb dX8_load_199 rfl (lv_at hl 1 rfl) ?_
            refine va_get (D := D) (ci := 8) (v := .ref (a 2)) (C := RX8) (T := TX8) (N := 22) hx hb hts mX8_load_inX8 hown hB.1 hP 0 xM_c0 rfl 2 (by decide) (hts _ mX8_load_8) (fun _ h9 => h9) rfl dX8_load_200 ?_
            refine lv_iload_n hx hb dX8_load_203 rfl (lv_at hl 0 rfl) ?_
            refine lv_bipush (v := 97) hx hb dX8_load_204 (by decide) ?_
            refine lv_isub hx hb dX8_load_206 ?_
            refine lv_aload_n hx hb dX8_load_207 rfl (lv_at hl 1 rfl) ?_
            refine va_get (D := D) (ci := 8) (v := .int (I 0)) (C := RX8) (T := TX8) (N := 22) hx hb hts mX8_load_inX8 hown hB.1 hP 0 xM_c0 rfl 0 (by decide) (hts _ mX8_load_1) (fun _ h9 => h9) rfl dX8_load_208 ?_
            refine xw_iast hx hb hB hP hD hS 2 xM_c2 h.1 xM_f2 dX8_load_211 (fun H locs hP hD hS => ?_)
            have h := h.2
            obtain ⟨F53, eF53⟩ : ∃ f : xw_F, f = xw_up F 2 (upd (F 2) (v43 - (97 : Int32)).toNatClampNeg (I 0)) := ⟨_, rfl⟩
            rw [← eF53] at hP hD
            have h := h F53 eF53
            refine lv_iload_n hx hb dX8_load_212 rfl (lv_at hl 2 rfl) ?_
            refine lv_iconst (v := 1) hx hb dX8_load_213 (by decide) ?_
            refine lv_iload_n hx hb dX8_load_214 rfl (lv_at hl 0 rfl) ?_
            refine lv_bipush (v := 97) hx hb dX8_load_215 (by decide) ?_
            refine lv_isub hx hb dX8_load_217 ?_
            refine lv_ishl hx hb dX8_load_218 ?_
            refine lv_iconst (v := -1) hx hb dX8_load_219 (by decide) ?_
            refine lv_ixor hx hb dX8_load_220 ?_
            refine lv_iand hx hb dX8_load_221 ?_
            refine lv_topi (fun v54 ev54 => ?_)
            have h := h v54 ev54
            refine lv_istore_n (lv' := [(1, .int v54), (3, .int v43), (0, .ref (a 0)), (2, .int y2)]) hx hb dX8_load_222 rfl hl (by decide) rfl (fun ls hl => ?_)
            refine lv_goto (tgt := 262) hx hb dX8_load_223 (by decide) ?_
            obtain ⟨v55, ev55⟩ : ∃ y : Int32, y = y2 + 1 := ⟨_, rfl⟩
            have h := h v55 ev55
            refine lv_iinc (v := v55) (lv' := [(2, .int v55), (1, .int v54), (3, .int v43), (0, .ref (a 0))]) hx hb dX8_load_262 hl (k := 3) rfl (by rw [ev55]; rfl) (by decide) rfl (fun ls hl => ?_)
            refine lv_goto (tgt := 73) hx hb dX8_load_265 (by decide) ?_
            exact (hWW _ _ _).mp (el73 _ _ _ _ _ h _ _ ls hP hD hS (lv_sub hl [3, 1, 0] rfl))
        · have h := h.2 c46
          refine lv_iconst (v := 0) hx hb dX8_load_118 (by decide) ?_
          refine lv_istore (lv' := [(4, .int (0 : Int32)), (3, .int v43), (0, .ref (a 0)), (1, .int y1), (2, .int y2)]) hx hb dX8_load_119 hl (by decide) rfl (fun ls hl => ?_)
          exact (hWW _ _ _).mp (el121 _ _ _ _ _ _ _ h _ _ ls hP hD hS (lv_sub hl [2, 3, 4, 1, 0] rfl))
      · have h := h.2 c44
        refine lv_aload_n hx hb dX8_load_94 rfl (lv_at hl 1 rfl) ?_
        refine lv_dup hx hb dX8_load_95 rfl ?_
        refine va_get (D := D) (ci := 8) (v := .int (I 0)) (C := RX8) (T := TX8) (N := 22) hx hb hts mX8_load_inX8 hown hB.1 hP 0 xM_c0 rfl 0 (by decide) (hts _ mX8_load_1) (fun _ h9 => h9) rfl dX8_load_96 ?_
        refine lv_iconst (v := 1) hx hb dX8_load_99 (by decide) ?_
        refine lv_iadd hx hb dX8_load_100 ?_
        refine xw_put (D := D) (ci := 8) (v := .int ((I 0) + (1 : Int32))) (ty := .int) (C := RX8) (T := TX8) (N := 22) hx hb hts mX8_load_inX8 tyX8 tyX8_ok nmX8 hown hB hP hD hS 0 xM_c0 rfl 0 (by decide) (hts _ mX8_load_1) (fun _ h9 => h9) rfl (by decide +kernel) rfl rfl (Nat.le_of_ble_eq_true rfl) xM_i0 dX8_load_101 (fun H locs hP hD hS => ?_)
        obtain ⟨I56, eI56⟩ : ∃ f : xw_I, f = xw_up I 0 ((I 0) + (1 : Int32)) := ⟨_, rfl⟩
        rw [← eI56] at hP hD
        have h := h I56 eI56
        refine lv_goto (tgt := 262) hx hb dX8_load_104 (by decide) ?_
        obtain ⟨v57, ev57⟩ : ∃ y : Int32, y = y2 + 1 := ⟨_, rfl⟩
        have h := h v57 ev57
        refine lv_iinc (v := v57) (lv' := [(2, .int v57), (3, .int v43), (0, .ref (a 0)), (1, .int y1)]) hx hb dX8_load_262 hl (k := 3) rfl (by rw [ev57]; rfl) (by decide) rfl (fun ls hl => ?_)
        refine lv_goto (tgt := 73) hx hb dX8_load_265 (by decide) ?_
        exact (hWW _ _ _).mp (el73 _ _ _ _ _ h _ _ ls hP hD hS (lv_sub hl [2, 3, 0] rfl))
  have rl121 : ∀ (y1 : Int32) (y2 : Int32) (y3 : Int32) (y4 : Int32) (I : xw_I) (F : xw_F) (G : xw_G), (bd_X8_load_121 post k22 k50 k73 k121 k155 y1 y2 y3 y4 I F G) → k121 y1 y2 y3 y4 I F G := by
    intro y1 y2 y3 y4 I F G h
    refine mk121 _ _ _ _ _ _ _ ?_
    intro H locs ls hP hD hS hl
    refine (hWW _ _ _).mpr ?_
    unfold bd_X8_load_121 at h
    refine lv_iload hx hb dX8_load_121 (lv_at hl 4 rfl) ?_
    refine lv_iconst (v := 5) hx hb dX8_load_123 (by decide) ?_
    refine lv_icmp_ge (tgt := 163) hx hb dX8_load_124 (by decide) (fun c58 => ?_) (fun c58 => ?_)
    · have h := h.1 c58
      refine lv_aload_n hx hb dX8_load_163 rfl (lv_at hl 0 rfl) ?_
      refine va_get (D := D) (ci := 8) (v := .ref (a 1)) (C := RX8) (T := TX8) (N := 22) hx hb hts mX8_load_inX8 hown hB.1 hP 0 xM_c0 rfl 1 (by decide) (hts _ mX8_load_3) (fun _ h9 => h9) rfl dX8_load_164 ?_
      refine lv_iload_n hx hb dX8_load_167 rfl (lv_at hl 3 rfl) ?_
      refine lv_bipush (v := 65) hx hb dX8_load_168 (by decide) ?_
      refine lv_isub hx hb dX8_load_170 ?_
      refine lv_aload_n hx hb dX8_load_171 rfl (lv_at hl 0 rfl) ?_
      refine va_get (D := D) (ci := 8) (v := .int (I 0)) (C := RX8) (T := TX8) (N := 22) hx hb hts mX8_load_inX8 hown hB.1 hP 0 xM_c0 rfl 0 (by decide) (hts _ mX8_load_1) (fun _ h9 => h9) rfl dX8_load_172 ?_
      refine xw_iast hx hb hB hP hD hS 1 xM_c1 h.1 xM_f1 dX8_load_175 (fun H locs hP hD hS => ?_)
      have h := h.2
      obtain ⟨F59, eF59⟩ : ∃ f : xw_F, f = xw_up F 1 (upd (F 1) (y3 - (65 : Int32)).toNatClampNeg (I 0)) := ⟨_, rfl⟩
      rw [← eF59] at hP hD
      have h := h F59 eF59
      refine lv_iload_n hx hb dX8_load_176 rfl (lv_at hl 1 rfl) ?_
      refine lv_iconst (v := 1) hx hb dX8_load_177 (by decide) ?_
      refine lv_iload_n hx hb dX8_load_178 rfl (lv_at hl 3 rfl) ?_
      refine lv_bipush (v := 65) hx hb dX8_load_179 (by decide) ?_
      refine lv_isub hx hb dX8_load_181 ?_
      refine lv_ishl hx hb dX8_load_182 ?_
      refine lv_ior hx hb dX8_load_183 ?_
      refine lv_topi (fun v60 ev60 => ?_)
      have h := h v60 ev60
      refine lv_istore_n (lv' := [(1, .int v60), (0, .ref (a 0)), (2, .int y2), (3, .int y3), (4, .int y4)]) hx hb dX8_load_184 rfl hl (by decide) rfl (fun ls hl => ?_)
      refine lv_goto (tgt := 262) hx hb dX8_load_185 (by decide) ?_
      obtain ⟨v61, ev61⟩ : ∃ y : Int32, y = y2 + 1 := ⟨_, rfl⟩
      have h := h v61 ev61
      refine lv_iinc (v := v61) (lv' := [(2, .int v61), (1, .int v60), (0, .ref (a 0)), (3, .int y3), (4, .int y4)]) hx hb dX8_load_262 hl (k := 2) rfl (by rw [ev61]; rfl) (by decide) rfl (fun ls hl => ?_)
      refine lv_goto (tgt := 73) hx hb dX8_load_265 (by decide) ?_
      exact (hWW _ _ _).mp (el73 _ _ _ _ _ h _ _ ls hP hD hS (lv_sub hl [2, 1, 0] rfl))
    · have h := h.2 c58
      refine lv_aload_n hx hb dX8_load_127 rfl (lv_at hl 0 rfl) ?_
      refine va_get (D := D) (ci := 8) (v := .ref (a 3)) (C := RX8) (T := TX8) (N := 22) hx hb hts mX8_load_inX8 hown hB.1 hP 0 xM_c0 rfl 3 (by decide) (hts _ mX8_load_4) (fun _ h9 => h9) rfl dX8_load_128 ?_
      refine lv_iload hx hb dX8_load_131 (lv_at hl 4 rfl) ?_
      refine lv_dup2_11 hx hb dX8_load_133 rfl rfl ?_
      refine xw_iald hx hb hB hP 3 xM_c3 h.1 dX8_load_134 (fun v62 ev62 => ?_)
      have h := h.2 v62 ev62
      refine lv_iload_n hx hb dX8_load_135 rfl (lv_at hl 1 rfl) ?_
      refine lv_iload hx hb dX8_load_136 (lv_at hl 4 rfl) ?_
      refine lv_ishr hx hb dX8_load_138 ?_
      refine lv_iconst (v := 1) hx hb dX8_load_139 (by decide) ?_
      refine lv_iand hx hb dX8_load_140 ?_
      refine lv_iconst (v := 1) hx hb dX8_load_141 (by decide) ?_
      refine lv_icmp_ne (tgt := 154) hx hb dX8_load_142 (by decide) (fun c63 => ?_) (fun c63 => ?_)
      · have h := h.1 c63
        refine lv_iconst (v := 0) hx hb dX8_load_154 (by decide) ?_
        exact (hWW _ _ _).mp (el155 _ _ _ _ _ _ _ _ _ _ h _ _ ls hP hD hS (lv_sub hl [0, 1, 2, 3, 4] rfl))
      · have h := h.2 c63
        refine lv_iconst (v := 1) hx hb dX8_load_145 (by decide) ?_
        refine lv_iload_n hx hb dX8_load_146 rfl (lv_at hl 3 rfl) ?_
        refine lv_bipush (v := 65) hx hb dX8_load_147 (by decide) ?_
        refine lv_isub hx hb dX8_load_149 ?_
        refine lv_ishl hx hb dX8_load_150 ?_
        refine lv_goto (tgt := 155) hx hb dX8_load_151 (by decide) ?_
        exact (hWW _ _ _).mp (el155 _ _ _ _ _ _ _ _ _ _ h _ _ ls hP hD hS (lv_sub hl [0, 1, 2, 3, 4] rfl))
  have rl155 : ∀ (y1 : Int32) (y2 : Int32) (y3 : Int32) (y4 : Int32) (t1 : Int32) (t2 : Int32) (t3 : Int32) (I : xw_I) (F : xw_F) (G : xw_G), (bd_X8_load_155 post k22 k50 k73 k121 k155 y1 y2 y3 y4 t1 t2 t3 I F G) → k155 y1 y2 y3 y4 t1 t2 t3 I F G := by
    intro y1 y2 y3 y4 t1 t2 t3 I F G h
    refine mk155 _ _ _ _ _ _ _ _ _ _ ?_
    intro H locs ls hP hD hS hl
    refine (hWW _ _ _).mpr ?_
    unfold bd_X8_load_155 at h
    refine lv_ior hx hb dX8_load_155 ?_
    refine xw_iast hx hb hB hP hD hS 3 xM_c3 h.1 xM_f3 dX8_load_156 (fun H locs hP hD hS => ?_)
    have h := h.2
    obtain ⟨F64, eF64⟩ : ∃ f : xw_F, f = xw_up F 3 (upd (F 3) t1.toNatClampNeg (t2 ||| t3)) := ⟨_, rfl⟩
    rw [← eF64] at hP hD
    have h := h F64 eF64
    obtain ⟨v65, ev65⟩ : ∃ y : Int32, y = y4 + 1 := ⟨_, rfl⟩
    have h := h v65 ev65
    refine lv_iinc (v := v65) (lv' := [(4, .int v65), (0, .ref (a 0)), (1, .int y1), (2, .int y2), (3, .int y3)]) hx hb dX8_load_157 hl (k := 4) rfl (by rw [ev65]; rfl) (by decide) rfl (fun ls hl => ?_)
    refine lv_goto (tgt := 121) hx hb dX8_load_160 (by decide) ?_
    exact (hWW _ _ _).mp (el121 _ _ _ _ _ _ _ h _ _ ls hP hD hS (lv_sub hl [1, 2, 3, 4, 0] rfl))
  have h := h k22 k50 k73 k121 k155 rl22 rl50 rl73 rl121 rl155
  unfold bd_X8_load_0 at h
  refine lv_aload_n hx hb dX8_load_0 rfl (lv_at hl 0 rfl) ?_
  refine xw_wi (va_runV (rm := { frames := 1, cells := 0, slots := 0, locals := 22 }) (As := []) (rest := []) ⟨hx, hb, hml, hown, hts⟩ (c_X8_faultOf l D cy a I F G _ h A) (cwV 0 hts gX8_load_X8_faultOf rfl rfl rfl (by decide +kernel) ⟨Nat.le_of_ble_eq_true rfl, Nat.le_of_ble_eq_true rfl⟩) (xw_preV hB hP hD (ci := 8) rfl xM_c0) rfl rfl hl.1 rfl (lv_room (Nat.le_of_ble_eq_true rfl)) dX8_load_1 ⟨Nat.le_of_ble_eq_true rfl, Nat.le_of_ble_eq_true rfl⟩) hS (fun r29 I29 F29 G29 H locs h hP hD hS => ?_)
  refine lv_if_lt (tgt := 10) hx hb dX8_load_4 (by decide) (fun c30 => ?_) (fun c30 => ?_)
  · have h := h.1 c30
    refine lv_aload_n hx hb dX8_load_10 rfl (lv_at hl 0 rfl) ?_
    refine lv_iconst (v := 0) hx hb dX8_load_11 (by decide) ?_
    refine xw_put (D := D) (ci := 8) (v := .int (0 : Int32)) (ty := .int) (C := RX8) (T := TX8) (N := 22) hx hb hts mX8_load_inX8 tyX8 tyX8_ok nmX8 hown hB hP hD hS 0 xM_c0 rfl 0 (by decide) (hts _ mX8_load_1) (fun _ h9 => h9) rfl (by decide +kernel) rfl rfl (Nat.le_of_ble_eq_true rfl) xM_i0 dX8_load_12 (fun H locs hP hD hS => ?_)
    obtain ⟨I31, eI31⟩ : ∃ f : xw_I, f = xw_up I29 0 (0 : Int32) := ⟨_, rfl⟩
    rw [← eI31] at hP hD
    have h := h I31 eI31
    refine lv_aload_n hx hb dX8_load_15 rfl (lv_at hl 0 rfl) ?_
    refine lv_iconst (v := 0) hx hb dX8_load_16 (by decide) ?_
    refine xw_put (D := D) (ci := 8) (v := .int (0 : Int32)) (ty := .int) (C := RX8) (T := TX8) (N := 22) hx hb hts mX8_load_inX8 tyX8 tyX8_ok nmX8 hown hB hP hD hS 0 xM_c0 rfl 6 (by decide) (hts _ mX8_load_2) (fun _ h9 => h9) rfl (by decide +kernel) rfl rfl (Nat.le_of_ble_eq_true rfl) xM_i1 dX8_load_17 (fun H locs hP hD hS => ?_)
    obtain ⟨I32, eI32⟩ : ∃ f : xw_I, f = xw_up I31 1 (0 : Int32) := ⟨_, rfl⟩
    rw [← eI32] at hP hD
    have h := h I32 eI32
    refine lv_iconst (v := 0) hx hb dX8_load_20 (by decide) ?_
    refine lv_istore_n (lv' := [(1, .int (0 : Int32)), (0, .ref (a 0))]) hx hb dX8_load_21 rfl hl (by decide) rfl (fun ls hl => ?_)
    exact (hWW _ _ _).mp (el22 _ _ _ _ h _ _ ls hP hD hS (lv_sub hl [1, 0] rfl))
  · have h := h.2 c30
    refine lv_bipush (v := -5) hx hb dX8_load_7 (by decide) ?_
    exact xw_wreti hx hb hr hlocks hP hD hS h dX8_load_9

theorem mX8_target_1 : Cond.fieldLink RX8 78 "TagCarrierModel" "target" "I" ∈ wsX8_target := List.mem_of_getElem? (i := 1) rfl
theorem mX8_target_inX8 : ∀ w ∈ u_ws RX8 TX8 22, w ∈ wsX8_target := by decide +kernel
set_option maxHeartbeats 4000000 in
set_option maxRecDepth 100000 in
theorem c_X8_target (l : Launch) (D : va_G) (cy : Nat → ClassId) (a : Nat → Nat) (x1 : Int32) (I : xw_I) (F : xw_F) (G : xw_G) (post : Int32 → xw_I → xw_F → xw_G → Prop) (h : sm_X8_target x1 I F G post) : xw_Wi l yX8_target wsX8_target ({ frames := 1, cells := 0, slots := 0, locals := 22 }) D cy [.ref (a 0), .int x1] (xM_w cy a I F G) (xM_w cy a) post := by
  intro A
  refine Met.ofW (cc := cX8_target) (maxL := 3) (ret := (some .int)) (by decide) rfl ?_
  intro p e s m args below meth c s₁ B hml hv
  obtain ⟨rfl, hP, hB, hD⟩ := hv
  have hP : va_P D vwCl (xM_w cy a I F G) s.heap := hP
  have hx := B.exec
  have hb := B.bytes
  have hr := B.returns
  have hts := atoms_spec (ws := wsX8_target) B.pre
  have hown : s.vm.findClass RX8 = some m.cls := findClass_of_methodNamed B.named
  have hlocks := B.notSynchronized
  have hS : va_S A s.heap s.heap [] := va_S.rf
  refine xw_go (fun WW hWW => ?_)
  have hl := lv_entry ([.ref (a 0), .int x1]) (n := 3) (Nat.le_of_ble_eq_true rfl)
  rw [lg_entry_eq]
  generalize (lg_sl ([.ref (a 0), .int x1]) ++ List.replicate (3 - (lg_sl ([.ref (a 0), .int x1])).length) Slot.unset).toArray = ls at hl ⊢
  have hl : lv_has ls 3 [(0, .ref (a 0)), (1, .int x1)] := hl
  unfold sm_X8_target at h
  refine lv_iload_n hx hb dX8_target_0 rfl (lv_at hl 1 rfl) ?_
  refine lv_iconst (v := 0) hx hb dX8_target_1 (by decide) ?_
  refine lv_bipush (v := 8) hx hb dX8_target_2 (by decide) ?_
  refine xw_ri (va_runS (rm := { frames := 0, cells := 0, slots := 0, locals := 0 }) (As := [.int x1, .int (0 : Int32), .int (8 : Int32)]) (rest := []) ⟨hx, hb, hml, hown, hts⟩ (c_X8_in l D cy x1 (0 : Int32) (8 : Int32) _ h (fun _ => True)) (va_cwS 3 hts gX8_target_X8_in rfl rfl rfl (by decide +kernel) ⟨Nat.le_of_ble_eq_true rfl, Nat.le_of_ble_eq_true rfl⟩) (xw_preS hB xw_P0 (xw_D0 (A := fun _ => True))) rfl rfl hl.1 rfl (lv_room (Nat.le_of_ble_eq_true rfl)) dX8_target_4 ⟨Nat.le_of_ble_eq_true rfl, Nat.le_of_ble_eq_true rfl⟩) (fun r3 h => ?_)
  refine lv_if_ne (tgt := 13) hx hb dX8_target_7 (by decide) (fun c4 => ?_) (fun c4 => ?_)
  · have h := h.1 c4
    refine lv_aload_n hx hb dX8_target_13 rfl (lv_at hl 0 rfl) ?_
    refine va_get (D := D) (ci := 8) (v := .int (I 2)) (C := RX8) (T := TX8) (N := 22) hx hb hts mX8_target_inX8 hown hB.1 hP 0 xM_c0 rfl 7 (by decide) (hts _ mX8_target_1) (fun _ h9 => h9) rfl dX8_target_14 ?_
    refine lv_topi (fun v5 ev5 => ?_)
    have h := h v5 ev5
    refine lv_istore_n (lv' := [(2, .int v5), (0, .ref (a 0)), (1, .int x1)]) hx hb dX8_target_17 rfl hl (by decide) rfl (fun ls hl => ?_)
    refine lv_aload_n hx hb dX8_target_18 rfl (lv_at hl 1 rfl) ?_
    refine lv_iload_n hx hb dX8_target_19 rfl (lv_at hl 2 rfl) ?_
    refine xw_put (D := D) (ci := 8) (v := .int x1) (ty := .int) (C := RX8) (T := TX8) (N := 22) hx hb hts mX8_target_inX8 tyX8 tyX8_ok nmX8 hown hB hP hD hS 0 xM_c0 rfl 7 (by decide) (hts _ mX8_target_1) (fun _ h9 => h9) rfl (by decide +kernel) rfl rfl (Nat.le_of_ble_eq_true rfl) xM_i2 dX8_target_20 (fun H locs hP hD hS => ?_)
    obtain ⟨I6, eI6⟩ : ∃ f : xw_I, f = xw_up I 2 x1 := ⟨_, rfl⟩
    rw [← eI6] at hP hD
    have h := h I6 eI6
    refine lv_aload_n hx hb dX8_target_23 rfl (lv_at hl 1 rfl) ?_
    refine xw_wv (va_runV (rm := { frames := 0, cells := 0, slots := 0, locals := 0 }) (As := []) (rest := []) ⟨hx, hb, hml, hown, hts⟩ (c_X8_unlink l D cy a I6 F G _ h A) (cwV 0 hts gX8_target_X8_unlink rfl rfl rfl (by decide +kernel) ⟨Nat.le_of_ble_eq_true rfl, Nat.le_of_ble_eq_true rfl⟩) (xw_preV hB hP hD (ci := 8) rfl xM_c0) rfl rfl hl.1 rfl (lv_room (Nat.le_of_ble_eq_true rfl)) dX8_target_24 ⟨Nat.le_of_ble_eq_true rfl, Nat.le_of_ble_eq_true rfl⟩) hS (fun I7 F7 G7 H locs h hP hD hS => ?_)
    refine lv_iload_n hx hb dX8_target_27 rfl (lv_at hl 0 rfl) ?_
    exact xw_wreti hx hb hr hlocks hP hD hS h dX8_target_28
  · have h := h.2 c4
    refine lv_bipush (v := -2) hx hb dX8_target_10 (by decide) ?_
    exact xw_wreti hx hb hr hlocks hP hD hS h dX8_target_12

theorem mX8_link_1 : Cond.fieldLink RX8 69 "TagCarrierModel" "words" "I" ∈ wsX8_link := List.mem_of_getElem? (i := 1) rfl
theorem mX8_link_inX8 : ∀ w ∈ u_ws RX8 TX8 22, w ∈ wsX8_link := by decide +kernel
theorem mX8_link_2 : Cond.fieldLink RX8 78 "TagCarrierModel" "target" "I" ∈ wsX8_link := List.mem_of_getElem? (i := 2) rfl
theorem mX8_link_3 : Cond.fieldLink RX8 25 "TagCarrierModel" "links" "[I" ∈ wsX8_link := List.mem_of_getElem? (i := 3) rfl
set_option maxHeartbeats 4000000 in
set_option maxRecDepth 100000 in
theorem c_X8_link (l : Launch) (D : va_G) (cy : Nat → ClassId) (a : Nat → Nat) (x1 : Int32) (x2 : Int32) (I : xw_I) (F : xw_F) (G : xw_G) (post : Int32 → xw_I → xw_F → xw_G → Prop) (h : sm_X8_link x1 x2 I F G post) : xw_Wi l yX8_link wsX8_link ({ frames := 1, cells := 0, slots := 0, locals := 22 }) D cy [.ref (a 0), .int x1, .int x2] (xM_w cy a I F G) (xM_w cy a) post := by
  intro A
  refine Met.ofW (cc := cX8_link) (maxL := 3) (ret := (some .int)) (by decide) rfl ?_
  intro p e s m args below meth c s₁ B hml hv
  obtain ⟨rfl, hP, hB, hD⟩ := hv
  have hP : va_P D vwCl (xM_w cy a I F G) s.heap := hP
  have hx := B.exec
  have hb := B.bytes
  have hr := B.returns
  have hts := atoms_spec (ws := wsX8_link) B.pre
  have hown : s.vm.findClass RX8 = some m.cls := findClass_of_methodNamed B.named
  have hlocks := B.notSynchronized
  have hS : va_S A s.heap s.heap [] := va_S.rf
  refine xw_go (fun WW hWW => ?_)
  have hl := lv_entry ([.ref (a 0), .int x1, .int x2]) (n := 3) (Nat.le_of_ble_eq_true rfl)
  rw [lg_entry_eq]
  generalize (lg_sl ([.ref (a 0), .int x1, .int x2]) ++ List.replicate (3 - (lg_sl ([.ref (a 0), .int x1, .int x2])).length) Slot.unset).toArray = ls at hl ⊢
  have hl : lv_has ls 3 [(0, .ref (a 0)), (1, .int x1), (2, .int x2)] := hl
  unfold sm_X8_link at h
  refine lv_iload_n hx hb dX8_link_0 rfl (lv_at hl 1 rfl) ?_
  refine lv_iconst (v := 0) hx hb dX8_link_1 (by decide) ?_
  refine lv_aload_n hx hb dX8_link_2 rfl (lv_at hl 0 rfl) ?_
  refine va_get (D := D) (ci := 8) (v := .int (I 0)) (C := RX8) (T := TX8) (N := 22) hx hb hts mX8_link_inX8 hown hB.1 hP 0 xM_c0 rfl 0 (by decide) (hts _ mX8_link_1) (fun _ h9 => h9) rfl dX8_link_3 ?_
  refine lv_iconst (v := 1) hx hb dX8_link_6 (by decide) ?_
  refine lv_isub hx hb dX8_link_7 ?_
  refine xw_ri (va_runS (rm := { frames := 0, cells := 0, slots := 0, locals := 0 }) (As := [.int x1, .int (0 : Int32), .int ((I 0) - (1 : Int32))]) (rest := []) ⟨hx, hb, hml, hown, hts⟩ (c_X8_in l D cy x1 (0 : Int32) ((I 0) - (1 : Int32)) _ h (fun _ => True)) (va_cwS 3 hts gX8_link_X8_in rfl rfl rfl (by decide +kernel) ⟨Nat.le_of_ble_eq_true rfl, Nat.le_of_ble_eq_true rfl⟩) (xw_preS hB xw_P0 (xw_D0 (A := fun _ => True))) rfl rfl hl.1 rfl (lv_room (Nat.le_of_ble_eq_true rfl)) dX8_link_8 ⟨Nat.le_of_ble_eq_true rfl, Nat.le_of_ble_eq_true rfl⟩) (fun r6 h => ?_)
  refine lv_if_eq (tgt := 28) hx hb dX8_link_11 (by decide) (fun c7 => ?_) (fun c7 => ?_)
  · have h := h.1 c7
    refine lv_iconst (v := -1) hx hb dX8_link_28 (by decide) ?_
    exact xw_wreti hx hb hr hlocks hP hD hS h dX8_link_29
  · have h := h.2 c7
    refine lv_iload_n hx hb dX8_link_14 rfl (lv_at hl 2 rfl) ?_
    refine lv_iconst (v := 0) hx hb dX8_link_15 (by decide) ?_
    refine lv_aload_n hx hb dX8_link_16 rfl (lv_at hl 0 rfl) ?_
    refine va_get (D := D) (ci := 8) (v := .int (I 2)) (C := RX8) (T := TX8) (N := 22) hx hb hts mX8_link_inX8 hown hB.1 hP 0 xM_c0 rfl 7 (by decide) (hts _ mX8_link_2) (fun _ h9 => h9) rfl dX8_link_17 ?_
    refine lv_iconst (v := 1) hx hb dX8_link_20 (by decide) ?_
    refine lv_isub hx hb dX8_link_21 ?_
    refine xw_ri (va_runS (rm := { frames := 0, cells := 0, slots := 0, locals := 0 }) (As := [.int x2, .int (0 : Int32), .int ((I 2) - (1 : Int32))]) (rest := []) ⟨hx, hb, hml, hown, hts⟩ (c_X8_in l D cy x2 (0 : Int32) ((I 2) - (1 : Int32)) _ h (fun _ => True)) (va_cwS 3 hts gX8_link_X8_in rfl rfl rfl (by decide +kernel) ⟨Nat.le_of_ble_eq_true rfl, Nat.le_of_ble_eq_true rfl⟩) (xw_preS hB xw_P0 (xw_D0 (A := fun _ => True))) rfl rfl hl.1 rfl (lv_room (Nat.le_of_ble_eq_true rfl)) dX8_link_22 ⟨Nat.le_of_ble_eq_true rfl, Nat.le_of_ble_eq_true rfl⟩) (fun r8 h => ?_)
    refine lv_if_ne (tgt := 30) hx hb dX8_link_25 (by decide) (fun c9 => ?_) (fun c9 => ?_)
    · have h := h.1 c9
      refine lv_aload_n hx hb dX8_link_30 rfl (lv_at hl 0 rfl) ?_
      refine va_get (D := D) (ci := 8) (v := .ref (a 6)) (C := RX8) (T := TX8) (N := 22) hx hb hts mX8_link_inX8 hown hB.1 hP 0 xM_c0 rfl 8 (by decide) (hts _ mX8_link_3) (fun _ h9 => h9) rfl dX8_link_31 ?_
      refine lv_iload_n hx hb dX8_link_34 rfl (lv_at hl 1 rfl) ?_
      refine lv_dup2_11 hx hb dX8_link_35 rfl rfl ?_
      refine xw_iald hx hb hB hP 6 xM_c6 h.1 dX8_link_36 (fun v10 ev10 => ?_)
      have h := h.2 v10 ev10
      refine lv_iconst (v := 1) hx hb dX8_link_37 (by decide) ?_
      refine lv_iload_n hx hb dX8_link_38 rfl (lv_at hl 2 rfl) ?_
      refine lv_ishl hx hb dX8_link_39 ?_
      refine lv_ixor hx hb dX8_link_40 ?_
      refine xw_iast hx hb hB hP hD hS 6 xM_c6 h.1 xM_f6 dX8_link_41 (fun H locs hP hD hS => ?_)
      have h := h.2
      obtain ⟨F11, eF11⟩ : ∃ f : xw_F, f = xw_up F 6 (upd (F 6) x1.toNatClampNeg (v10 ^^^ ((1 : Int32) <<< (x2 &&& 31)))) := ⟨_, rfl⟩
      rw [← eF11] at hP hD
      have h := h F11 eF11
      refine lv_aload_n hx hb dX8_link_42 rfl (lv_at hl 0 rfl) ?_
      refine va_get (D := D) (ci := 8) (v := .ref (a 6)) (C := RX8) (T := TX8) (N := 22) hx hb hts mX8_link_inX8 hown hB.1 hP 0 xM_c0 rfl 8 (by decide) (hts _ mX8_link_3) (fun _ h9 => h9) rfl dX8_link_43 ?_
      refine lv_iload_n hx hb dX8_link_46 rfl (lv_at hl 1 rfl) ?_
      refine xw_iald hx hb hB hP 6 xM_c6 h.1 dX8_link_47 (fun v12 ev12 => ?_)
      have h := h.2 v12 ev12
      refine lv_iload_n hx hb dX8_link_48 rfl (lv_at hl 2 rfl) ?_
      refine lv_ishr hx hb dX8_link_49 ?_
      refine lv_iconst (v := 1) hx hb dX8_link_50 (by decide) ?_
      refine lv_iand hx hb dX8_link_51 ?_
      exact xw_wreti hx hb hr hlocks hP hD hS h dX8_link_52
    · have h := h.2 c9
      refine lv_iconst (v := -1) hx hb dX8_link_28 (by decide) ?_
      exact xw_wreti hx hb hr hlocks hP hD hS h dX8_link_29
