theorem mJ6_bitCount_0f7a4_1 : Cond.constant RJ6 265 (1431655765) ∈ wsJ6_bitCount_0f7a4 := List.mem_of_getElem? (i := 1) rfl
theorem mJ6_bitCount_0f7a4_2 : Cond.constant RJ6 266 (858993459) ∈ wsJ6_bitCount_0f7a4 := List.mem_of_getElem? (i := 2) rfl
theorem mJ6_bitCount_0f7a4_3 : Cond.constant RJ6 267 (252645135) ∈ wsJ6_bitCount_0f7a4 := List.mem_of_getElem? (i := 3) rfl
set_option maxHeartbeats 4000000 in
set_option maxRecDepth 100000 in
theorem c_J6_bitCount_0f7a4 (l : Launch) (D : va_G) (cy : Nat → ClassId) (x0 : Int32) (post : Int32 → Prop) (h : sm_J6_bitCount_0f7a4 x0 post) : xw_Ri l yJ6_bitCount_0f7a4 wsJ6_bitCount_0f7a4 ({ frames := 0, cells := 0, slots := 0, locals := 0 }) D cy [.int x0] ([]) post := by
  intro A
  refine Met.ofW (cc := cJ6_bitCount_0f7a4) (maxL := 1) (ret := (some .int)) (by decide) rfl ?_
  intro p e s m args below meth c s₁ B hml hv
  obtain ⟨rfl, hP, hB, hD⟩ := hv
  have hP : va_P D vwCl ([]) s.heap := hP
  have hx := B.exec
  have hb := B.bytes
  have hr := B.returns
  have hts := atoms_spec (ws := wsJ6_bitCount_0f7a4) B.pre
  have hown : s.vm.findClass RJ6 = some m.cls := findClass_of_methodNamed B.named
  have hlocks := B.notSynchronized
  refine xw_go (fun WW hWW => ?_)
  have hl := lv_entry ([.int x0]) (n := 1) (Nat.le_of_ble_eq_true rfl)
  rw [lg_entry_eq]
  generalize (lg_sl ([.int x0]) ++ List.replicate (1 - (lg_sl ([.int x0])).length) Slot.unset).toArray = ls at hl ⊢
  have hl : lv_has ls 1 [(0, .int x0)] := hl
  unfold sm_J6_bitCount_0f7a4 at h
  refine lv_iload_n hx hb dJ6_bitCount_0f7a4_0 rfl (lv_at hl 0 rfl) ?_
  refine lv_iload_n hx hb dJ6_bitCount_0f7a4_1 rfl (lv_at hl 0 rfl) ?_
  refine lv_iconst (v := 1) hx hb dJ6_bitCount_0f7a4_2 (by decide) ?_
  refine lv_iushr hx hb dJ6_bitCount_0f7a4_3 rfl ?_
  refine lv_ldcw hx hb hown (hts _ mJ6_bitCount_0f7a4_1) dJ6_bitCount_0f7a4_4 ?_
  refine lv_iand hx hb dJ6_bitCount_0f7a4_7 ?_
  refine lv_isub hx hb dJ6_bitCount_0f7a4_8 ?_
  refine lv_topi (fun v6 ev6 => ?_)
  have h := h v6 ev6
  refine lv_istore_n (lv' := [(0, .int v6)]) hx hb dJ6_bitCount_0f7a4_9 rfl hl (by decide) rfl (fun ls hl => ?_)
  refine lv_iload_n hx hb dJ6_bitCount_0f7a4_10 rfl (lv_at hl 0 rfl) ?_
  refine lv_ldcw hx hb hown (hts _ mJ6_bitCount_0f7a4_2) dJ6_bitCount_0f7a4_11 ?_
  refine lv_iand hx hb dJ6_bitCount_0f7a4_14 ?_
  refine lv_iload_n hx hb dJ6_bitCount_0f7a4_15 rfl (lv_at hl 0 rfl) ?_
  refine lv_iconst (v := 2) hx hb dJ6_bitCount_0f7a4_16 (by decide) ?_
  refine lv_iushr hx hb dJ6_bitCount_0f7a4_17 rfl ?_
  refine lv_ldcw hx hb hown (hts _ mJ6_bitCount_0f7a4_2) dJ6_bitCount_0f7a4_18 ?_
  refine lv_iand hx hb dJ6_bitCount_0f7a4_21 ?_
  refine lv_iadd hx hb dJ6_bitCount_0f7a4_22 ?_
  refine lv_topi (fun v7 ev7 => ?_)
  have h := h v7 ev7
  refine lv_istore_n (lv' := [(0, .int v7)]) hx hb dJ6_bitCount_0f7a4_23 rfl hl (by decide) rfl (fun ls hl => ?_)
  refine lv_iload_n hx hb dJ6_bitCount_0f7a4_24 rfl (lv_at hl 0 rfl) ?_
  refine lv_iload_n hx hb dJ6_bitCount_0f7a4_25 rfl (lv_at hl 0 rfl) ?_
  refine lv_iconst (v := 4) hx hb dJ6_bitCount_0f7a4_26 (by decide) ?_
  refine lv_iushr hx hb dJ6_bitCount_0f7a4_27 rfl ?_
  refine lv_iadd hx hb dJ6_bitCount_0f7a4_28 ?_
  refine lv_ldcw hx hb hown (hts _ mJ6_bitCount_0f7a4_3) dJ6_bitCount_0f7a4_29 ?_
  refine lv_iand hx hb dJ6_bitCount_0f7a4_32 ?_
  refine lv_topi (fun v8 ev8 => ?_)
  have h := h v8 ev8
  refine lv_istore_n (lv' := [(0, .int v8)]) hx hb dJ6_bitCount_0f7a4_33 rfl hl (by decide) rfl (fun ls hl => ?_)
  refine lv_iload_n hx hb dJ6_bitCount_0f7a4_34 rfl (lv_at hl 0 rfl) ?_
  refine lv_iload_n hx hb dJ6_bitCount_0f7a4_35 rfl (lv_at hl 0 rfl) ?_
  refine lv_bipush (v := 8) hx hb dJ6_bitCount_0f7a4_36 (by decide) ?_
  refine lv_iushr hx hb dJ6_bitCount_0f7a4_38 rfl ?_
  refine lv_iadd hx hb dJ6_bitCount_0f7a4_39 ?_
  refine lv_topi (fun v9 ev9 => ?_)
  have h := h v9 ev9
  refine lv_istore_n (lv' := [(0, .int v9)]) hx hb dJ6_bitCount_0f7a4_40 rfl hl (by decide) rfl (fun ls hl => ?_)
  refine lv_iload_n hx hb dJ6_bitCount_0f7a4_41 rfl (lv_at hl 0 rfl) ?_
  refine lv_iload_n hx hb dJ6_bitCount_0f7a4_42 rfl (lv_at hl 0 rfl) ?_
  refine lv_bipush (v := 16) hx hb dJ6_bitCount_0f7a4_43 (by decide) ?_
  refine lv_iushr hx hb dJ6_bitCount_0f7a4_45 rfl ?_
  refine lv_iadd hx hb dJ6_bitCount_0f7a4_46 ?_
  refine lv_topi (fun v10 ev10 => ?_)
  have h := h v10 ev10
  refine lv_istore_n (lv' := [(0, .int v10)]) hx hb dJ6_bitCount_0f7a4_47 rfl hl (by decide) rfl (fun ls hl => ?_)
  refine lv_iload_n hx hb dJ6_bitCount_0f7a4_48 rfl (lv_at hl 0 rfl) ?_
  refine lv_bipush (v := 63) hx hb dJ6_bitCount_0f7a4_49 (by decide) ?_
  refine lv_iand hx hb dJ6_bitCount_0f7a4_51 ?_
  exact xw_ireti hx hb hr hlocks h dJ6_bitCount_0f7a4_52

set_option maxHeartbeats 4000000 in
set_option maxRecDepth 100000 in
theorem c_X7_has (l : Launch) (D : va_G) (cy : Nat → ClassId) (x0 : Int32) (x1 : Int32) (post : Int32 → Prop) (h : sm_X7_has x0 x1 post) : xw_Ri l yX7_has wsX7_has ({ frames := 0, cells := 0, slots := 0, locals := 0 }) D cy [.int x0, .int x1] ([]) post := by
  intro A
  refine Met.ofW (cc := cX7_has) (maxL := 2) (ret := (some .boolean)) (by decide) rfl ?_
  intro p e s m args below meth c s₁ B hml hv
  obtain ⟨rfl, hP, hB, hD⟩ := hv
  have hP : va_P D vwCl ([]) s.heap := hP
  have hx := B.exec
  have hb := B.bytes
  have hr := B.returns
  have hts := atoms_spec (ws := wsX7_has) B.pre
  have hown : s.vm.findClass RX7 = some m.cls := findClass_of_methodNamed B.named
  have hlocks := B.notSynchronized
  refine xw_go (fun WW hWW => ?_)
  have hl := lv_entry ([.int x0, .int x1]) (n := 2) (Nat.le_of_ble_eq_true rfl)
  rw [lg_entry_eq]
  generalize (lg_sl ([.int x0, .int x1]) ++ List.replicate (2 - (lg_sl ([.int x0, .int x1])).length) Slot.unset).toArray = ls at hl ⊢
  have hl : lv_has ls 2 [(0, .int x0), (1, .int x1)] := hl
  unfold sm_X7_has at h
  refine lv_iload_n hx hb dX7_has_0 rfl (lv_at hl 0 rfl) ?_
  refine lv_iload_n hx hb dX7_has_1 rfl (lv_at hl 1 rfl) ?_
  refine lv_ishr hx hb dX7_has_2 ?_
  refine lv_iconst (v := 1) hx hb dX7_has_3 (by decide) ?_
  refine lv_iand hx hb dX7_has_4 ?_
  refine lv_if_eq (tgt := 12) hx hb dX7_has_5 (by decide) (fun c2 => ?_) (fun c2 => ?_)
  · have h := h.1 c2
    refine lv_iconst (v := 0) hx hb dX7_has_12 (by decide) ?_
    exact xw_iretz hx hb hr hlocks rfl h dX7_has_13
  · have h := h.2 c2
    refine lv_iconst (v := 1) hx hb dX7_has_8 (by decide) ?_
    refine lv_goto (tgt := 13) hx hb dX7_has_9 (by decide) ?_
    exact xw_iretz hx hb hr hlocks rfl h dX7_has_13

theorem mX1_add_1 : Cond.fieldLink RX1 22 "TagCarrier$Pad" "count" "I" ∈ wsX1_add := List.mem_of_getElem? (i := 1) rfl
theorem mX1_add_inX1 : ∀ w ∈ u_ws RX1 TX1 3, w ∈ wsX1_add := by decide +kernel
theorem mX1_add_2 : Cond.fieldLink RX1 18 "TagCarrier$Pad" "signs" "[I" ∈ wsX1_add := List.mem_of_getElem? (i := 2) rfl
set_option maxHeartbeats 4000000 in
set_option maxRecDepth 100000 in
theorem c_X1_add (l : Launch) (D : va_G) (cy : Nat → ClassId) (a : Nat → Nat) (x1 : Int32) (I : xw_I) (F : xw_F) (G : xw_G) (post : Int32 → xw_I → xw_F → xw_G → Prop) (h : sm_X1_add x1 I F G post) : xw_Wi l yX1_add wsX1_add ({ frames := 0, cells := 0, slots := 0, locals := 0 }) D cy [.ref (a 1), .int x1] (xC_w cy a I F G) (xC_w cy a) post := by
  intro A
  refine Met.ofW (cc := cX1_add) (maxL := 2) (ret := (some .boolean)) (by decide) rfl ?_
  intro p e s m args below meth c s₁ B hml hv
  obtain ⟨rfl, hP, hB, hD⟩ := hv
  have hP : va_P D vwCl (xC_w cy a I F G) s.heap := hP
  have hx := B.exec
  have hb := B.bytes
  have hr := B.returns
  have hts := atoms_spec (ws := wsX1_add) B.pre
  have hown : s.vm.findClass RX1 = some m.cls := findClass_of_methodNamed B.named
  have hlocks := B.notSynchronized
  have hS : va_S A s.heap s.heap [] := va_S.rf
  refine xw_go (fun WW hWW => ?_)
  have hl := lv_entry ([.ref (a 1), .int x1]) (n := 2) (Nat.le_of_ble_eq_true rfl)
  rw [lg_entry_eq]
  generalize (lg_sl ([.ref (a 1), .int x1]) ++ List.replicate (2 - (lg_sl ([.ref (a 1), .int x1])).length) Slot.unset).toArray = ls at hl ⊢
  have hl : lv_has ls 2 [(0, .ref (a 1)), (1, .int x1)] := hl
  unfold sm_X1_add at h
  refine lv_aload_n hx hb dX1_add_0 rfl (lv_at hl 0 rfl) ?_
  refine va_get (D := D) (ci := 1) (v := .int (I 1)) (C := RX1) (T := TX1) (N := 3) hx hb hts mX1_add_inX1 hown hB.1 hP 1 xC_c1 rfl 1 (by decide) (hts _ mX1_add_1) (fun _ h9 => h9) rfl dX1_add_1 ?_
  refine lv_bipush (v := 30) hx hb dX1_add_4 (by decide) ?_
  refine lv_icmp_lt (tgt := 11) hx hb dX1_add_6 (by decide) (fun c3 => ?_) (fun c3 => ?_)
  · have h := h.1 c3
    refine lv_aload_n hx hb dX1_add_11 rfl (lv_at hl 0 rfl) ?_
    refine va_get (D := D) (ci := 1) (v := .ref (a 10)) (C := RX1) (T := TX1) (N := 3) hx hb hts mX1_add_inX1 hown hB.1 hP 1 xC_c1 rfl 2 (by decide) (hts _ mX1_add_2) (fun _ h9 => h9) rfl dX1_add_12 ?_
    refine lv_aload_n hx hb dX1_add_15 rfl (lv_at hl 0 rfl) ?_
    refine va_get (D := D) (ci := 1) (v := .int (I 1)) (C := RX1) (T := TX1) (N := 3) hx hb hts mX1_add_inX1 hown hB.1 hP 1 xC_c1 rfl 1 (by decide) (hts _ mX1_add_1) (fun _ h9 => h9) rfl dX1_add_16 ?_
    refine lv_iload_n hx hb dX1_add_19 rfl (lv_at hl 1 rfl) ?_
    refine xw_iast hx hb hB hP hD hS 10 xC_c10 h.1 xC_f10 dX1_add_20 (fun H locs hP hD hS => ?_)
    have h := h.2
    obtain ⟨F4, eF4⟩ : ∃ f : xw_F, f = xw_up F 10 (upd (F 10) (I 1).toNatClampNeg x1) := ⟨_, rfl⟩
    rw [← eF4] at hP hD
    have h := h F4 eF4
    refine lv_aload_n hx hb dX1_add_21 rfl (lv_at hl 0 rfl) ?_
    refine lv_dup hx hb dX1_add_22 rfl ?_
    refine va_get (D := D) (ci := 1) (v := .int (I 1)) (C := RX1) (T := TX1) (N := 3) hx hb hts mX1_add_inX1 hown hB.1 hP 1 xC_c1 rfl 1 (by decide) (hts _ mX1_add_1) (fun _ h9 => h9) rfl dX1_add_23 ?_
    refine lv_iconst (v := 1) hx hb dX1_add_26 (by decide) ?_
    refine lv_iadd hx hb dX1_add_27 ?_
    refine xw_put (D := D) (ci := 1) (v := .int ((I 1) + (1 : Int32))) (ty := .int) (C := RX1) (T := TX1) (N := 3) hx hb hts mX1_add_inX1 tyX1 tyX1_ok nmX1 hown hB hP hD hS 1 xC_c1 rfl 1 (by decide) (hts _ mX1_add_1) (fun _ h9 => h9) rfl (by decide +kernel) rfl rfl (Nat.le_of_ble_eq_true rfl) xC_i1 dX1_add_28 (fun H locs hP hD hS => ?_)
    obtain ⟨I5, eI5⟩ : ∃ f : xw_I, f = xw_up I 1 ((I 1) + (1 : Int32)) := ⟨_, rfl⟩
    rw [← eI5] at hP hD
    have h := h I5 eI5
    refine lv_iconst (v := 1) hx hb dX1_add_31 (by decide) ?_
    exact xw_wretz hx hb hr hlocks hP hD hS rfl h dX1_add_32
  · have h := h.2 c3
    refine lv_iconst (v := 0) hx hb dX1_add_9 (by decide) ?_
    exact xw_wretz hx hb hr hlocks hP hD hS rfl h dX1_add_10

theorem mX4_clear_1 : Cond.fieldLink RX4 33 "TagCarrier$Source" "words" "I" ∈ wsX4_clear := List.mem_of_getElem? (i := 1) rfl
theorem mX4_clear_inX4 : ∀ w ∈ u_ws RX4 TX4 12, w ∈ wsX4_clear := by decide +kernel
theorem mX4_clear_2 : Cond.fieldLink RX4 37 "TagCarrier$Source" "pairs" "I" ∈ wsX4_clear := List.mem_of_getElem? (i := 2) rfl
theorem mX4_clear_3 : Cond.fieldLink RX4 40 "TagCarrier$Source" "marks" "I" ∈ wsX4_clear := List.mem_of_getElem? (i := 3) rfl
theorem mX4_clear_4 : Cond.fieldLink RX4 43 "TagCarrier$Source" "markCount" "I" ∈ wsX4_clear := List.mem_of_getElem? (i := 4) rfl
theorem mX4_clear_5 : Cond.fieldLink RX4 46 "TagCarrier$Source" "openCount" "I" ∈ wsX4_clear := List.mem_of_getElem? (i := 5) rfl
set_option maxHeartbeats 4000000 in
set_option maxRecDepth 100000 in
theorem c_X4_clear (l : Launch) (D : va_G) (cy : Nat → ClassId) (a : Nat → Nat) (I : xw_I) (F : xw_F) (G : xw_G) (post : xw_I → xw_F → xw_G → Prop) (h : sm_X4_clear I F G post) : xw_Wv l yX4_clear wsX4_clear ({ frames := 0, cells := 0, slots := 0, locals := 0 }) D cy [.ref (a 2)] (xC_w cy a I F G) (xC_w cy a) post := by
  intro A
  refine Met.ofW (cc := cX4_clear) (maxL := 1) (ret := none) (by decide) rfl ?_
  intro p e s m args below meth c s₁ B hml hv
  obtain ⟨rfl, hP, hB, hD⟩ := hv
  have hP : va_P D vwCl (xC_w cy a I F G) s.heap := hP
  have hx := B.exec
  have hb := B.bytes
  have hr := B.returns
  have hts := atoms_spec (ws := wsX4_clear) B.pre
  have hown : s.vm.findClass RX4 = some m.cls := findClass_of_methodNamed B.named
  have hlocks := B.notSynchronized
  have hS : va_S A s.heap s.heap [] := va_S.rf
  refine xw_go (fun WW hWW => ?_)
  have hl := lv_entry ([.ref (a 2)]) (n := 1) (Nat.le_of_ble_eq_true rfl)
  rw [lg_entry_eq]
  generalize (lg_sl ([.ref (a 2)]) ++ List.replicate (1 - (lg_sl ([.ref (a 2)])).length) Slot.unset).toArray = ls at hl ⊢
  have hl : lv_has ls 1 [(0, .ref (a 2))] := hl
  unfold sm_X4_clear at h
  refine lv_aload_n hx hb dX4_clear_0 rfl (lv_at hl 0 rfl) ?_
  refine lv_iconst (v := 0) hx hb dX4_clear_1 (by decide) ?_
  refine xw_put (D := D) (ci := 4) (v := .int (0 : Int32)) (ty := .int) (C := RX4) (T := TX4) (N := 12) hx hb hts mX4_clear_inX4 tyX4 tyX4_ok nmX4 hown hB hP hD hS 2 xC_c2 rfl 0 (by decide) (hts _ mX4_clear_1) (fun _ h9 => h9) rfl (by decide +kernel) rfl rfl (Nat.le_of_ble_eq_true rfl) xC_i2 dX4_clear_2 (fun H locs hP hD hS => ?_)
  obtain ⟨I1, eI1⟩ : ∃ f : xw_I, f = xw_up I 2 (0 : Int32) := ⟨_, rfl⟩
  rw [← eI1] at hP hD
  have h := h I1 eI1
  refine lv_aload_n hx hb dX4_clear_5 rfl (lv_at hl 0 rfl) ?_
  refine lv_iconst (v := 0) hx hb dX4_clear_6 (by decide) ?_
  refine xw_put (D := D) (ci := 4) (v := .int (0 : Int32)) (ty := .int) (C := RX4) (T := TX4) (N := 12) hx hb hts mX4_clear_inX4 tyX4 tyX4_ok nmX4 hown hB hP hD hS 2 xC_c2 rfl 1 (by decide) (hts _ mX4_clear_2) (fun _ h9 => h9) rfl (by decide +kernel) rfl rfl (Nat.le_of_ble_eq_true rfl) xC_i3 dX4_clear_7 (fun H locs hP hD hS => ?_)
  obtain ⟨I2, eI2⟩ : ∃ f : xw_I, f = xw_up I1 3 (0 : Int32) := ⟨_, rfl⟩
  rw [← eI2] at hP hD
  have h := h I2 eI2
  refine lv_aload_n hx hb dX4_clear_10 rfl (lv_at hl 0 rfl) ?_
  refine lv_iconst (v := 0) hx hb dX4_clear_11 (by decide) ?_
  refine xw_put (D := D) (ci := 4) (v := .int (0 : Int32)) (ty := .int) (C := RX4) (T := TX4) (N := 12) hx hb hts mX4_clear_inX4 tyX4 tyX4_ok nmX4 hown hB hP hD hS 2 xC_c2 rfl 2 (by decide) (hts _ mX4_clear_3) (fun _ h9 => h9) rfl (by decide +kernel) rfl rfl (Nat.le_of_ble_eq_true rfl) xC_i4 dX4_clear_12 (fun H locs hP hD hS => ?_)
  obtain ⟨I3, eI3⟩ : ∃ f : xw_I, f = xw_up I2 4 (0 : Int32) := ⟨_, rfl⟩
  rw [← eI3] at hP hD
  have h := h I3 eI3
  refine lv_aload_n hx hb dX4_clear_15 rfl (lv_at hl 0 rfl) ?_
  refine lv_iconst (v := 0) hx hb dX4_clear_16 (by decide) ?_
  refine xw_put (D := D) (ci := 4) (v := .int (0 : Int32)) (ty := .int) (C := RX4) (T := TX4) (N := 12) hx hb hts mX4_clear_inX4 tyX4 tyX4_ok nmX4 hown hB hP hD hS 2 xC_c2 rfl 3 (by decide) (hts _ mX4_clear_4) (fun _ h9 => h9) rfl (by decide +kernel) rfl rfl (Nat.le_of_ble_eq_true rfl) xC_i5 dX4_clear_17 (fun H locs hP hD hS => ?_)
  obtain ⟨I4, eI4⟩ : ∃ f : xw_I, f = xw_up I3 5 (0 : Int32) := ⟨_, rfl⟩
  rw [← eI4] at hP hD
  have h := h I4 eI4
  refine lv_aload_n hx hb dX4_clear_20 rfl (lv_at hl 0 rfl) ?_
  refine lv_iconst (v := 0) hx hb dX4_clear_21 (by decide) ?_
  refine xw_put (D := D) (ci := 4) (v := .int (0 : Int32)) (ty := .int) (C := RX4) (T := TX4) (N := 12) hx hb hts mX4_clear_inX4 tyX4 tyX4_ok nmX4 hown hB hP hD hS 2 xC_c2 rfl 4 (by decide) (hts _ mX4_clear_5) (fun _ h9 => h9) rfl (by decide +kernel) rfl rfl (Nat.le_of_ble_eq_true rfl) xC_i6 dX4_clear_22 (fun H locs hP hD hS => ?_)
  obtain ⟨I5, eI5⟩ : ∃ f : xw_I, f = xw_up I4 6 (0 : Int32) := ⟨_, rfl⟩
  rw [← eI5] at hP hD
  have h := h I5 eI5
  exact xw_wretv hx hb hr hlocks hP hD hS h dX4_clear_25

theorem mX4_takeWord_1 : Cond.fieldLink RX4 33 "TagCarrier$Source" "words" "I" ∈ wsX4_takeWord := List.mem_of_getElem? (i := 1) rfl
theorem mX4_takeWord_inX4 : ∀ w ∈ u_ws RX4 TX4 12, w ∈ wsX4_takeWord := by decide +kernel
set_option maxHeartbeats 4000000 in
set_option maxRecDepth 100000 in
theorem c_X4_takeWord (l : Launch) (D : va_G) (cy : Nat → ClassId) (a : Nat → Nat) (I : xw_I) (F : xw_F) (G : xw_G) (post : Int32 → xw_I → xw_F → xw_G → Prop) (h : sm_X4_takeWord I F G post) : xw_Wi l yX4_takeWord wsX4_takeWord ({ frames := 0, cells := 0, slots := 0, locals := 0 }) D cy [.ref (a 2)] (xC_w cy a I F G) (xC_w cy a) post := by
  intro A
  refine Met.ofW (cc := cX4_takeWord) (maxL := 1) (ret := (some .boolean)) (by decide) rfl ?_
  intro p e s m args below meth c s₁ B hml hv
  obtain ⟨rfl, hP, hB, hD⟩ := hv
  have hP : va_P D vwCl (xC_w cy a I F G) s.heap := hP
  have hx := B.exec
  have hb := B.bytes
  have hr := B.returns
  have hts := atoms_spec (ws := wsX4_takeWord) B.pre
  have hown : s.vm.findClass RX4 = some m.cls := findClass_of_methodNamed B.named
  have hlocks := B.notSynchronized
  have hS : va_S A s.heap s.heap [] := va_S.rf
  refine xw_go (fun WW hWW => ?_)
  have hl := lv_entry ([.ref (a 2)]) (n := 1) (Nat.le_of_ble_eq_true rfl)
  rw [lg_entry_eq]
  generalize (lg_sl ([.ref (a 2)]) ++ List.replicate (1 - (lg_sl ([.ref (a 2)])).length) Slot.unset).toArray = ls at hl ⊢
  have hl : lv_has ls 1 [(0, .ref (a 2))] := hl
  unfold sm_X4_takeWord at h
  refine lv_aload_n hx hb dX4_takeWord_0 rfl (lv_at hl 0 rfl) ?_
  refine va_get (D := D) (ci := 4) (v := .int (I 2)) (C := RX4) (T := TX4) (N := 12) hx hb hts mX4_takeWord_inX4 hown hB.1 hP 2 xC_c2 rfl 0 (by decide) (hts _ mX4_takeWord_1) (fun _ h9 => h9) rfl dX4_takeWord_1 ?_
  refine lv_bipush (v := 12) hx hb dX4_takeWord_4 (by decide) ?_
  refine lv_icmp_lt (tgt := 11) hx hb dX4_takeWord_6 (by decide) (fun c2 => ?_) (fun c2 => ?_)
  · have h := h.1 c2
    refine lv_aload_n hx hb dX4_takeWord_11 rfl (lv_at hl 0 rfl) ?_
    refine lv_dup hx hb dX4_takeWord_12 rfl ?_
    refine va_get (D := D) (ci := 4) (v := .int (I 2)) (C := RX4) (T := TX4) (N := 12) hx hb hts mX4_takeWord_inX4 hown hB.1 hP 2 xC_c2 rfl 0 (by decide) (hts _ mX4_takeWord_1) (fun _ h9 => h9) rfl dX4_takeWord_13 ?_
    refine lv_iconst (v := 1) hx hb dX4_takeWord_16 (by decide) ?_
    refine lv_iadd hx hb dX4_takeWord_17 ?_
    refine xw_put (D := D) (ci := 4) (v := .int ((I 2) + (1 : Int32))) (ty := .int) (C := RX4) (T := TX4) (N := 12) hx hb hts mX4_takeWord_inX4 tyX4 tyX4_ok nmX4 hown hB hP hD hS 2 xC_c2 rfl 0 (by decide) (hts _ mX4_takeWord_1) (fun _ h9 => h9) rfl (by decide +kernel) rfl rfl (Nat.le_of_ble_eq_true rfl) xC_i2 dX4_takeWord_18 (fun H locs hP hD hS => ?_)
    obtain ⟨I3, eI3⟩ : ∃ f : xw_I, f = xw_up I 2 ((I 2) + (1 : Int32)) := ⟨_, rfl⟩
    rw [← eI3] at hP hD
    have h := h I3 eI3
    refine lv_iconst (v := 1) hx hb dX4_takeWord_21 (by decide) ?_
    exact xw_wretz hx hb hr hlocks hP hD hS rfl h dX4_takeWord_22
  · have h := h.2 c2
    refine lv_iconst (v := 0) hx hb dX4_takeWord_9 (by decide) ?_
    exact xw_wretz hx hb hr hlocks hP hD hS rfl h dX4_takeWord_10

theorem mX4_takeOpening_1 : Cond.fieldLink RX4 37 "TagCarrier$Source" "pairs" "I" ∈ wsX4_takeOpening := List.mem_of_getElem? (i := 1) rfl
theorem mX4_takeOpening_inX4 : ∀ w ∈ u_ws RX4 TX4 12, w ∈ wsX4_takeOpening := by decide +kernel
theorem mX4_takeOpening_10 : Cond.initialized RX7 ∈ wsX4_takeOpening := List.mem_of_getElem? (i := 10) rfl
theorem mX4_takeOpening_9 : Cond.static yX7_has ∈ wsX4_takeOpening := List.mem_of_getElem? (i := 9) rfl
theorem mX4_takeOpening_2 : Cond.fieldLink RX4 46 "TagCarrier$Source" "openCount" "I" ∈ wsX4_takeOpening := List.mem_of_getElem? (i := 2) rfl
theorem mX4_takeOpening_3 : Cond.fieldLink RX4 9 "TagCarrier$Source" "opens" "[I" ∈ wsX4_takeOpening := List.mem_of_getElem? (i := 3) rfl
theorem mX4_takeOpening_4 : Cond.fieldLink RX4 33 "TagCarrier$Source" "words" "I" ∈ wsX4_takeOpening := List.mem_of_getElem? (i := 4) rfl
theorem mX4_takeOpening_5 : Cond.fieldLink RX4 15 "TagCarrier$Source" "closes" "[I" ∈ wsX4_takeOpening := List.mem_of_getElem? (i := 5) rfl
theorem mX4_takeOpening_6 : Cond.fieldLink RX4 18 "TagCarrier$Source" "holds" "[I" ∈ wsX4_takeOpening := List.mem_of_getElem? (i := 6) rfl
theorem mX4_takeOpening_7 : Cond.fieldLink RX4 21 "TagCarrier$Source" "heldBy" "[I" ∈ wsX4_takeOpening := List.mem_of_getElem? (i := 7) rfl
theorem mX4_takeOpening_8 : Cond.fieldLink RX4 30 "TagCarrier$Source" "openRow" "[I" ∈ wsX4_takeOpening := List.mem_of_getElem? (i := 8) rfl
set_option maxHeartbeats 4000000 in
set_option maxRecDepth 100000 in
theorem c_X4_takeOpening (l : Launch) (D : va_G) (cy : Nat → ClassId) (a : Nat → Nat) (x1 : Int32) (I : xw_I) (F : xw_F) (G : xw_G) (post : Int32 → xw_I → xw_F → xw_G → Prop) (h : sm_X4_takeOpening x1 I F G post) : xw_Wi l yX4_takeOpening wsX4_takeOpening ({ frames := 1, cells := 0, slots := 0, locals := 21 }) D cy [.ref (a 2), .int x1] (xC_w cy a I F G) (xC_w cy a) post := by
  intro A
  refine Met.ofW (cc := cX4_takeOpening) (maxL := 3) (ret := (some .boolean)) (by decide) rfl ?_
  intro p e s m args below meth c s₁ B hml hv
  obtain ⟨rfl, hP, hB, hD⟩ := hv
  have hP : va_P D vwCl (xC_w cy a I F G) s.heap := hP
  have hx := B.exec
  have hb := B.bytes
  have hr := B.returns
  have hts := atoms_spec (ws := wsX4_takeOpening) B.pre
  have hown : s.vm.findClass RX4 = some m.cls := findClass_of_methodNamed B.named
  have hlocks := B.notSynchronized
  have hS : va_S A s.heap s.heap [] := va_S.rf
  refine xw_go (fun WW hWW => ?_)
  have hl := lv_entry ([.ref (a 2), .int x1]) (n := 3) (Nat.le_of_ble_eq_true rfl)
  rw [lg_entry_eq]
  generalize (lg_sl ([.ref (a 2), .int x1]) ++ List.replicate (3 - (lg_sl ([.ref (a 2), .int x1])).length) Slot.unset).toArray = ls at hl ⊢
  have hl : lv_has ls 3 [(0, .ref (a 2)), (1, .int x1)] := hl
  obtain ⟨k69, mk69, el69⟩ : ∃ K : Int32 → xw_I → xw_F → xw_G → Prop, (∀ (y2 : Int32) (I : xw_I) (F : xw_F) (G : xw_G), (∀ (H : Heap) (locs : List Loc) (ls : Array Slot), va_P D vwCl (xC_w cy a I F G) H → va_D A (xC_w cy a I F G) → va_S A s.heap H locs → lv_has ls 3 [(0, .ref (a 2)), (1, .int x1), (2, .int y2)] → WW H locs (F0 m 69 ls [])) → K y2 I F G) ∧ (∀ (y2 : Int32) (I : xw_I) (F : xw_F) (G : xw_G), K y2 I F G → (∀ (H : Heap) (locs : List Loc) (ls : Array Slot), va_P D vwCl (xC_w cy a I F G) H → va_D A (xC_w cy a I F G) → va_S A s.heap H locs → lv_has ls 3 [(0, .ref (a 2)), (1, .int x1), (2, .int y2)] → WW H locs (F0 m 69 ls []))) := ⟨fun (y2 : Int32) (I : xw_I) (F : xw_F) (G : xw_G) => (∀ (H : Heap) (locs : List Loc) (ls : Array Slot), va_P D vwCl (xC_w cy a I F G) H → va_D A (xC_w cy a I F G) → va_S A s.heap H locs → lv_has ls 3 [(0, .ref (a 2)), (1, .int x1), (2, .int y2)] → WW H locs (F0 m 69 ls [])), fun _ _ _ _ h => h, fun _ _ _ _ h => h⟩
  have rl69 : ∀ (y2 : Int32) (I : xw_I) (F : xw_F) (G : xw_G), (bd_X4_takeOpening_69 x1 post k69 y2 I F G) → k69 y2 I F G := by
    intro y2 I F G h
    refine mk69 _ _ _ _ ?_
    intro H locs ls hP hD hS hl
    refine (hWW _ _ _).mpr ?_
    unfold bd_X4_takeOpening_69 at h
    refine lv_iload_n hx hb dX4_takeOpening_69 rfl (lv_at hl 2 rfl) ?_
    refine lv_aload_n hx hb dX4_takeOpening_70 rfl (lv_at hl 0 rfl) ?_
    refine va_get (D := D) (ci := 4) (v := .int (I 6)) (C := RX4) (T := TX4) (N := 12) hx hb hts mX4_takeOpening_inX4 hown hB.1 hP 2 xC_c2 rfl 4 (by decide) (hts _ mX4_takeOpening_2) (fun _ h9 => h9) rfl dX4_takeOpening_71 ?_
    refine lv_icmp_ge (tgt := 117) hx hb dX4_takeOpening_74 (by decide) (fun c24 => ?_) (fun c24 => ?_)
    · have h := h.1 c24
      refine lv_aload_n hx hb dX4_takeOpening_117 rfl (lv_at hl 0 rfl) ?_
      refine va_get (D := D) (ci := 4) (v := .ref (a 9)) (C := RX4) (T := TX4) (N := 12) hx hb hts mX4_takeOpening_inX4 hown hB.1 hP 2 xC_c2 rfl 11 (by decide) (hts _ mX4_takeOpening_8) (fun _ h9 => h9) rfl dX4_takeOpening_118 ?_
      refine lv_aload_n hx hb dX4_takeOpening_121 rfl (lv_at hl 0 rfl) ?_
      refine va_get (D := D) (ci := 4) (v := .int (I 6)) (C := RX4) (T := TX4) (N := 12) hx hb hts mX4_takeOpening_inX4 hown hB.1 hP 2 xC_c2 rfl 4 (by decide) (hts _ mX4_takeOpening_2) (fun _ h9 => h9) rfl dX4_takeOpening_122 ?_
      refine lv_iload_n hx hb dX4_takeOpening_125 rfl (lv_at hl 1 rfl) ?_
      refine xw_iast hx hb hB hP hD hS 9 xC_c9 h.1 xC_f9 dX4_takeOpening_126 (fun H locs hP hD hS => ?_)
      have h := h.2
      obtain ⟨F25, eF25⟩ : ∃ f : xw_F, f = xw_up F 9 (upd (F 9) (I 6).toNatClampNeg x1) := ⟨_, rfl⟩
      rw [← eF25] at hP hD
      have h := h F25 eF25
      refine lv_aload_n hx hb dX4_takeOpening_127 rfl (lv_at hl 0 rfl) ?_
      refine lv_dup hx hb dX4_takeOpening_128 rfl ?_
      refine va_get (D := D) (ci := 4) (v := .int (I 6)) (C := RX4) (T := TX4) (N := 12) hx hb hts mX4_takeOpening_inX4 hown hB.1 hP 2 xC_c2 rfl 4 (by decide) (hts _ mX4_takeOpening_2) (fun _ h9 => h9) rfl dX4_takeOpening_129 ?_
      refine lv_iconst (v := 1) hx hb dX4_takeOpening_132 (by decide) ?_
      refine lv_iadd hx hb dX4_takeOpening_133 ?_
      refine xw_put (D := D) (ci := 4) (v := .int ((I 6) + (1 : Int32))) (ty := .int) (C := RX4) (T := TX4) (N := 12) hx hb hts mX4_takeOpening_inX4 tyX4 tyX4_ok nmX4 hown hB hP hD hS 2 xC_c2 rfl 4 (by decide) (hts _ mX4_takeOpening_2) (fun _ h9 => h9) rfl (by decide +kernel) rfl rfl (Nat.le_of_ble_eq_true rfl) xC_i6 dX4_takeOpening_134 (fun H locs hP hD hS => ?_)
      obtain ⟨I26, eI26⟩ : ∃ f : xw_I, f = xw_up I 6 ((I 6) + (1 : Int32)) := ⟨_, rfl⟩
      rw [← eI26] at hP hD
      have h := h I26 eI26
      refine lv_iconst (v := 1) hx hb dX4_takeOpening_137 (by decide) ?_
      exact xw_wretz hx hb hr hlocks hP hD hS rfl h dX4_takeOpening_138
    · have h := h.2 c24
      refine lv_aload_n hx hb dX4_takeOpening_77 rfl (lv_at hl 0 rfl) ?_
      refine va_get (D := D) (ci := 4) (v := .ref (a 5)) (C := RX4) (T := TX4) (N := 12) hx hb hts mX4_takeOpening_inX4 hown hB.1 hP 2 xC_c2 rfl 7 (by decide) (hts _ mX4_takeOpening_6) (fun _ h9 => h9) rfl dX4_takeOpening_78 ?_
      refine lv_aload_n hx hb dX4_takeOpening_81 rfl (lv_at hl 0 rfl) ?_
      refine va_get (D := D) (ci := 4) (v := .ref (a 9)) (C := RX4) (T := TX4) (N := 12) hx hb hts mX4_takeOpening_inX4 hown hB.1 hP 2 xC_c2 rfl 11 (by decide) (hts _ mX4_takeOpening_8) (fun _ h9 => h9) rfl dX4_takeOpening_82 ?_
      refine lv_iload_n hx hb dX4_takeOpening_85 rfl (lv_at hl 2 rfl) ?_
      refine xw_iald hx hb hB hP 9 xC_c9 h.1 dX4_takeOpening_86 (fun v27 ev27 => ?_)
      have h := h.2 v27 ev27
      refine lv_dup2_11 hx hb dX4_takeOpening_87 rfl rfl ?_
      refine xw_iald hx hb hB hP 5 xC_c5 h.1 dX4_takeOpening_88 (fun v28 ev28 => ?_)
      have h := h.2 v28 ev28
      refine lv_iconst (v := 1) hx hb dX4_takeOpening_89 (by decide) ?_
      refine lv_iload_n hx hb dX4_takeOpening_90 rfl (lv_at hl 1 rfl) ?_
      refine lv_ishl hx hb dX4_takeOpening_91 ?_
      refine lv_ior hx hb dX4_takeOpening_92 ?_
      refine xw_iast hx hb hB hP hD hS 5 xC_c5 h.1 xC_f5 dX4_takeOpening_93 (fun H locs hP hD hS => ?_)
      have h := h.2
      obtain ⟨F29, eF29⟩ : ∃ f : xw_F, f = xw_up F 5 (upd (F 5) v27.toNatClampNeg (v28 ||| ((1 : Int32) <<< (x1 &&& 31)))) := ⟨_, rfl⟩
      rw [← eF29] at hP hD
      have h := h F29 eF29
      refine lv_aload_n hx hb dX4_takeOpening_94 rfl (lv_at hl 0 rfl) ?_
      refine va_get (D := D) (ci := 4) (v := .ref (a 6)) (C := RX4) (T := TX4) (N := 12) hx hb hts mX4_takeOpening_inX4 hown hB.1 hP 2 xC_c2 rfl 8 (by decide) (hts _ mX4_takeOpening_7) (fun _ h9 => h9) rfl dX4_takeOpening_95 ?_
      refine lv_iload_n hx hb dX4_takeOpening_98 rfl (lv_at hl 1 rfl) ?_
      refine lv_dup2_11 hx hb dX4_takeOpening_99 rfl rfl ?_
      refine xw_iald hx hb hB hP 6 xC_c6 h.1 dX4_takeOpening_100 (fun v30 ev30 => ?_)
      have h := h.2 v30 ev30
      refine lv_iconst (v := 1) hx hb dX4_takeOpening_101 (by decide) ?_
      refine lv_aload_n hx hb dX4_takeOpening_102 rfl (lv_at hl 0 rfl) ?_
      refine va_get (D := D) (ci := 4) (v := .ref (a 9)) (C := RX4) (T := TX4) (N := 12) hx hb hts mX4_takeOpening_inX4 hown hB.1 hP 2 xC_c2 rfl 11 (by decide) (hts _ mX4_takeOpening_8) (fun _ h9 => h9) rfl dX4_takeOpening_103 ?_
      refine lv_iload_n hx hb dX4_takeOpening_106 rfl (lv_at hl 2 rfl) ?_
      refine xw_iald hx hb hB hP 9 xC_c9 h.1 dX4_takeOpening_107 (fun v31 ev31 => ?_)
      have h := h.2 v31 ev31
      refine lv_ishl hx hb dX4_takeOpening_108 ?_
      refine lv_ior hx hb dX4_takeOpening_109 ?_
      refine xw_iast hx hb hB hP hD hS 6 xC_c6 h.1 xC_f6 dX4_takeOpening_110 (fun H locs hP hD hS => ?_)
      have h := h.2
      obtain ⟨F32, eF32⟩ : ∃ f : xw_F, f = xw_up F29 6 (upd (F29 6) x1.toNatClampNeg (v30 ||| ((1 : Int32) <<< (v31 &&& 31)))) := ⟨_, rfl⟩
      rw [← eF32] at hP hD
      have h := h F32 eF32
      obtain ⟨v33, ev33⟩ : ∃ y : Int32, y = y2 + 1 := ⟨_, rfl⟩
      have h := h v33 ev33
      refine lv_iinc (v := v33) (lv' := [(2, .int v33), (0, .ref (a 2)), (1, .int x1)]) hx hb dX4_takeOpening_111 hl (k := 2) rfl (by rw [ev33]; rfl) (by decide) rfl (fun ls hl => ?_)
      refine lv_goto (tgt := 69) hx hb dX4_takeOpening_114 (by decide) ?_
      exact (hWW _ _ _).mp (el69 _ _ _ _ h _ _ ls hP hD hS (lv_sub hl [1, 2, 0] rfl))
  have h := h k69 rl69
  unfold bd_X4_takeOpening_0 at h
  refine lv_aload_n hx hb dX4_takeOpening_0 rfl (lv_at hl 0 rfl) ?_
  refine va_get (D := D) (ci := 4) (v := .int (I 3)) (C := RX4) (T := TX4) (N := 12) hx hb hts mX4_takeOpening_inX4 hown hB.1 hP 2 xC_c2 rfl 1 (by decide) (hts _ mX4_takeOpening_1) (fun _ h9 => h9) rfl dX4_takeOpening_1 ?_
  refine lv_iload_n hx hb dX4_takeOpening_4 rfl (lv_at hl 1 rfl) ?_
  refine xw_ri (va_runSN (rm := { frames := 0, cells := 0, slots := 0, locals := 0 }) (As := [.int (I 3), .int x1]) (rest := []) ⟨hx, hb, hml, hown, hts⟩ (c_X7_has l D cy (I 3) x1 _ h (fun _ => True)) (⟨va_cnB 2 hts gX4_takeOpening_X7_has_n63 rfl rfl rfl (hB.2 8 _ rfl) (hts _ mX4_takeOpening_10) (by decide +kernel) ⟨Nat.le_of_ble_eq_true rfl, Nat.le_of_ble_eq_true rfl⟩, hts _ mX4_takeOpening_9, trivial⟩) (xw_preS hB xw_P0 (xw_D0 (A := fun _ => True))) rfl rfl hl.1 rfl (lv_room (Nat.le_of_ble_eq_true rfl)) dX4_takeOpening_5 ⟨Nat.le_of_ble_eq_true rfl, Nat.le_of_ble_eq_true rfl⟩) (fun r16 h => ?_)
  refine lv_if_ne (tgt := 19) hx hb dX4_takeOpening_8 (by decide) (fun c17 => ?_) (fun c17 => ?_)
  · have h := h.1 c17
    refine lv_iconst (v := 0) hx hb dX4_takeOpening_19 (by decide) ?_
    exact xw_wretz hx hb hr hlocks hP hD hS rfl h dX4_takeOpening_20
  · have h := h.2 c17
    refine lv_aload_n hx hb dX4_takeOpening_11 rfl (lv_at hl 0 rfl) ?_
    refine va_get (D := D) (ci := 4) (v := .int (I 6)) (C := RX4) (T := TX4) (N := 12) hx hb hts mX4_takeOpening_inX4 hown hB.1 hP 2 xC_c2 rfl 4 (by decide) (hts _ mX4_takeOpening_2) (fun _ h9 => h9) rfl dX4_takeOpening_12 ?_
    refine lv_iconst (v := 5) hx hb dX4_takeOpening_15 (by decide) ?_
    refine lv_icmp_lt (tgt := 21) hx hb dX4_takeOpening_16 (by decide) (fun c18 => ?_) (fun c18 => ?_)
    · have h := h.1 c18
      refine lv_aload_n hx hb dX4_takeOpening_21 rfl (lv_at hl 0 rfl) ?_
      refine lv_dup hx hb dX4_takeOpening_22 rfl ?_
      refine va_get (D := D) (ci := 4) (v := .int (I 3)) (C := RX4) (T := TX4) (N := 12) hx hb hts mX4_takeOpening_inX4 hown hB.1 hP 2 xC_c2 rfl 1 (by decide) (hts _ mX4_takeOpening_1) (fun _ h9 => h9) rfl dX4_takeOpening_23 ?_
      refine lv_iconst (v := 1) hx hb dX4_takeOpening_26 (by decide) ?_
      refine lv_iload_n hx hb dX4_takeOpening_27 rfl (lv_at hl 1 rfl) ?_
      refine lv_ishl hx hb dX4_takeOpening_28 ?_
      refine lv_ior hx hb dX4_takeOpening_29 ?_
      refine xw_put (D := D) (ci := 4) (v := .int ((I 3) ||| ((1 : Int32) <<< (x1 &&& 31)))) (ty := .int) (C := RX4) (T := TX4) (N := 12) hx hb hts mX4_takeOpening_inX4 tyX4 tyX4_ok nmX4 hown hB hP hD hS 2 xC_c2 rfl 1 (by decide) (hts _ mX4_takeOpening_1) (fun _ h9 => h9) rfl (by decide +kernel) rfl rfl (Nat.le_of_ble_eq_true rfl) xC_i3 dX4_takeOpening_30 (fun H locs hP hD hS => ?_)
      obtain ⟨I19, eI19⟩ : ∃ f : xw_I, f = xw_up I 3 ((I 3) ||| ((1 : Int32) <<< (x1 &&& 31))) := ⟨_, rfl⟩
      rw [← eI19] at hP hD
      have h := h I19 eI19
      refine lv_aload_n hx hb dX4_takeOpening_33 rfl (lv_at hl 0 rfl) ?_
      refine va_get (D := D) (ci := 4) (v := .ref (a 3)) (C := RX4) (T := TX4) (N := 12) hx hb hts mX4_takeOpening_inX4 hown hB.1 hP 2 xC_c2 rfl 5 (by decide) (hts _ mX4_takeOpening_3) (fun _ h9 => h9) rfl dX4_takeOpening_34 ?_
      refine lv_iload_n hx hb dX4_takeOpening_37 rfl (lv_at hl 1 rfl) ?_
      refine lv_aload_n hx hb dX4_takeOpening_38 rfl (lv_at hl 0 rfl) ?_
      refine va_get (D := D) (ci := 4) (v := .int (I19 2)) (C := RX4) (T := TX4) (N := 12) hx hb hts mX4_takeOpening_inX4 hown hB.1 hP 2 xC_c2 rfl 0 (by decide) (hts _ mX4_takeOpening_4) (fun _ h9 => h9) rfl dX4_takeOpening_39 ?_
      refine xw_iast hx hb hB hP hD hS 3 xC_c3 h.1 xC_f3 dX4_takeOpening_42 (fun H locs hP hD hS => ?_)
      have h := h.2
      obtain ⟨F20, eF20⟩ : ∃ f : xw_F, f = xw_up F 3 (upd (F 3) x1.toNatClampNeg (I19 2)) := ⟨_, rfl⟩
      rw [← eF20] at hP hD
      have h := h F20 eF20
      refine lv_aload_n hx hb dX4_takeOpening_43 rfl (lv_at hl 0 rfl) ?_
      refine va_get (D := D) (ci := 4) (v := .ref (a 4)) (C := RX4) (T := TX4) (N := 12) hx hb hts mX4_takeOpening_inX4 hown hB.1 hP 2 xC_c2 rfl 6 (by decide) (hts _ mX4_takeOpening_5) (fun _ h9 => h9) rfl dX4_takeOpening_44 ?_
      refine lv_iload_n hx hb dX4_takeOpening_47 rfl (lv_at hl 1 rfl) ?_
      refine lv_aload_n hx hb dX4_takeOpening_48 rfl (lv_at hl 0 rfl) ?_
      refine va_get (D := D) (ci := 4) (v := .int (I19 2)) (C := RX4) (T := TX4) (N := 12) hx hb hts mX4_takeOpening_inX4 hown hB.1 hP 2 xC_c2 rfl 0 (by decide) (hts _ mX4_takeOpening_4) (fun _ h9 => h9) rfl dX4_takeOpening_49 ?_
      refine xw_iast hx hb hB hP hD hS 4 xC_c4 h.1 xC_f4 dX4_takeOpening_52 (fun H locs hP hD hS => ?_)
      have h := h.2
      obtain ⟨F21, eF21⟩ : ∃ f : xw_F, f = xw_up F20 4 (upd (F20 4) x1.toNatClampNeg (I19 2)) := ⟨_, rfl⟩
      rw [← eF21] at hP hD
      have h := h F21 eF21
      refine lv_aload_n hx hb dX4_takeOpening_53 rfl (lv_at hl 0 rfl) ?_
      refine va_get (D := D) (ci := 4) (v := .ref (a 5)) (C := RX4) (T := TX4) (N := 12) hx hb hts mX4_takeOpening_inX4 hown hB.1 hP 2 xC_c2 rfl 7 (by decide) (hts _ mX4_takeOpening_6) (fun _ h9 => h9) rfl dX4_takeOpening_54 ?_
      refine lv_iload_n hx hb dX4_takeOpening_57 rfl (lv_at hl 1 rfl) ?_
      refine lv_iconst (v := 0) hx hb dX4_takeOpening_58 (by decide) ?_
      refine xw_iast hx hb hB hP hD hS 5 xC_c5 h.1 xC_f5 dX4_takeOpening_59 (fun H locs hP hD hS => ?_)
      have h := h.2
      obtain ⟨F22, eF22⟩ : ∃ f : xw_F, f = xw_up F21 5 (upd (F21 5) x1.toNatClampNeg (0 : Int32)) := ⟨_, rfl⟩
      rw [← eF22] at hP hD
      have h := h F22 eF22
      refine lv_aload_n hx hb dX4_takeOpening_60 rfl (lv_at hl 0 rfl) ?_
      refine va_get (D := D) (ci := 4) (v := .ref (a 6)) (C := RX4) (T := TX4) (N := 12) hx hb hts mX4_takeOpening_inX4 hown hB.1 hP 2 xC_c2 rfl 8 (by decide) (hts _ mX4_takeOpening_7) (fun _ h9 => h9) rfl dX4_takeOpening_61 ?_
      refine lv_iload_n hx hb dX4_takeOpening_64 rfl (lv_at hl 1 rfl) ?_
      refine lv_iconst (v := 0) hx hb dX4_takeOpening_65 (by decide) ?_
      refine xw_iast hx hb hB hP hD hS 6 xC_c6 h.1 xC_f6 dX4_takeOpening_66 (fun H locs hP hD hS => ?_)
      have h := h.2
      obtain ⟨F23, eF23⟩ : ∃ f : xw_F, f = xw_up F22 6 (upd (F22 6) x1.toNatClampNeg (0 : Int32)) := ⟨_, rfl⟩
      rw [← eF23] at hP hD
      have h := h F23 eF23
      refine lv_iconst (v := 0) hx hb dX4_takeOpening_67 (by decide) ?_
      refine lv_istore_n (lv' := [(2, .int (0 : Int32)), (0, .ref (a 2)), (1, .int x1)]) hx hb dX4_takeOpening_68 rfl hl (by decide) rfl (fun ls hl => ?_)
      exact (hWW _ _ _).mp (el69 _ _ _ _ h _ _ ls hP hD hS (lv_sub hl [1, 2, 0] rfl))
    · have h := h.2 c18
      refine lv_iconst (v := 0) hx hb dX4_takeOpening_19 (by decide) ?_
      exact xw_wretz hx hb hr hlocks hP hD hS rfl h dX4_takeOpening_20

theorem mX4_takeClosing_1 : Cond.fieldLink RX4 46 "TagCarrier$Source" "openCount" "I" ∈ wsX4_takeClosing := List.mem_of_getElem? (i := 1) rfl
theorem mX4_takeClosing_inX4 : ∀ w ∈ u_ws RX4 TX4 12, w ∈ wsX4_takeClosing := by decide +kernel
theorem mX4_takeClosing_2 : Cond.fieldLink RX4 30 "TagCarrier$Source" "openRow" "[I" ∈ wsX4_takeClosing := List.mem_of_getElem? (i := 2) rfl
theorem mX4_takeClosing_3 : Cond.fieldLink RX4 15 "TagCarrier$Source" "closes" "[I" ∈ wsX4_takeClosing := List.mem_of_getElem? (i := 3) rfl
theorem mX4_takeClosing_4 : Cond.fieldLink RX4 33 "TagCarrier$Source" "words" "I" ∈ wsX4_takeClosing := List.mem_of_getElem? (i := 4) rfl
set_option maxHeartbeats 4000000 in
set_option maxRecDepth 100000 in
theorem c_X4_takeClosing (l : Launch) (D : va_G) (cy : Nat → ClassId) (a : Nat → Nat) (x1 : Int32) (I : xw_I) (F : xw_F) (G : xw_G) (post : Int32 → xw_I → xw_F → xw_G → Prop) (h : sm_X4_takeClosing x1 I F G post) : xw_Wi l yX4_takeClosing wsX4_takeClosing ({ frames := 0, cells := 0, slots := 0, locals := 0 }) D cy [.ref (a 2), .int x1] (xC_w cy a I F G) (xC_w cy a) post := by
  intro A
  refine Met.ofW (cc := cX4_takeClosing) (maxL := 2) (ret := (some .boolean)) (by decide) rfl ?_
  intro p e s m args below meth c s₁ B hml hv
  obtain ⟨rfl, hP, hB, hD⟩ := hv
  have hP : va_P D vwCl (xC_w cy a I F G) s.heap := hP
  have hx := B.exec
  have hb := B.bytes
  have hr := B.returns
  have hts := atoms_spec (ws := wsX4_takeClosing) B.pre
  have hown : s.vm.findClass RX4 = some m.cls := findClass_of_methodNamed B.named
  have hlocks := B.notSynchronized
  have hS : va_S A s.heap s.heap [] := va_S.rf
  refine xw_go (fun WW hWW => ?_)
  have hl := lv_entry ([.ref (a 2), .int x1]) (n := 2) (Nat.le_of_ble_eq_true rfl)
  rw [lg_entry_eq]
  generalize (lg_sl ([.ref (a 2), .int x1]) ++ List.replicate (2 - (lg_sl ([.ref (a 2), .int x1])).length) Slot.unset).toArray = ls at hl ⊢
  have hl : lv_has ls 2 [(0, .ref (a 2)), (1, .int x1)] := hl
  unfold sm_X4_takeClosing at h
  refine lv_aload_n hx hb dX4_takeClosing_0 rfl (lv_at hl 0 rfl) ?_
  refine va_get (D := D) (ci := 4) (v := .int (I 6)) (C := RX4) (T := TX4) (N := 12) hx hb hts mX4_takeClosing_inX4 hown hB.1 hP 2 xC_c2 rfl 4 (by decide) (hts _ mX4_takeClosing_1) (fun _ h9 => h9) rfl dX4_takeClosing_1 ?_
  refine lv_iconst (v := 1) hx hb dX4_takeClosing_4 (by decide) ?_
  refine lv_icmp_lt (tgt := 23) hx hb dX4_takeClosing_5 (by decide) (fun c5 => ?_) (fun c5 => ?_)
  · have h := h.1 c5
    refine lv_iconst (v := 0) hx hb dX4_takeClosing_23 (by decide) ?_
    exact xw_wretz hx hb hr hlocks hP hD hS rfl h dX4_takeClosing_24
  · have h := h.2 c5
    refine lv_aload_n hx hb dX4_takeClosing_8 rfl (lv_at hl 0 rfl) ?_
    refine va_get (D := D) (ci := 4) (v := .ref (a 9)) (C := RX4) (T := TX4) (N := 12) hx hb hts mX4_takeClosing_inX4 hown hB.1 hP 2 xC_c2 rfl 11 (by decide) (hts _ mX4_takeClosing_2) (fun _ h9 => h9) rfl dX4_takeClosing_9 ?_
    refine lv_aload_n hx hb dX4_takeClosing_12 rfl (lv_at hl 0 rfl) ?_
    refine va_get (D := D) (ci := 4) (v := .int (I 6)) (C := RX4) (T := TX4) (N := 12) hx hb hts mX4_takeClosing_inX4 hown hB.1 hP 2 xC_c2 rfl 4 (by decide) (hts _ mX4_takeClosing_1) (fun _ h9 => h9) rfl dX4_takeClosing_13 ?_
    refine lv_iconst (v := 1) hx hb dX4_takeClosing_16 (by decide) ?_
    refine lv_isub hx hb dX4_takeClosing_17 ?_
    refine xw_iald hx hb hB hP 9 xC_c9 h.1 dX4_takeClosing_18 (fun v6 ev6 => ?_)
    have h := h.2 v6 ev6
    refine lv_iload_n hx hb dX4_takeClosing_19 rfl (lv_at hl 1 rfl) ?_
    refine lv_icmp_eq (tgt := 25) hx hb dX4_takeClosing_20 (by decide) (fun c7 => ?_) (fun c7 => ?_)
    · have h := h.1 c7
      refine lv_aload_n hx hb dX4_takeClosing_25 rfl (lv_at hl 0 rfl) ?_
      refine lv_dup hx hb dX4_takeClosing_26 rfl ?_
      refine va_get (D := D) (ci := 4) (v := .int (I 6)) (C := RX4) (T := TX4) (N := 12) hx hb hts mX4_takeClosing_inX4 hown hB.1 hP 2 xC_c2 rfl 4 (by decide) (hts _ mX4_takeClosing_1) (fun _ h9 => h9) rfl dX4_takeClosing_27 ?_
      refine lv_iconst (v := 1) hx hb dX4_takeClosing_30 (by decide) ?_
      refine lv_isub hx hb dX4_takeClosing_31 ?_
      refine xw_put (D := D) (ci := 4) (v := .int ((I 6) - (1 : Int32))) (ty := .int) (C := RX4) (T := TX4) (N := 12) hx hb hts mX4_takeClosing_inX4 tyX4 tyX4_ok nmX4 hown hB hP hD hS 2 xC_c2 rfl 4 (by decide) (hts _ mX4_takeClosing_1) (fun _ h9 => h9) rfl (by decide +kernel) rfl rfl (Nat.le_of_ble_eq_true rfl) xC_i6 dX4_takeClosing_32 (fun H locs hP hD hS => ?_)
      obtain ⟨I8, eI8⟩ : ∃ f : xw_I, f = xw_up I 6 ((I 6) - (1 : Int32)) := ⟨_, rfl⟩
      rw [← eI8] at hP hD
      have h := h I8 eI8
      refine lv_aload_n hx hb dX4_takeClosing_35 rfl (lv_at hl 0 rfl) ?_
      refine va_get (D := D) (ci := 4) (v := .ref (a 4)) (C := RX4) (T := TX4) (N := 12) hx hb hts mX4_takeClosing_inX4 hown hB.1 hP 2 xC_c2 rfl 6 (by decide) (hts _ mX4_takeClosing_3) (fun _ h9 => h9) rfl dX4_takeClosing_36 ?_
      refine lv_iload_n hx hb dX4_takeClosing_39 rfl (lv_at hl 1 rfl) ?_
      refine lv_aload_n hx hb dX4_takeClosing_40 rfl (lv_at hl 0 rfl) ?_
      refine va_get (D := D) (ci := 4) (v := .int (I8 2)) (C := RX4) (T := TX4) (N := 12) hx hb hts mX4_takeClosing_inX4 hown hB.1 hP 2 xC_c2 rfl 0 (by decide) (hts _ mX4_takeClosing_4) (fun _ h9 => h9) rfl dX4_takeClosing_41 ?_
      refine xw_iast hx hb hB hP hD hS 4 xC_c4 h.1 xC_f4 dX4_takeClosing_44 (fun H locs hP hD hS => ?_)
      have h := h.2
      obtain ⟨F9, eF9⟩ : ∃ f : xw_F, f = xw_up F 4 (upd (F 4) x1.toNatClampNeg (I8 2)) := ⟨_, rfl⟩
      rw [← eF9] at hP hD
      have h := h F9 eF9
      refine lv_iconst (v := 1) hx hb dX4_takeClosing_45 (by decide) ?_
      exact xw_wretz hx hb hr hlocks hP hD hS rfl h dX4_takeClosing_46
    · have h := h.2 c7
      refine lv_iconst (v := 0) hx hb dX4_takeClosing_23 (by decide) ?_
      exact xw_wretz hx hb hr hlocks hP hD hS rfl h dX4_takeClosing_24

theorem mX4_takeMark_1 : Cond.fieldLink RX4 40 "TagCarrier$Source" "marks" "I" ∈ wsX4_takeMark := List.mem_of_getElem? (i := 1) rfl
theorem mX4_takeMark_inX4 : ∀ w ∈ u_ws RX4 TX4 12, w ∈ wsX4_takeMark := by decide +kernel
theorem mX4_takeMark_7 : Cond.initialized RX7 ∈ wsX4_takeMark := List.mem_of_getElem? (i := 7) rfl
theorem mX4_takeMark_6 : Cond.static yX7_has ∈ wsX4_takeMark := List.mem_of_getElem? (i := 6) rfl
theorem mX4_takeMark_2 : Cond.fieldLink RX4 43 "TagCarrier$Source" "markCount" "I" ∈ wsX4_takeMark := List.mem_of_getElem? (i := 2) rfl
theorem mX4_takeMark_3 : Cond.fieldLink RX4 24 "TagCarrier$Source" "markGap" "[I" ∈ wsX4_takeMark := List.mem_of_getElem? (i := 3) rfl
theorem mX4_takeMark_4 : Cond.fieldLink RX4 33 "TagCarrier$Source" "words" "I" ∈ wsX4_takeMark := List.mem_of_getElem? (i := 4) rfl
theorem mX4_takeMark_5 : Cond.fieldLink RX4 27 "TagCarrier$Source" "markRow" "[I" ∈ wsX4_takeMark := List.mem_of_getElem? (i := 5) rfl
set_option maxHeartbeats 4000000 in
set_option maxRecDepth 100000 in
theorem c_X4_takeMark (l : Launch) (D : va_G) (cy : Nat → ClassId) (a : Nat → Nat) (x1 : Int32) (I : xw_I) (F : xw_F) (G : xw_G) (post : Int32 → xw_I → xw_F → xw_G → Prop) (h : sm_X4_takeMark x1 I F G post) : xw_Wi l yX4_takeMark wsX4_takeMark ({ frames := 1, cells := 0, slots := 0, locals := 21 }) D cy [.ref (a 2), .int x1] (xC_w cy a I F G) (xC_w cy a) post := by
  intro A
  refine Met.ofW (cc := cX4_takeMark) (maxL := 2) (ret := (some .boolean)) (by decide) rfl ?_
  intro p e s m args below meth c s₁ B hml hv
  obtain ⟨rfl, hP, hB, hD⟩ := hv
  have hP : va_P D vwCl (xC_w cy a I F G) s.heap := hP
  have hx := B.exec
  have hb := B.bytes
  have hr := B.returns
  have hts := atoms_spec (ws := wsX4_takeMark) B.pre
  have hown : s.vm.findClass RX4 = some m.cls := findClass_of_methodNamed B.named
  have hlocks := B.notSynchronized
  have hS : va_S A s.heap s.heap [] := va_S.rf
  refine xw_go (fun WW hWW => ?_)
  have hl := lv_entry ([.ref (a 2), .int x1]) (n := 2) (Nat.le_of_ble_eq_true rfl)
  rw [lg_entry_eq]
  generalize (lg_sl ([.ref (a 2), .int x1]) ++ List.replicate (2 - (lg_sl ([.ref (a 2), .int x1])).length) Slot.unset).toArray = ls at hl ⊢
  have hl : lv_has ls 2 [(0, .ref (a 2)), (1, .int x1)] := hl
  unfold sm_X4_takeMark at h
  refine lv_aload_n hx hb dX4_takeMark_0 rfl (lv_at hl 0 rfl) ?_
  refine va_get (D := D) (ci := 4) (v := .int (I 4)) (C := RX4) (T := TX4) (N := 12) hx hb hts mX4_takeMark_inX4 hown hB.1 hP 2 xC_c2 rfl 2 (by decide) (hts _ mX4_takeMark_1) (fun _ h9 => h9) rfl dX4_takeMark_1 ?_
  refine lv_iload_n hx hb dX4_takeMark_4 rfl (lv_at hl 1 rfl) ?_
  refine xw_ri (va_runSN (rm := { frames := 0, cells := 0, slots := 0, locals := 0 }) (As := [.int (I 4), .int x1]) (rest := []) ⟨hx, hb, hml, hown, hts⟩ (c_X7_has l D cy (I 4) x1 _ h (fun _ => True)) (⟨va_cnB 2 hts gX4_takeMark_X7_has_n63 rfl rfl rfl (hB.2 8 _ rfl) (hts _ mX4_takeMark_7) (by decide +kernel) ⟨Nat.le_of_ble_eq_true rfl, Nat.le_of_ble_eq_true rfl⟩, hts _ mX4_takeMark_6, trivial⟩) (xw_preS hB xw_P0 (xw_D0 (A := fun _ => True))) rfl rfl hl.1 rfl (lv_room (Nat.le_of_ble_eq_true rfl)) dX4_takeMark_5 ⟨Nat.le_of_ble_eq_true rfl, Nat.le_of_ble_eq_true rfl⟩) (fun r5 h => ?_)
  refine lv_if_ne (tgt := 19) hx hb dX4_takeMark_8 (by decide) (fun c6 => ?_) (fun c6 => ?_)
  · have h := h.1 c6
    refine lv_iconst (v := 0) hx hb dX4_takeMark_19 (by decide) ?_
    exact xw_wretz hx hb hr hlocks hP hD hS rfl h dX4_takeMark_20
  · have h := h.2 c6
    refine lv_aload_n hx hb dX4_takeMark_11 rfl (lv_at hl 0 rfl) ?_
    refine va_get (D := D) (ci := 4) (v := .int (I 5)) (C := RX4) (T := TX4) (N := 12) hx hb hts mX4_takeMark_inX4 hown hB.1 hP 2 xC_c2 rfl 3 (by decide) (hts _ mX4_takeMark_2) (fun _ h9 => h9) rfl dX4_takeMark_12 ?_
    refine lv_iconst (v := 3) hx hb dX4_takeMark_15 (by decide) ?_
    refine lv_icmp_lt (tgt := 21) hx hb dX4_takeMark_16 (by decide) (fun c7 => ?_) (fun c7 => ?_)
    · have h := h.1 c7
      refine lv_aload_n hx hb dX4_takeMark_21 rfl (lv_at hl 0 rfl) ?_
      refine lv_dup hx hb dX4_takeMark_22 rfl ?_
      refine va_get (D := D) (ci := 4) (v := .int (I 4)) (C := RX4) (T := TX4) (N := 12) hx hb hts mX4_takeMark_inX4 hown hB.1 hP 2 xC_c2 rfl 2 (by decide) (hts _ mX4_takeMark_1) (fun _ h9 => h9) rfl dX4_takeMark_23 ?_
      refine lv_iconst (v := 1) hx hb dX4_takeMark_26 (by decide) ?_
      refine lv_iload_n hx hb dX4_takeMark_27 rfl (lv_at hl 1 rfl) ?_
      refine lv_ishl hx hb dX4_takeMark_28 ?_
      refine lv_ior hx hb dX4_takeMark_29 ?_
      refine xw_put (D := D) (ci := 4) (v := .int ((I 4) ||| ((1 : Int32) <<< (x1 &&& 31)))) (ty := .int) (C := RX4) (T := TX4) (N := 12) hx hb hts mX4_takeMark_inX4 tyX4 tyX4_ok nmX4 hown hB hP hD hS 2 xC_c2 rfl 2 (by decide) (hts _ mX4_takeMark_1) (fun _ h9 => h9) rfl (by decide +kernel) rfl rfl (Nat.le_of_ble_eq_true rfl) xC_i4 dX4_takeMark_30 (fun H locs hP hD hS => ?_)
      obtain ⟨I8, eI8⟩ : ∃ f : xw_I, f = xw_up I 4 ((I 4) ||| ((1 : Int32) <<< (x1 &&& 31))) := ⟨_, rfl⟩
      rw [← eI8] at hP hD
      have h := h I8 eI8
      refine lv_aload_n hx hb dX4_takeMark_33 rfl (lv_at hl 0 rfl) ?_
      refine va_get (D := D) (ci := 4) (v := .ref (a 7)) (C := RX4) (T := TX4) (N := 12) hx hb hts mX4_takeMark_inX4 hown hB.1 hP 2 xC_c2 rfl 9 (by decide) (hts _ mX4_takeMark_3) (fun _ h9 => h9) rfl dX4_takeMark_34 ?_
      refine lv_iload_n hx hb dX4_takeMark_37 rfl (lv_at hl 1 rfl) ?_
      refine lv_aload_n hx hb dX4_takeMark_38 rfl (lv_at hl 0 rfl) ?_
      refine va_get (D := D) (ci := 4) (v := .int (I8 2)) (C := RX4) (T := TX4) (N := 12) hx hb hts mX4_takeMark_inX4 hown hB.1 hP 2 xC_c2 rfl 0 (by decide) (hts _ mX4_takeMark_4) (fun _ h9 => h9) rfl dX4_takeMark_39 ?_
      refine xw_iast hx hb hB hP hD hS 7 xC_c7 h.1 xC_f7 dX4_takeMark_42 (fun H locs hP hD hS => ?_)
      have h := h.2
      obtain ⟨F9, eF9⟩ : ∃ f : xw_F, f = xw_up F 7 (upd (F 7) x1.toNatClampNeg (I8 2)) := ⟨_, rfl⟩
      rw [← eF9] at hP hD
      have h := h F9 eF9
      refine lv_aload_n hx hb dX4_takeMark_43 rfl (lv_at hl 0 rfl) ?_
      refine va_get (D := D) (ci := 4) (v := .ref (a 8)) (C := RX4) (T := TX4) (N := 12) hx hb hts mX4_takeMark_inX4 hown hB.1 hP 2 xC_c2 rfl 10 (by decide) (hts _ mX4_takeMark_5) (fun _ h9 => h9) rfl dX4_takeMark_44 ?_
      refine lv_aload_n hx hb dX4_takeMark_47 rfl (lv_at hl 0 rfl) ?_
      refine va_get (D := D) (ci := 4) (v := .int (I8 5)) (C := RX4) (T := TX4) (N := 12) hx hb hts mX4_takeMark_inX4 hown hB.1 hP 2 xC_c2 rfl 3 (by decide) (hts _ mX4_takeMark_2) (fun _ h9 => h9) rfl dX4_takeMark_48 ?_
      refine lv_iload_n hx hb dX4_takeMark_51 rfl (lv_at hl 1 rfl) ?_
      refine xw_iast hx hb hB hP hD hS 8 xC_c8 h.1 xC_f8 dX4_takeMark_52 (fun H locs hP hD hS => ?_)
      have h := h.2
      obtain ⟨F10, eF10⟩ : ∃ f : xw_F, f = xw_up F9 8 (upd (F9 8) (I8 5).toNatClampNeg x1) := ⟨_, rfl⟩
      rw [← eF10] at hP hD
      have h := h F10 eF10
      refine lv_aload_n hx hb dX4_takeMark_53 rfl (lv_at hl 0 rfl) ?_
      refine lv_dup hx hb dX4_takeMark_54 rfl ?_
      refine va_get (D := D) (ci := 4) (v := .int (I8 5)) (C := RX4) (T := TX4) (N := 12) hx hb hts mX4_takeMark_inX4 hown hB.1 hP 2 xC_c2 rfl 3 (by decide) (hts _ mX4_takeMark_2) (fun _ h9 => h9) rfl dX4_takeMark_55 ?_
      refine lv_iconst (v := 1) hx hb dX4_takeMark_58 (by decide) ?_
      refine lv_iadd hx hb dX4_takeMark_59 ?_
      refine xw_put (D := D) (ci := 4) (v := .int ((I8 5) + (1 : Int32))) (ty := .int) (C := RX4) (T := TX4) (N := 12) hx hb hts mX4_takeMark_inX4 tyX4 tyX4_ok nmX4 hown hB hP hD hS 2 xC_c2 rfl 3 (by decide) (hts _ mX4_takeMark_2) (fun _ h9 => h9) rfl (by decide +kernel) rfl rfl (Nat.le_of_ble_eq_true rfl) xC_i5 dX4_takeMark_60 (fun H locs hP hD hS => ?_)
      obtain ⟨I11, eI11⟩ : ∃ f : xw_I, f = xw_up I8 5 ((I8 5) + (1 : Int32)) := ⟨_, rfl⟩
      rw [← eI11] at hP hD
      have h := h I11 eI11
      refine lv_iconst (v := 1) hx hb dX4_takeMark_63 (by decide) ?_
      exact xw_wretz hx hb hr hlocks hP hD hS rfl h dX4_takeMark_64
    · have h := h.2 c7
      refine lv_iconst (v := 0) hx hb dX4_takeMark_19 (by decide) ?_
      exact xw_wretz hx hb hr hlocks hP hD hS rfl h dX4_takeMark_20

set_option maxHeartbeats 4000000 in
set_option maxRecDepth 100000 in
theorem c_X4_take (l : Launch) (D : va_G) (cy : Nat → ClassId) (a : Nat → Nat) (x1 : Int32) (I : xw_I) (F : xw_F) (G : xw_G) (post : Int32 → xw_I → xw_F → xw_G → Prop) (h : sm_X4_take x1 I F G post) : xw_Wi l yX4_take wsX4_take ({ frames := 2, cells := 0, slots := 0, locals := 43 }) D cy [.ref (a 2), .int x1] (xC_w cy a I F G) (xC_w cy a) post := by
  intro A
  refine Met.ofW (cc := cX4_take) (maxL := 2) (ret := (some .boolean)) (by decide) rfl ?_
  intro p e s m args below meth c s₁ B hml hv
  obtain ⟨rfl, hP, hB, hD⟩ := hv
  have hP : va_P D vwCl (xC_w cy a I F G) s.heap := hP
  have hx := B.exec
  have hb := B.bytes
  have hr := B.returns
  have hts := atoms_spec (ws := wsX4_take) B.pre
  have hown : s.vm.findClass RX4 = some m.cls := findClass_of_methodNamed B.named
  have hlocks := B.notSynchronized
  have hS : va_S A s.heap s.heap [] := va_S.rf
  refine xw_go (fun WW hWW => ?_)
  have hl := lv_entry ([.ref (a 2), .int x1]) (n := 2) (Nat.le_of_ble_eq_true rfl)
  rw [lg_entry_eq]
  generalize (lg_sl ([.ref (a 2), .int x1]) ++ List.replicate (2 - (lg_sl ([.ref (a 2), .int x1])).length) Slot.unset).toArray = ls at hl ⊢
  have hl : lv_has ls 2 [(0, .ref (a 2)), (1, .int x1)] := hl
  obtain ⟨k32, mk32, el32⟩ : ∃ K : xw_I → xw_F → xw_G → Prop, (∀ (I : xw_I) (F : xw_F) (G : xw_G), (∀ (H : Heap) (locs : List Loc) (ls : Array Slot), va_P D vwCl (xC_w cy a I F G) H → va_D A (xC_w cy a I F G) → va_S A s.heap H locs → lv_has ls 2 [(0, .ref (a 2)), (1, .int x1)] → WW H locs (F0 m 32 ls [])) → K I F G) ∧ (∀ (I : xw_I) (F : xw_F) (G : xw_G), K I F G → (∀ (H : Heap) (locs : List Loc) (ls : Array Slot), va_P D vwCl (xC_w cy a I F G) H → va_D A (xC_w cy a I F G) → va_S A s.heap H locs → lv_has ls 2 [(0, .ref (a 2)), (1, .int x1)] → WW H locs (F0 m 32 ls []))) := ⟨fun (I : xw_I) (F : xw_F) (G : xw_G) => (∀ (H : Heap) (locs : List Loc) (ls : Array Slot), va_P D vwCl (xC_w cy a I F G) H → va_D A (xC_w cy a I F G) → va_S A s.heap H locs → lv_has ls 2 [(0, .ref (a 2)), (1, .int x1)] → WW H locs (F0 m 32 ls [])), fun _ _ _ h => h, fun _ _ _ h => h⟩
  obtain ⟨k53, mk53, el53⟩ : ∃ K : xw_I → xw_F → xw_G → Prop, (∀ (I : xw_I) (F : xw_F) (G : xw_G), (∀ (H : Heap) (locs : List Loc) (ls : Array Slot), va_P D vwCl (xC_w cy a I F G) H → va_D A (xC_w cy a I F G) → va_S A s.heap H locs → lv_has ls 2 [(0, .ref (a 2)), (1, .int x1)] → WW H locs (F0 m 53 ls [])) → K I F G) ∧ (∀ (I : xw_I) (F : xw_F) (G : xw_G), K I F G → (∀ (H : Heap) (locs : List Loc) (ls : Array Slot), va_P D vwCl (xC_w cy a I F G) H → va_D A (xC_w cy a I F G) → va_S A s.heap H locs → lv_has ls 2 [(0, .ref (a 2)), (1, .int x1)] → WW H locs (F0 m 53 ls []))) := ⟨fun (I : xw_I) (F : xw_F) (G : xw_G) => (∀ (H : Heap) (locs : List Loc) (ls : Array Slot), va_P D vwCl (xC_w cy a I F G) H → va_D A (xC_w cy a I F G) → va_S A s.heap H locs → lv_has ls 2 [(0, .ref (a 2)), (1, .int x1)] → WW H locs (F0 m 53 ls [])), fun _ _ _ h => h, fun _ _ _ h => h⟩
  have rl32 : ∀ (I : xw_I) (F : xw_F) (G : xw_G), (bd_X4_take_32 x1 post k32 k53 I F G) → k32 I F G := by
    intro I F G h
    refine mk32 _ _ _ ?_
    intro H locs ls hP hD hS hl
    refine (hWW _ _ _).mpr ?_
    unfold bd_X4_take_32 at h
    refine lv_iload_n hx hb dX4_take_32 rfl (lv_at hl 1 rfl) ?_
    refine lv_bipush (v := 97) hx hb dX4_take_33 (by decide) ?_
    refine lv_icmp_lt (tgt := 53) hx hb dX4_take_35 (by decide) (fun c13 => ?_) (fun c13 => ?_)
    · have h := h.1 c13
      exact (hWW _ _ _).mp (el53 _ _ _ h _ _ ls hP hD hS (lv_sub hl [0, 1] rfl))
    · have h := h.2 c13
      refine lv_iload_n hx hb dX4_take_38 rfl (lv_at hl 1 rfl) ?_
      refine lv_bipush (v := 102) hx hb dX4_take_39 (by decide) ?_
      refine lv_icmp_ge (tgt := 53) hx hb dX4_take_41 (by decide) (fun c14 => ?_) (fun c14 => ?_)
      · have h := h.1 c14
        exact (hWW _ _ _).mp (el53 _ _ _ h _ _ ls hP hD hS (lv_sub hl [0, 1] rfl))
      · have h := h.2 c14
        refine lv_aload_n hx hb dX4_take_44 rfl (lv_at hl 0 rfl) ?_
        refine lv_iload_n hx hb dX4_take_45 rfl (lv_at hl 1 rfl) ?_
        refine lv_bipush (v := 97) hx hb dX4_take_46 (by decide) ?_
        refine lv_isub hx hb dX4_take_48 ?_
        refine xw_wi (va_runV (rm := { frames := 0, cells := 0, slots := 0, locals := 0 }) (As := [.int (x1 - (97 : Int32))]) (rest := []) ⟨hx, hb, hml, hown, hts⟩ (c_X4_takeClosing l D cy a (x1 - (97 : Int32)) I F G _ h A) (cwV 1 hts gX4_take_X4_takeClosing rfl rfl rfl (by decide +kernel) ⟨Nat.le_of_ble_eq_true rfl, Nat.le_of_ble_eq_true rfl⟩) (xw_preV hB hP hD (ci := 4) rfl xC_c2) rfl rfl hl.1 rfl (lv_room (Nat.le_of_ble_eq_true rfl)) dX4_take_49 ⟨Nat.le_of_ble_eq_true rfl, Nat.le_of_ble_eq_true rfl⟩) hS (fun r15 I15 F15 G15 H locs h hP hD hS => ?_)
        exact xw_wretz hx hb hr hlocks hP hD hS h.1 h.2 dX4_take_52
  have rl53 : ∀ (I : xw_I) (F : xw_F) (G : xw_G), (bd_X4_take_53 x1 post k32 k53 I F G) → k53 I F G := by
    intro I F G h
    refine mk53 _ _ _ ?_
    intro H locs ls hP hD hS hl
    refine (hWW _ _ _).mpr ?_
    unfold bd_X4_take_53 at h
    refine lv_iload_n hx hb dX4_take_53 rfl (lv_at hl 1 rfl) ?_
    refine lv_bipush (v := 120) hx hb dX4_take_54 (by decide) ?_
    refine lv_icmp_lt (tgt := 74) hx hb dX4_take_56 (by decide) (fun c16 => ?_) (fun c16 => ?_)
    · have h := h.1 c16
      refine lv_iconst (v := 0) hx hb dX4_take_74 (by decide) ?_
      exact xw_wretz hx hb hr hlocks hP hD hS rfl h dX4_take_75
    · have h := h.2 c16
      refine lv_iload_n hx hb dX4_take_59 rfl (lv_at hl 1 rfl) ?_
      refine lv_bipush (v := 123) hx hb dX4_take_60 (by decide) ?_
      refine lv_icmp_ge (tgt := 74) hx hb dX4_take_62 (by decide) (fun c17 => ?_) (fun c17 => ?_)
      · have h := h.1 c17
        refine lv_iconst (v := 0) hx hb dX4_take_74 (by decide) ?_
        exact xw_wretz hx hb hr hlocks hP hD hS rfl h dX4_take_75
      · have h := h.2 c17
        refine lv_aload_n hx hb dX4_take_65 rfl (lv_at hl 0 rfl) ?_
        refine lv_iload_n hx hb dX4_take_66 rfl (lv_at hl 1 rfl) ?_
        refine lv_bipush (v := 120) hx hb dX4_take_67 (by decide) ?_
        refine lv_isub hx hb dX4_take_69 ?_
        refine xw_wi (va_runV (rm := { frames := 1, cells := 0, slots := 0, locals := 21 }) (As := [.int (x1 - (120 : Int32))]) (rest := []) ⟨hx, hb, hml, hown, hts⟩ (c_X4_takeMark l D cy a (x1 - (120 : Int32)) I F G _ h A) (cwV 1 hts gX4_take_X4_takeMark rfl rfl rfl (by decide +kernel) ⟨Nat.le_of_ble_eq_true rfl, Nat.le_of_ble_eq_true rfl⟩) (xw_preV hB hP hD (ci := 4) rfl xC_c2) rfl rfl hl.1 rfl (lv_room (Nat.le_of_ble_eq_true rfl)) dX4_take_70 ⟨Nat.le_of_ble_eq_true rfl, Nat.le_of_ble_eq_true rfl⟩) hS (fun r18 I18 F18 G18 H locs h hP hD hS => ?_)
        exact xw_wretz hx hb hr hlocks hP hD hS h.1 h.2 dX4_take_73
  have h := h k32 k53 rl32 rl53
  unfold bd_X4_take_0 at h
  refine lv_iload_n hx hb dX4_take_0 rfl (lv_at hl 1 rfl) ?_
  refine lv_bipush (v := 46) hx hb dX4_take_1 (by decide) ?_
  refine lv_icmp_ne (tgt := 11) hx hb dX4_take_3 (by decide) (fun c8 => ?_) (fun c8 => ?_)
  · have h := h.1 c8
    refine lv_iload_n hx hb dX4_take_11 rfl (lv_at hl 1 rfl) ?_
    refine lv_bipush (v := 65) hx hb dX4_take_12 (by decide) ?_
    refine lv_icmp_lt (tgt := 32) hx hb dX4_take_14 (by decide) (fun c9 => ?_) (fun c9 => ?_)
    · have h := h.1 c9
      exact (hWW _ _ _).mp (el32 _ _ _ h _ _ ls hP hD hS (lv_sub hl [0, 1] rfl))
    · have h := h.2 c9
      refine lv_iload_n hx hb dX4_take_17 rfl (lv_at hl 1 rfl) ?_
      refine lv_bipush (v := 70) hx hb dX4_take_18 (by decide) ?_
      refine lv_icmp_ge (tgt := 32) hx hb dX4_take_20 (by decide) (fun c10 => ?_) (fun c10 => ?_)
      · have h := h.1 c10
        exact (hWW _ _ _).mp (el32 _ _ _ h _ _ ls hP hD hS (lv_sub hl [0, 1] rfl))
      · have h := h.2 c10
        refine lv_aload_n hx hb dX4_take_23 rfl (lv_at hl 0 rfl) ?_
        refine lv_iload_n hx hb dX4_take_24 rfl (lv_at hl 1 rfl) ?_
        refine lv_bipush (v := 65) hx hb dX4_take_25 (by decide) ?_
        refine lv_isub hx hb dX4_take_27 ?_
        refine xw_wi (va_runV (rm := { frames := 1, cells := 0, slots := 0, locals := 21 }) (As := [.int (x1 - (65 : Int32))]) (rest := []) ⟨hx, hb, hml, hown, hts⟩ (c_X4_takeOpening l D cy a (x1 - (65 : Int32)) I F G _ h A) (cwV 1 hts gX4_take_X4_takeOpening rfl rfl rfl (by decide +kernel) ⟨Nat.le_of_ble_eq_true rfl, Nat.le_of_ble_eq_true rfl⟩) (xw_preV hB hP hD (ci := 4) rfl xC_c2) rfl rfl hl.1 rfl (lv_room (Nat.le_of_ble_eq_true rfl)) dX4_take_28 ⟨Nat.le_of_ble_eq_true rfl, Nat.le_of_ble_eq_true rfl⟩) hS (fun r11 I11 F11 G11 H locs h hP hD hS => ?_)
        exact xw_wretz hx hb hr hlocks hP hD hS h.1 h.2 dX4_take_31
  · have h := h.2 c8
    refine lv_aload_n hx hb dX4_take_6 rfl (lv_at hl 0 rfl) ?_
    refine xw_wi (va_runV (rm := { frames := 0, cells := 0, slots := 0, locals := 0 }) (As := []) (rest := []) ⟨hx, hb, hml, hown, hts⟩ (c_X4_takeWord l D cy a I F G _ h A) (cwV 0 hts gX4_take_X4_takeWord rfl rfl rfl (by decide +kernel) ⟨Nat.le_of_ble_eq_true rfl, Nat.le_of_ble_eq_true rfl⟩) (xw_preV hB hP hD (ci := 4) rfl xC_c2) rfl rfl hl.1 rfl (lv_room (Nat.le_of_ble_eq_true rfl)) dX4_take_7 ⟨Nat.le_of_ble_eq_true rfl, Nat.le_of_ble_eq_true rfl⟩) hS (fun r12 I12 F12 G12 H locs h hP hD hS => ?_)
    exact xw_wretz hx hb hr hlocks hP hD hS h.1 h.2 dX4_take_10

theorem mX1_read_1 : Cond.fieldLink RX1 12 "TagCarrier$Pad" "source" "LTagCarrier$Source;" ∈ wsX1_read := List.mem_of_getElem? (i := 1) rfl
theorem mX1_read_inX1 : ∀ w ∈ u_ws RX1 TX1 3, w ∈ wsX1_read := by decide +kernel
theorem mX1_read_2 : Cond.fieldLink RX1 22 "TagCarrier$Pad" "count" "I" ∈ wsX1_read := List.mem_of_getElem? (i := 2) rfl
theorem mX1_read_3 : Cond.fieldLink RX1 18 "TagCarrier$Pad" "signs" "[I" ∈ wsX1_read := List.mem_of_getElem? (i := 3) rfl
theorem mX1_read_4 : Cond.fieldLink RX1 33 "TagCarrier$Source" "openCount" "I" ∈ wsX1_read := List.mem_of_getElem? (i := 4) rfl
theorem mX1_read_inX4 : ∀ w ∈ u_ws RX4 TX4 12, w ∈ wsX1_read := by decide +kernel
set_option maxHeartbeats 4000000 in
set_option maxRecDepth 100000 in
theorem c_X1_read (l : Launch) (D : va_G) (cy : Nat → ClassId) (a : Nat → Nat) (I : xw_I) (F : xw_F) (G : xw_G) (post : Int32 → xw_I → xw_F → xw_G → Prop) (h : sm_X1_read I F G post) : xw_Wi l yX1_read wsX1_read ({ frames := 3, cells := 0, slots := 0, locals := 64 }) D cy [.ref (a 1)] (xC_w cy a I F G) (xC_w cy a) post := by
  intro A
  refine Met.ofW (cc := cX1_read) (maxL := 2) (ret := (some .int)) (by decide) rfl ?_
  intro p e s m args below meth c s₁ B hml hv
  obtain ⟨rfl, hP, hB, hD⟩ := hv
  have hP : va_P D vwCl (xC_w cy a I F G) s.heap := hP
  have hx := B.exec
  have hb := B.bytes
  have hr := B.returns
  have hts := atoms_spec (ws := wsX1_read) B.pre
  have hown : s.vm.findClass RX1 = some m.cls := findClass_of_methodNamed B.named
  have hlocks := B.notSynchronized
  have hS : va_S A s.heap s.heap [] := va_S.rf
  refine xw_go (fun WW hWW => ?_)
  have hl := lv_entry ([.ref (a 1)]) (n := 2) (Nat.le_of_ble_eq_true rfl)
  rw [lg_entry_eq]
  generalize (lg_sl ([.ref (a 1)]) ++ List.replicate (2 - (lg_sl ([.ref (a 1)])).length) Slot.unset).toArray = ls at hl ⊢
  have hl : lv_has ls 2 [(0, .ref (a 1))] := hl
  obtain ⟨k9, mk9, el9⟩ : ∃ K : Int32 → xw_I → xw_F → xw_G → Prop, (∀ (y1 : Int32) (I : xw_I) (F : xw_F) (G : xw_G), (∀ (H : Heap) (locs : List Loc) (ls : Array Slot), va_P D vwCl (xC_w cy a I F G) H → va_D A (xC_w cy a I F G) → va_S A s.heap H locs → lv_has ls 2 [(0, .ref (a 1)), (1, .int y1)] → WW H locs (F0 m 9 ls [])) → K y1 I F G) ∧ (∀ (y1 : Int32) (I : xw_I) (F : xw_F) (G : xw_G), K y1 I F G → (∀ (H : Heap) (locs : List Loc) (ls : Array Slot), va_P D vwCl (xC_w cy a I F G) H → va_D A (xC_w cy a I F G) → va_S A s.heap H locs → lv_has ls 2 [(0, .ref (a 1)), (1, .int y1)] → WW H locs (F0 m 9 ls []))) := ⟨fun (y1 : Int32) (I : xw_I) (F : xw_F) (G : xw_G) => (∀ (H : Heap) (locs : List Loc) (ls : Array Slot), va_P D vwCl (xC_w cy a I F G) H → va_D A (xC_w cy a I F G) → va_S A s.heap H locs → lv_has ls 2 [(0, .ref (a 1)), (1, .int y1)] → WW H locs (F0 m 9 ls [])), fun _ _ _ _ h => h, fun _ _ _ _ h => h⟩
  obtain ⟨k47, mk47, el47⟩ : ∃ K : xw_I → xw_F → xw_G → Prop, (∀ (I : xw_I) (F : xw_F) (G : xw_G), (∀ (H : Heap) (locs : List Loc) (ls : Array Slot), va_P D vwCl (xC_w cy a I F G) H → va_D A (xC_w cy a I F G) → va_S A s.heap H locs → lv_has ls 2 [(0, .ref (a 1))] → WW H locs (F0 m 47 ls [])) → K I F G) ∧ (∀ (I : xw_I) (F : xw_F) (G : xw_G), K I F G → (∀ (H : Heap) (locs : List Loc) (ls : Array Slot), va_P D vwCl (xC_w cy a I F G) H → va_D A (xC_w cy a I F G) → va_S A s.heap H locs → lv_has ls 2 [(0, .ref (a 1))] → WW H locs (F0 m 47 ls []))) := ⟨fun (I : xw_I) (F : xw_F) (G : xw_G) => (∀ (H : Heap) (locs : List Loc) (ls : Array Slot), va_P D vwCl (xC_w cy a I F G) H → va_D A (xC_w cy a I F G) → va_S A s.heap H locs → lv_has ls 2 [(0, .ref (a 1))] → WW H locs (F0 m 47 ls [])), fun _ _ _ h => h, fun _ _ _ h => h⟩
  have rl9 : ∀ (y1 : Int32) (I : xw_I) (F : xw_F) (G : xw_G), (bd_X1_read_9 post k9 k47 y1 I F G) → k9 y1 I F G := by
    intro y1 I F G h
    refine mk9 _ _ _ _ ?_
    intro H locs ls hP hD hS hl
    refine (hWW _ _ _).mpr ?_
    unfold bd_X1_read_9 at h
    refine lv_iload_n hx hb dX1_read_9 rfl (lv_at hl 1 rfl) ?_
    refine lv_aload_n hx hb dX1_read_10 rfl (lv_at hl 0 rfl) ?_
    refine va_get (D := D) (ci := 1) (v := .int (I 1)) (C := RX1) (T := TX1) (N := 3) hx hb hts mX1_read_inX1 hown hB.1 hP 1 xC_c1 rfl 1 (by decide) (hts _ mX1_read_2) (fun _ h9 => h9) rfl dX1_read_11 ?_
    refine lv_icmp_ge (tgt := 47) hx hb dX1_read_14 (by decide) (fun c8 => ?_) (fun c8 => ?_)
    · have h := h.1 c8
      exact (hWW _ _ _).mp (el47 _ _ _ h _ _ ls hP hD hS (lv_sub hl [0] rfl))
    · have h := h.2 c8
      refine lv_iload_n hx hb dX1_read_17 rfl (lv_at hl 1 rfl) ?_
      refine lv_bipush (v := 30) hx hb dX1_read_18 (by decide) ?_
      refine lv_icmp_ge (tgt := 47) hx hb dX1_read_20 (by decide) (fun c9 => ?_) (fun c9 => ?_)
      · have h := h.1 c9
        exact (hWW _ _ _).mp (el47 _ _ _ h _ _ ls hP hD hS (lv_sub hl [0] rfl))
      · have h := h.2 c9
        refine lv_aload_n hx hb dX1_read_23 rfl (lv_at hl 0 rfl) ?_
        refine va_get (D := D) (ci := 1) (v := .ref (a 2)) (C := RX1) (T := TX1) (N := 3) hx hb hts mX1_read_inX1 hown hB.1 hP 1 xC_c1 rfl 0 (by decide) (hts _ mX1_read_1) (fun _ h9 => h9) rfl dX1_read_24 ?_
        refine lv_aload_n hx hb dX1_read_27 rfl (lv_at hl 0 rfl) ?_
        refine va_get (D := D) (ci := 1) (v := .ref (a 10)) (C := RX1) (T := TX1) (N := 3) hx hb hts mX1_read_inX1 hown hB.1 hP 1 xC_c1 rfl 2 (by decide) (hts _ mX1_read_3) (fun _ h9 => h9) rfl dX1_read_28 ?_
        refine lv_iload_n hx hb dX1_read_31 rfl (lv_at hl 1 rfl) ?_
        refine xw_iald hx hb hB hP 10 xC_c10 h.1 dX1_read_32 (fun v10 ev10 => ?_)
        have h := h.2 v10 ev10
        refine xw_wi (va_runV (rm := { frames := 2, cells := 0, slots := 0, locals := 43 }) (As := [.int v10]) (rest := []) ⟨hx, hb, hml, hown, hts⟩ (c_X4_take l D cy a v10 I F G _ h A) (cwV 1 hts gX1_read_X4_take rfl rfl rfl (by decide +kernel) ⟨Nat.le_of_ble_eq_true rfl, Nat.le_of_ble_eq_true rfl⟩) (xw_preV hB hP hD (ci := 4) rfl xC_c2) rfl rfl hl.1 rfl (lv_room (Nat.le_of_ble_eq_true rfl)) dX1_read_33 ⟨Nat.le_of_ble_eq_true rfl, Nat.le_of_ble_eq_true rfl⟩) hS (fun r11 I11 F11 G11 H locs h hP hD hS => ?_)
        refine lv_if_ne (tgt := 41) hx hb dX1_read_36 (by decide) (fun c12 => ?_) (fun c12 => ?_)
        · have h := h.1 c12
          obtain ⟨v13, ev13⟩ : ∃ y : Int32, y = y1 + 1 := ⟨_, rfl⟩
          have h := h v13 ev13
          refine lv_iinc (v := v13) (lv' := [(1, .int v13), (0, .ref (a 1))]) hx hb dX1_read_41 hl (k := 1) rfl (by rw [ev13]; rfl) (by decide) rfl (fun ls hl => ?_)
          refine lv_goto (tgt := 9) hx hb dX1_read_44 (by decide) ?_
          exact (hWW _ _ _).mp (el9 _ _ _ _ h _ _ ls hP hD hS (lv_sub hl [1, 0] rfl))
        · have h := h.2 c12
          refine lv_iload_n hx hb dX1_read_39 rfl (lv_at hl 1 rfl) ?_
          exact xw_wreti hx hb hr hlocks hP hD hS h dX1_read_40
  have rl47 : ∀ (I : xw_I) (F : xw_F) (G : xw_G), (bd_X1_read_47 post k9 k47 I F G) → k47 I F G := by
    intro I F G h
    refine mk47 _ _ _ ?_
    intro H locs ls hP hD hS hl
    refine (hWW _ _ _).mpr ?_
    unfold bd_X1_read_47 at h
    refine lv_aload_n hx hb dX1_read_47 rfl (lv_at hl 0 rfl) ?_
    refine va_get (D := D) (ci := 1) (v := .ref (a 2)) (C := RX1) (T := TX1) (N := 3) hx hb hts mX1_read_inX1 hown hB.1 hP 1 xC_c1 rfl 0 (by decide) (hts _ mX1_read_1) (fun _ h9 => h9) rfl dX1_read_48 ?_
    refine va_get (D := D) (ci := 4) (v := .int (I 6)) (C := RX4) (T := TX4) (N := 12) hx hb hts mX1_read_inX4 hown hB.1 hP 2 xC_c2 rfl 4 (by decide) (hts _ mX1_read_4) (fun _ h9 => h9) rfl dX1_read_51 ?_
    refine lv_if_le (tgt := 64) hx hb dX1_read_54 (by decide) (fun c14 => ?_) (fun c14 => ?_)
    · have h := h.1 c14
      refine lv_bipush (v := -6) hx hb dX1_read_64 (by decide) ?_
      exact xw_wreti hx hb hr hlocks hP hD hS h dX1_read_66
    · have h := h.2 c14
      refine lv_aload_n hx hb dX1_read_57 rfl (lv_at hl 0 rfl) ?_
      refine va_get (D := D) (ci := 1) (v := .int (I 1)) (C := RX1) (T := TX1) (N := 3) hx hb hts mX1_read_inX1 hown hB.1 hP 1 xC_c1 rfl 1 (by decide) (hts _ mX1_read_2) (fun _ h9 => h9) rfl dX1_read_58 ?_
      refine lv_goto (tgt := 66) hx hb dX1_read_61 (by decide) ?_
      exact xw_wreti hx hb hr hlocks hP hD hS h dX1_read_66
  have h := h k9 k47 rl9 rl47
  unfold bd_X1_read_0 at h
  refine lv_aload_n hx hb dX1_read_0 rfl (lv_at hl 0 rfl) ?_
  refine va_get (D := D) (ci := 1) (v := .ref (a 2)) (C := RX1) (T := TX1) (N := 3) hx hb hts mX1_read_inX1 hown hB.1 hP 1 xC_c1 rfl 0 (by decide) (hts _ mX1_read_1) (fun _ h9 => h9) rfl dX1_read_1 ?_
  refine xw_wv (va_runV (rm := { frames := 0, cells := 0, slots := 0, locals := 0 }) (As := []) (rest := []) ⟨hx, hb, hml, hown, hts⟩ (c_X4_clear l D cy a I F G _ h A) (cwV 0 hts gX1_read_X4_clear rfl rfl rfl (by decide +kernel) ⟨Nat.le_of_ble_eq_true rfl, Nat.le_of_ble_eq_true rfl⟩) (xw_preV hB hP hD (ci := 4) rfl xC_c2) rfl rfl hl.1 rfl (lv_room (Nat.le_of_ble_eq_true rfl)) dX1_read_4 ⟨Nat.le_of_ble_eq_true rfl, Nat.le_of_ble_eq_true rfl⟩) hS (fun I7 F7 G7 H locs h hP hD hS => ?_)
  refine lv_iconst (v := 0) hx hb dX1_read_7 (by decide) ?_
  refine lv_istore_n (lv' := [(1, .int (0 : Int32)), (0, .ref (a 1))]) hx hb dX1_read_8 rfl hl (by decide) rfl (fun ls hl => ?_)
  exact (hWW _ _ _).mp (el9 _ _ _ _ h _ _ ls hP hD hS (lv_sub hl [1, 0] rfl))
