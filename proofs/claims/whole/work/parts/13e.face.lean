theorem mX7_carry_1 : Cond.fieldLink RX7 55 "TagCarrier" "stale" "Z" ∈ wsX7_carry := List.mem_of_getElem? (i := 1) rfl
theorem mX7_carry_inX7 : ∀ w ∈ u_ws RX7 TX7 8, w ∈ wsX7_carry := by decide +kernel
theorem mX7_carry_2 : Cond.fieldLink RX7 30 "TagCarrier" "wanted" "LTagCarrier$Wanted;" ∈ wsX7_carry := List.mem_of_getElem? (i := 2) rfl
theorem mX7_carry_3 : Cond.fieldLink RX7 19 "TagCarrier" "now" "LTagCarrier$Sentences;" ∈ wsX7_carry := List.mem_of_getElem? (i := 3) rfl
theorem mX7_carry_4 : Cond.fieldLink RX7 37 "TagCarrier" "pairPlacer" "LTagCarrier$PairPlacer;" ∈ wsX7_carry := List.mem_of_getElem? (i := 4) rfl
theorem mX7_carry_5 : Cond.fieldLink RX7 71 "TagCarrier$Sentences" "source" "LTagCarrier$Source;" ∈ wsX7_carry := List.mem_of_getElem? (i := 5) rfl
theorem mX7_carry_inX3 : ∀ w ∈ u_ws RX3 TX3 3, w ∈ wsX7_carry := by decide +kernel
theorem mX7_carry_6 : Cond.fieldLink RX7 88 "TagCarrier$Sentences" "targetWords" "I" ∈ wsX7_carry := List.mem_of_getElem? (i := 6) rfl
theorem mX7_carry_7 : Cond.fieldLink RX7 44 "TagCarrier" "markPlacer" "LTagCarrier$MarkPlacer;" ∈ wsX7_carry := List.mem_of_getElem? (i := 7) rfl
theorem mX7_carry_8 : Cond.fieldLink RX7 51 "TagCarrier" "writer" "LTagCarrier$Writer;" ∈ wsX7_carry := List.mem_of_getElem? (i := 8) rfl
set_option maxHeartbeats 4000000 in
set_option maxRecDepth 100000 in
theorem c_X7_carry (l : Launch) (D : va_G) (cy : Nat → ClassId) (a : Nat → Nat) (I : xw_I) (F : xw_F) (G : xw_G) (post : xw_I → xw_F → xw_G → Prop) (h : sm_X7_carry I F G post) : xw_Wv l yX7_carry wsX7_carry ({ frames := 5, cells := 0, slots := 0, locals := 123 }) D cy [.ref (a 0)] (xC_w cy a I F G) (xC_w cy a) post := by
  intro A
  refine Met.ofW (cc := cX7_carry) (maxL := 1) (ret := none) (by decide) rfl ?_
  intro p e s m args below meth c s₁ B hml hv
  obtain ⟨rfl, hP, hB, hD⟩ := hv
  have hP : va_P D vwCl (xC_w cy a I F G) s.heap := hP
  have hx := B.exec
  have hb := B.bytes
  have hr := B.returns
  have hts := atoms_spec (ws := wsX7_carry) B.pre
  have hown : s.vm.findClass RX7 = some m.cls := findClass_of_methodNamed B.named
  have hlocks := B.notSynchronized
  have hS : va_S A s.heap s.heap [] := va_S.rf
  refine xw_go (fun WW hWW => ?_)
  have hl := lv_entry ([.ref (a 0)]) (n := 1) (Nat.le_of_ble_eq_true rfl)
  rw [lg_entry_eq]
  generalize (lg_sl ([.ref (a 0)]) ++ List.replicate (1 - (lg_sl ([.ref (a 0)])).length) Slot.unset).toArray = ls at hl ⊢
  have hl : lv_has ls 1 [(0, .ref (a 0))] := hl
  unfold sm_X7_carry at h
  refine lv_aload_n hx hb dX7_carry_0 rfl (lv_at hl 0 rfl) ?_
  refine va_get (D := D) (ci := 7) (v := .int (I 0)) (C := RX7) (T := TX7) (N := 8) hx hb hts mX7_carry_inX7 hown hB.1 hP 0 xC_c0 rfl 7 (by decide) (hts _ mX7_carry_1) (fun _ h9 => h9) rfl dX7_carry_1 ?_
  refine lv_if_ne (tgt := 8) hx hb dX7_carry_4 (by decide) (fun c2 => ?_) (fun c2 => ?_)
  · have h := h.1 c2
    refine lv_aload_n hx hb dX7_carry_8 rfl (lv_at hl 0 rfl) ?_
    refine va_get (D := D) (ci := 7) (v := .ref (a 21)) (C := RX7) (T := TX7) (N := 8) hx hb hts mX7_carry_inX7 hown hB.1 hP 0 xC_c0 rfl 3 (by decide) (hts _ mX7_carry_2) (fun _ h9 => h9) rfl dX7_carry_9 ?_
    refine lv_aload_n hx hb dX7_carry_12 rfl (lv_at hl 0 rfl) ?_
    refine va_get (D := D) (ci := 7) (v := .ref (a 11)) (C := RX7) (T := TX7) (N := 8) hx hb hts mX7_carry_inX7 hown hB.1 hP 0 xC_c0 rfl 1 (by decide) (hts _ mX7_carry_3) (fun _ h9 => h9) rfl dX7_carry_13 ?_
    refine xw_wv (va_runV (rm := { frames := 4, cells := 0, slots := 0, locals := 89 }) (As := [.ref (a 11)]) (rest := []) ⟨hx, hb, hml, hown, hts⟩ (c_X5_find l D cy a I F G _ h A) (cwV 1 hts gX7_carry_X5_find rfl rfl rfl (by decide +kernel) ⟨Nat.le_of_ble_eq_true rfl, Nat.le_of_ble_eq_true rfl⟩) (xw_preV hB hP hD (ci := 5) rfl xC_c21) rfl rfl hl.1 rfl (lv_room (Nat.le_of_ble_eq_true rfl)) dX7_carry_16 ⟨Nat.le_of_ble_eq_true rfl, Nat.le_of_ble_eq_true rfl⟩) hS (fun I3 F3 G3 H locs h hP hD hS => ?_)
    refine lv_aload_n hx hb dX7_carry_19 rfl (lv_at hl 0 rfl) ?_
    refine va_get (D := D) (ci := 7) (v := .ref (a 25)) (C := RX7) (T := TX7) (N := 8) hx hb hts mX7_carry_inX7 hown hB.1 hP 0 xC_c0 rfl 4 (by decide) (hts _ mX7_carry_4) (fun _ h9 => h9) rfl dX7_carry_20 ?_
    refine lv_aload_n hx hb dX7_carry_23 rfl (lv_at hl 0 rfl) ?_
    refine va_get (D := D) (ci := 7) (v := .ref (a 11)) (C := RX7) (T := TX7) (N := 8) hx hb hts mX7_carry_inX7 hown hB.1 hP 0 xC_c0 rfl 1 (by decide) (hts _ mX7_carry_3) (fun _ h9 => h9) rfl dX7_carry_24 ?_
    refine va_get (D := D) (ci := 3) (v := .ref (a 12)) (C := RX3) (T := TX3) (N := 3) hx hb hts mX7_carry_inX3 hown hB.1 hP 11 xC_c11 rfl 0 (by decide) (hts _ mX7_carry_5) (fun _ h9 => h9) rfl dX7_carry_27 ?_
    refine lv_aload_n hx hb dX7_carry_30 rfl (lv_at hl 0 rfl) ?_
    refine va_get (D := D) (ci := 7) (v := .ref (a 21)) (C := RX7) (T := TX7) (N := 8) hx hb hts mX7_carry_inX7 hown hB.1 hP 0 xC_c0 rfl 3 (by decide) (hts _ mX7_carry_2) (fun _ h9 => h9) rfl dX7_carry_31 ?_
    refine lv_aload_n hx hb dX7_carry_34 rfl (lv_at hl 0 rfl) ?_
    refine va_get (D := D) (ci := 7) (v := .ref (a 11)) (C := RX7) (T := TX7) (N := 8) hx hb hts mX7_carry_inX7 hown hB.1 hP 0 xC_c0 rfl 1 (by decide) (hts _ mX7_carry_3) (fun _ h9 => h9) rfl dX7_carry_35 ?_
    refine va_get (D := D) (ci := 3) (v := .int (I3 12)) (C := RX3) (T := TX3) (N := 3) hx hb hts mX7_carry_inX3 hown hB.1 hP 11 xC_c11 rfl 2 (by decide) (hts _ mX7_carry_6) (fun _ h9 => h9) rfl dX7_carry_38 ?_
    refine xw_wv (va_runV (rm := { frames := 3, cells := 0, slots := 0, locals := 81 }) (As := [.ref (a 12), .ref (a 21), .int (I3 12)]) (rest := []) ⟨hx, hb, hml, hown, hts⟩ (c_X2_place l D cy a (I3 12) I3 F3 G3 _ h A) (cwV 3 hts gX7_carry_X2_place rfl rfl rfl (by decide +kernel) ⟨Nat.le_of_ble_eq_true rfl, Nat.le_of_ble_eq_true rfl⟩) (xw_preV hB hP hD (ci := 2) rfl xC_c25) rfl rfl hl.1 rfl (lv_room (Nat.le_of_ble_eq_true rfl)) dX7_carry_41 ⟨Nat.le_of_ble_eq_true rfl, Nat.le_of_ble_eq_true rfl⟩) hS (fun I4 F4 G4 H locs h hP hD hS => ?_)
    refine lv_aload_n hx hb dX7_carry_44 rfl (lv_at hl 0 rfl) ?_
    refine va_get (D := D) (ci := 7) (v := .ref (a 32)) (C := RX7) (T := TX7) (N := 8) hx hb hts mX7_carry_inX7 hown hB.1 hP 0 xC_c0 rfl 5 (by decide) (hts _ mX7_carry_7) (fun _ h9 => h9) rfl dX7_carry_45 ?_
    refine lv_aload_n hx hb dX7_carry_48 rfl (lv_at hl 0 rfl) ?_
    refine va_get (D := D) (ci := 7) (v := .ref (a 11)) (C := RX7) (T := TX7) (N := 8) hx hb hts mX7_carry_inX7 hown hB.1 hP 0 xC_c0 rfl 1 (by decide) (hts _ mX7_carry_3) (fun _ h9 => h9) rfl dX7_carry_49 ?_
    refine va_get (D := D) (ci := 3) (v := .ref (a 12)) (C := RX3) (T := TX3) (N := 3) hx hb hts mX7_carry_inX3 hown hB.1 hP 11 xC_c11 rfl 0 (by decide) (hts _ mX7_carry_5) (fun _ h9 => h9) rfl dX7_carry_52 ?_
    refine lv_aload_n hx hb dX7_carry_55 rfl (lv_at hl 0 rfl) ?_
    refine va_get (D := D) (ci := 7) (v := .ref (a 21)) (C := RX7) (T := TX7) (N := 8) hx hb hts mX7_carry_inX7 hown hB.1 hP 0 xC_c0 rfl 3 (by decide) (hts _ mX7_carry_2) (fun _ h9 => h9) rfl dX7_carry_56 ?_
    refine lv_aload_n hx hb dX7_carry_59 rfl (lv_at hl 0 rfl) ?_
    refine va_get (D := D) (ci := 7) (v := .ref (a 11)) (C := RX7) (T := TX7) (N := 8) hx hb hts mX7_carry_inX7 hown hB.1 hP 0 xC_c0 rfl 1 (by decide) (hts _ mX7_carry_3) (fun _ h9 => h9) rfl dX7_carry_60 ?_
    refine va_get (D := D) (ci := 3) (v := .int (I4 12)) (C := RX3) (T := TX3) (N := 3) hx hb hts mX7_carry_inX3 hown hB.1 hP 11 xC_c11 rfl 2 (by decide) (hts _ mX7_carry_6) (fun _ h9 => h9) rfl dX7_carry_63 ?_
    refine xw_wv (va_runV (rm := { frames := 2, cells := 0, slots := 0, locals := 50 }) (As := [.ref (a 12), .ref (a 21), .int (I4 12)]) (rest := []) ⟨hx, hb, hml, hown, hts⟩ (c_X0_place l D cy a (I4 12) I4 F4 G4 _ h A) (cwV 3 hts gX7_carry_X0_place rfl rfl rfl (by decide +kernel) ⟨Nat.le_of_ble_eq_true rfl, Nat.le_of_ble_eq_true rfl⟩) (xw_preV hB hP hD (ci := 0) rfl xC_c32) rfl rfl hl.1 rfl (lv_room (Nat.le_of_ble_eq_true rfl)) dX7_carry_66 ⟨Nat.le_of_ble_eq_true rfl, Nat.le_of_ble_eq_true rfl⟩) hS (fun I5 F5 G5 H locs h hP hD hS => ?_)
    refine lv_aload_n hx hb dX7_carry_69 rfl (lv_at hl 0 rfl) ?_
    refine va_get (D := D) (ci := 7) (v := .ref (a 36)) (C := RX7) (T := TX7) (N := 8) hx hb hts mX7_carry_inX7 hown hB.1 hP 0 xC_c0 rfl 6 (by decide) (hts _ mX7_carry_8) (fun _ h9 => h9) rfl dX7_carry_70 ?_
    refine lv_aload_n hx hb dX7_carry_73 rfl (lv_at hl 0 rfl) ?_
    refine va_get (D := D) (ci := 7) (v := .ref (a 11)) (C := RX7) (T := TX7) (N := 8) hx hb hts mX7_carry_inX7 hown hB.1 hP 0 xC_c0 rfl 1 (by decide) (hts _ mX7_carry_3) (fun _ h9 => h9) rfl dX7_carry_74 ?_
    refine lv_aload_n hx hb dX7_carry_77 rfl (lv_at hl 0 rfl) ?_
    refine va_get (D := D) (ci := 7) (v := .ref (a 25)) (C := RX7) (T := TX7) (N := 8) hx hb hts mX7_carry_inX7 hown hB.1 hP 0 xC_c0 rfl 4 (by decide) (hts _ mX7_carry_4) (fun _ h9 => h9) rfl dX7_carry_78 ?_
    refine lv_aload_n hx hb dX7_carry_81 rfl (lv_at hl 0 rfl) ?_
    refine va_get (D := D) (ci := 7) (v := .ref (a 32)) (C := RX7) (T := TX7) (N := 8) hx hb hts mX7_carry_inX7 hown hB.1 hP 0 xC_c0 rfl 5 (by decide) (hts _ mX7_carry_7) (fun _ h9 => h9) rfl dX7_carry_82 ?_
    refine xw_wv (va_runV (rm := { frames := 4, cells := 0, slots := 0, locals := 99 }) (As := [.ref (a 11), .ref (a 25), .ref (a 32)]) (rest := []) ⟨hx, hb, hml, hown, hts⟩ (c_X6_write l D cy a I5 F5 G5 _ h A) (cwV 3 hts gX7_carry_X6_write rfl rfl rfl (by decide +kernel) ⟨Nat.le_of_ble_eq_true rfl, Nat.le_of_ble_eq_true rfl⟩) (xw_preV hB hP hD (ci := 6) rfl xC_c36) rfl rfl hl.1 rfl (lv_room (Nat.le_of_ble_eq_true rfl)) dX7_carry_85 ⟨Nat.le_of_ble_eq_true rfl, Nat.le_of_ble_eq_true rfl⟩) hS (fun I6 F6 G6 H locs h hP hD hS => ?_)
    refine lv_aload_n hx hb dX7_carry_88 rfl (lv_at hl 0 rfl) ?_
    refine lv_iconst (v := 0) hx hb dX7_carry_89 (by decide) ?_
    refine xw_put (D := D) (ci := 7) (v := .int (0 : Int32)) (ty := .boolean) (C := RX7) (T := TX7) (N := 8) hx hb hts mX7_carry_inX7 tyX7 tyX7_ok nmX7 hown hB hP hD hS 0 xC_c0 rfl 7 (by decide) (hts _ mX7_carry_1) (fun _ h9 => h9) rfl (by decide +kernel) rfl rfl (Nat.le_of_ble_eq_true rfl) xC_i0 dX7_carry_90 (fun H locs hP hD hS => ?_)
    obtain ⟨I7, eI7⟩ : ∃ f : xw_I, f = xw_up I6 0 (0 : Int32) := ⟨_, rfl⟩
    rw [← eI7] at hP hD
    have h := h I7 eI7
    exact xw_wretv hx hb hr hlocks hP hD hS h dX7_carry_93
  · have h := h.2 c2
    exact xw_wretv hx hb hr hlocks hP hD hS h dX7_carry_7

theorem mX7_say_1 : Cond.fieldLink RX7 12 "TagCarrier" "pad" "LTagCarrier$Pad;" ∈ wsX7_say := List.mem_of_getElem? (i := 1) rfl
theorem mX7_say_inX7 : ∀ w ∈ u_ws RX7 TX7 8, w ∈ wsX7_say := by decide +kernel
theorem mX7_say_2 : Cond.fieldLink RX7 63 "TagCarrier$Pad" "count" "I" ∈ wsX7_say := List.mem_of_getElem? (i := 2) rfl
theorem mX7_say_inX1 : ∀ w ∈ u_ws RX1 TX1 3, w ∈ wsX7_say := by decide +kernel
set_option maxHeartbeats 4000000 in
set_option maxRecDepth 100000 in
theorem c_X7_say (l : Launch) (D : va_G) (cy : Nat → ClassId) (a : Nat → Nat) (x1 : Int32) (I : xw_I) (F : xw_F) (G : xw_G) (post : Int32 → xw_I → xw_F → xw_G → Prop) (h : sm_X7_say x1 I F G post) : xw_Wi l yX7_say wsX7_say ({ frames := 1, cells := 0, slots := 0, locals := 21 }) D cy [.ref (a 0), .int x1] (xC_w cy a I F G) (xC_w cy a) post := by
  intro A
  refine Met.ofW (cc := cX7_say) (maxL := 2) (ret := (some .int)) (by decide) rfl ?_
  intro p e s m args below meth c s₁ B hml hv
  obtain ⟨rfl, hP, hB, hD⟩ := hv
  have hP : va_P D vwCl (xC_w cy a I F G) s.heap := hP
  have hx := B.exec
  have hb := B.bytes
  have hr := B.returns
  have hts := atoms_spec (ws := wsX7_say) B.pre
  have hown : s.vm.findClass RX7 = some m.cls := findClass_of_methodNamed B.named
  have hlocks := B.notSynchronized
  have hS : va_S A s.heap s.heap [] := va_S.rf
  refine xw_go (fun WW hWW => ?_)
  have hl := lv_entry ([.ref (a 0), .int x1]) (n := 2) (Nat.le_of_ble_eq_true rfl)
  rw [lg_entry_eq]
  generalize (lg_sl ([.ref (a 0), .int x1]) ++ List.replicate (2 - (lg_sl ([.ref (a 0), .int x1])).length) Slot.unset).toArray = ls at hl ⊢
  have hl : lv_has ls 2 [(0, .ref (a 0)), (1, .int x1)] := hl
  unfold sm_X7_say at h
  refine lv_iload_n hx hb dX7_say_0 rfl (lv_at hl 1 rfl) ?_
  refine lv_bipush (v := 33) hx hb dX7_say_1 (by decide) ?_
  refine lv_icmp_lt (tgt := 12) hx hb dX7_say_3 (by decide) (fun c4 => ?_) (fun c4 => ?_)
  · have h := h.1 c4
    refine lv_bipush (v := -2) hx hb dX7_say_12 (by decide) ?_
    exact xw_wreti hx hb hr hlocks hP hD hS h dX7_say_14
  · have h := h.2 c4
    refine lv_iload_n hx hb dX7_say_6 rfl (lv_at hl 1 rfl) ?_
    refine lv_bipush (v := 126) hx hb dX7_say_7 (by decide) ?_
    refine lv_icmp_le (tgt := 15) hx hb dX7_say_9 (by decide) (fun c5 => ?_) (fun c5 => ?_)
    · have h := h.1 c5
      refine lv_aload_n hx hb dX7_say_15 rfl (lv_at hl 0 rfl) ?_
      refine va_get (D := D) (ci := 7) (v := .ref (a 1)) (C := RX7) (T := TX7) (N := 8) hx hb hts mX7_say_inX7 hown hB.1 hP 0 xC_c0 rfl 0 (by decide) (hts _ mX7_say_1) (fun _ h9 => h9) rfl dX7_say_16 ?_
      refine lv_iload_n hx hb dX7_say_19 rfl (lv_at hl 1 rfl) ?_
      refine xw_wi (va_runV (rm := { frames := 0, cells := 0, slots := 0, locals := 0 }) (As := [.int x1]) (rest := []) ⟨hx, hb, hml, hown, hts⟩ (c_X1_add l D cy a x1 I F G _ h A) (cwV 1 hts gX7_say_X1_add rfl rfl rfl (by decide +kernel) ⟨Nat.le_of_ble_eq_true rfl, Nat.le_of_ble_eq_true rfl⟩) (xw_preV hB hP hD (ci := 1) rfl xC_c1) rfl rfl hl.1 rfl (lv_room (Nat.le_of_ble_eq_true rfl)) dX7_say_20 ⟨Nat.le_of_ble_eq_true rfl, Nat.le_of_ble_eq_true rfl⟩) hS (fun r6 I6 F6 G6 H locs h hP hD hS => ?_)
      refine lv_if_eq (tgt := 36) hx hb dX7_say_23 (by decide) (fun c7 => ?_) (fun c7 => ?_)
      · have h := h.1 c7
        refine lv_bipush (v := -4) hx hb dX7_say_36 (by decide) ?_
        exact xw_wreti hx hb hr hlocks hP hD hS h dX7_say_38
      · have h := h.2 c7
        refine lv_aload_n hx hb dX7_say_26 rfl (lv_at hl 0 rfl) ?_
        refine va_get (D := D) (ci := 7) (v := .ref (a 1)) (C := RX7) (T := TX7) (N := 8) hx hb hts mX7_say_inX7 hown hB.1 hP 0 xC_c0 rfl 0 (by decide) (hts _ mX7_say_1) (fun _ h9 => h9) rfl dX7_say_27 ?_
        refine va_get (D := D) (ci := 1) (v := .int (I6 1)) (C := RX1) (T := TX1) (N := 3) hx hb hts mX7_say_inX1 hown hB.1 hP 1 xC_c1 rfl 1 (by decide) (hts _ mX7_say_2) (fun _ h9 => h9) rfl dX7_say_30 ?_
        refine lv_goto (tgt := 38) hx hb dX7_say_33 (by decide) ?_
        exact xw_wreti hx hb hr hlocks hP hD hS h dX7_say_38
    · have h := h.2 c5
      refine lv_bipush (v := -2) hx hb dX7_say_12 (by decide) ?_
      exact xw_wreti hx hb hr hlocks hP hD hS h dX7_say_14

theorem mX7_wipe_1 : Cond.fieldLink RX7 12 "TagCarrier" "pad" "LTagCarrier$Pad;" ∈ wsX7_wipe := List.mem_of_getElem? (i := 1) rfl
theorem mX7_wipe_inX7 : ∀ w ∈ u_ws RX7 TX7 8, w ∈ wsX7_wipe := by decide +kernel
theorem mX7_wipe_2 : Cond.fieldLink RX7 63 "TagCarrier$Pad" "count" "I" ∈ wsX7_wipe := List.mem_of_getElem? (i := 2) rfl
theorem mX7_wipe_inX1 : ∀ w ∈ u_ws RX1 TX1 3, w ∈ wsX7_wipe := by decide +kernel
set_option maxHeartbeats 4000000 in
set_option maxRecDepth 100000 in
theorem c_X7_wipe (l : Launch) (D : va_G) (cy : Nat → ClassId) (a : Nat → Nat) (I : xw_I) (F : xw_F) (G : xw_G) (post : Int32 → xw_I → xw_F → xw_G → Prop) (h : sm_X7_wipe I F G post) : xw_Wi l yX7_wipe wsX7_wipe ({ frames := 0, cells := 0, slots := 0, locals := 0 }) D cy [.ref (a 0)] (xC_w cy a I F G) (xC_w cy a) post := by
  intro A
  refine Met.ofW (cc := cX7_wipe) (maxL := 2) (ret := (some .int)) (by decide) rfl ?_
  intro p e s m args below meth c s₁ B hml hv
  obtain ⟨rfl, hP, hB, hD⟩ := hv
  have hP : va_P D vwCl (xC_w cy a I F G) s.heap := hP
  have hx := B.exec
  have hb := B.bytes
  have hr := B.returns
  have hts := atoms_spec (ws := wsX7_wipe) B.pre
  have hown : s.vm.findClass RX7 = some m.cls := findClass_of_methodNamed B.named
  have hlocks := B.notSynchronized
  have hS : va_S A s.heap s.heap [] := va_S.rf
  refine xw_go (fun WW hWW => ?_)
  have hl := lv_entry ([.ref (a 0)]) (n := 2) (Nat.le_of_ble_eq_true rfl)
  rw [lg_entry_eq]
  generalize (lg_sl ([.ref (a 0)]) ++ List.replicate (2 - (lg_sl ([.ref (a 0)])).length) Slot.unset).toArray = ls at hl ⊢
  have hl : lv_has ls 2 [(0, .ref (a 0))] := hl
  unfold sm_X7_wipe at h
  refine lv_aload_n hx hb dX7_wipe_0 rfl (lv_at hl 0 rfl) ?_
  refine va_get (D := D) (ci := 7) (v := .ref (a 1)) (C := RX7) (T := TX7) (N := 8) hx hb hts mX7_wipe_inX7 hown hB.1 hP 0 xC_c0 rfl 0 (by decide) (hts _ mX7_wipe_1) (fun _ h9 => h9) rfl dX7_wipe_1 ?_
  refine va_get (D := D) (ci := 1) (v := .int (I 1)) (C := RX1) (T := TX1) (N := 3) hx hb hts mX7_wipe_inX1 hown hB.1 hP 1 xC_c1 rfl 1 (by decide) (hts _ mX7_wipe_2) (fun _ h9 => h9) rfl dX7_wipe_4 ?_
  refine lv_topi (fun v2 ev2 => ?_)
  have h := h v2 ev2
  refine lv_istore_n (lv' := [(1, .int v2), (0, .ref (a 0))]) hx hb dX7_wipe_7 rfl hl (by decide) rfl (fun ls hl => ?_)
  refine lv_aload_n hx hb dX7_wipe_8 rfl (lv_at hl 1 rfl) ?_
  refine va_get (D := D) (ci := 7) (v := .ref (a 1)) (C := RX7) (T := TX7) (N := 8) hx hb hts mX7_wipe_inX7 hown hB.1 hP 0 xC_c0 rfl 0 (by decide) (hts _ mX7_wipe_1) (fun _ h9 => h9) rfl dX7_wipe_9 ?_
  refine lv_iconst (v := 0) hx hb dX7_wipe_12 (by decide) ?_
  refine xw_put (D := D) (ci := 1) (v := .int (0 : Int32)) (ty := .int) (C := RX1) (T := TX1) (N := 3) hx hb hts mX7_wipe_inX1 tyX1 tyX1_ok nmX1 hown hB hP hD hS 1 xC_c1 rfl 1 (by decide) (hts _ mX7_wipe_2) (fun _ h9 => h9) rfl (by decide +kernel) rfl rfl (Nat.le_of_ble_eq_true rfl) xC_i1 dX7_wipe_13 (fun H locs hP hD hS => ?_)
  obtain ⟨I3, eI3⟩ : ∃ f : xw_I, f = xw_up I 1 (0 : Int32) := ⟨_, rfl⟩
  rw [← eI3] at hP hD
  have h := h I3 eI3
  refine lv_iload_n hx hb dX7_wipe_16 rfl (lv_at hl 0 rfl) ?_
  exact xw_wreti hx hb hr hlocks hP hD hS h dX7_wipe_17

theorem mX7_fault_1 : Cond.fieldLink RX7 12 "TagCarrier" "pad" "LTagCarrier$Pad;" ∈ wsX7_fault := List.mem_of_getElem? (i := 1) rfl
theorem mX7_fault_inX7 : ∀ w ∈ u_ws RX7 TX7 8, w ∈ wsX7_fault := by decide +kernel
set_option maxHeartbeats 4000000 in
set_option maxRecDepth 100000 in
theorem c_X7_fault (l : Launch) (D : va_G) (cy : Nat → ClassId) (a : Nat → Nat) (I : xw_I) (F : xw_F) (G : xw_G) (post : Int32 → xw_I → xw_F → xw_G → Prop) (h : sm_X7_fault I F G post) : xw_Wi l yX7_fault wsX7_fault ({ frames := 4, cells := 0, slots := 0, locals := 85 }) D cy [.ref (a 0)] (xC_w cy a I F G) (xC_w cy a) post := by
  intro A
  refine Met.ofW (cc := cX7_fault) (maxL := 1) (ret := (some .int)) (by decide) rfl ?_
  intro p e s m args below meth c s₁ B hml hv
  obtain ⟨rfl, hP, hB, hD⟩ := hv
  have hP : va_P D vwCl (xC_w cy a I F G) s.heap := hP
  have hx := B.exec
  have hb := B.bytes
  have hr := B.returns
  have hts := atoms_spec (ws := wsX7_fault) B.pre
  have hown : s.vm.findClass RX7 = some m.cls := findClass_of_methodNamed B.named
  have hlocks := B.notSynchronized
  have hS : va_S A s.heap s.heap [] := va_S.rf
  refine xw_go (fun WW hWW => ?_)
  have hl := lv_entry ([.ref (a 0)]) (n := 1) (Nat.le_of_ble_eq_true rfl)
  rw [lg_entry_eq]
  generalize (lg_sl ([.ref (a 0)]) ++ List.replicate (1 - (lg_sl ([.ref (a 0)])).length) Slot.unset).toArray = ls at hl ⊢
  have hl : lv_has ls 1 [(0, .ref (a 0))] := hl
  unfold sm_X7_fault at h
  refine lv_aload_n hx hb dX7_fault_0 rfl (lv_at hl 0 rfl) ?_
  refine va_get (D := D) (ci := 7) (v := .ref (a 1)) (C := RX7) (T := TX7) (N := 8) hx hb hts mX7_fault_inX7 hown hB.1 hP 0 xC_c0 rfl 0 (by decide) (hts _ mX7_fault_1) (fun _ h9 => h9) rfl dX7_fault_1 ?_
  refine xw_wi (va_runV (rm := { frames := 3, cells := 0, slots := 0, locals := 64 }) (As := []) (rest := []) ⟨hx, hb, hml, hown, hts⟩ (c_X1_read l D cy a I F G _ h A) (cwV 0 hts gX7_fault_X1_read rfl rfl rfl (by decide +kernel) ⟨Nat.le_of_ble_eq_true rfl, Nat.le_of_ble_eq_true rfl⟩) (xw_preV hB hP hD (ci := 1) rfl xC_c1) rfl rfl hl.1 rfl (lv_room (Nat.le_of_ble_eq_true rfl)) dX7_fault_4 ⟨Nat.le_of_ble_eq_true rfl, Nat.le_of_ble_eq_true rfl⟩) hS (fun r1 I1 F1 G1 H locs h hP hD hS => ?_)
  exact xw_wreti hx hb hr hlocks hP hD hS h dX7_fault_7

theorem mX7_target_1 : Cond.fieldLink RX7 19 "TagCarrier" "now" "LTagCarrier$Sentences;" ∈ wsX7_target := List.mem_of_getElem? (i := 1) rfl
theorem mX7_target_inX7 : ∀ w ∈ u_ws RX7 TX7 8, w ∈ wsX7_target := by decide +kernel
theorem mX7_target_2 : Cond.fieldLink RX7 88 "TagCarrier$Sentences" "targetWords" "I" ∈ wsX7_target := List.mem_of_getElem? (i := 2) rfl
theorem mX7_target_inX3 : ∀ w ∈ u_ws RX3 TX3 3, w ∈ wsX7_target := by decide +kernel
theorem mX7_target_3 : Cond.fieldLink RX7 55 "TagCarrier" "stale" "Z" ∈ wsX7_target := List.mem_of_getElem? (i := 3) rfl
set_option maxHeartbeats 4000000 in
set_option maxRecDepth 100000 in
theorem c_X7_target (l : Launch) (D : va_G) (cy : Nat → ClassId) (a : Nat → Nat) (x1 : Int32) (I : xw_I) (F : xw_F) (G : xw_G) (post : Int32 → xw_I → xw_F → xw_G → Prop) (h : sm_X7_target x1 I F G post) : xw_Wi l yX7_target wsX7_target ({ frames := 1, cells := 0, slots := 0, locals := 21 }) D cy [.ref (a 0), .int x1] (xC_w cy a I F G) (xC_w cy a) post := by
  intro A
  refine Met.ofW (cc := cX7_target) (maxL := 3) (ret := (some .int)) (by decide) rfl ?_
  intro p e s m args below meth c s₁ B hml hv
  obtain ⟨rfl, hP, hB, hD⟩ := hv
  have hP : va_P D vwCl (xC_w cy a I F G) s.heap := hP
  have hx := B.exec
  have hb := B.bytes
  have hr := B.returns
  have hts := atoms_spec (ws := wsX7_target) B.pre
  have hown : s.vm.findClass RX7 = some m.cls := findClass_of_methodNamed B.named
  have hlocks := B.notSynchronized
  have hS : va_S A s.heap s.heap [] := va_S.rf
  refine xw_go (fun WW hWW => ?_)
  have hl := lv_entry ([.ref (a 0), .int x1]) (n := 3) (Nat.le_of_ble_eq_true rfl)
  rw [lg_entry_eq]
  generalize (lg_sl ([.ref (a 0), .int x1]) ++ List.replicate (3 - (lg_sl ([.ref (a 0), .int x1])).length) Slot.unset).toArray = ls at hl ⊢
  have hl : lv_has ls 3 [(0, .ref (a 0)), (1, .int x1)] := hl
  unfold sm_X7_target at h
  refine lv_iload_n hx hb dX7_target_0 rfl (lv_at hl 1 rfl) ?_
  refine lv_if_lt (tgt := 10) hx hb dX7_target_1 (by decide) (fun c4 => ?_) (fun c4 => ?_)
  · have h := h.1 c4
    refine lv_bipush (v := -2) hx hb dX7_target_10 (by decide) ?_
    exact xw_wreti hx hb hr hlocks hP hD hS h dX7_target_12
  · have h := h.2 c4
    refine lv_iload_n hx hb dX7_target_4 rfl (lv_at hl 1 rfl) ?_
    refine lv_bipush (v := 8) hx hb dX7_target_5 (by decide) ?_
    refine lv_icmp_le (tgt := 13) hx hb dX7_target_7 (by decide) (fun c5 => ?_) (fun c5 => ?_)
    · have h := h.1 c5
      refine lv_aload_n hx hb dX7_target_13 rfl (lv_at hl 0 rfl) ?_
      refine va_get (D := D) (ci := 7) (v := .ref (a 11)) (C := RX7) (T := TX7) (N := 8) hx hb hts mX7_target_inX7 hown hB.1 hP 0 xC_c0 rfl 1 (by decide) (hts _ mX7_target_1) (fun _ h9 => h9) rfl dX7_target_14 ?_
      refine va_get (D := D) (ci := 3) (v := .int (I 12)) (C := RX3) (T := TX3) (N := 3) hx hb hts mX7_target_inX3 hown hB.1 hP 11 xC_c11 rfl 2 (by decide) (hts _ mX7_target_2) (fun _ h9 => h9) rfl dX7_target_17 ?_
      refine lv_topi (fun v6 ev6 => ?_)
      have h := h v6 ev6
      refine lv_istore_n (lv' := [(2, .int v6), (0, .ref (a 0)), (1, .int x1)]) hx hb dX7_target_20 rfl hl (by decide) rfl (fun ls hl => ?_)
      refine lv_aload_n hx hb dX7_target_21 rfl (lv_at hl 1 rfl) ?_
      refine va_get (D := D) (ci := 7) (v := .ref (a 11)) (C := RX7) (T := TX7) (N := 8) hx hb hts mX7_target_inX7 hown hB.1 hP 0 xC_c0 rfl 1 (by decide) (hts _ mX7_target_1) (fun _ h9 => h9) rfl dX7_target_22 ?_
      refine lv_iload_n hx hb dX7_target_25 rfl (lv_at hl 2 rfl) ?_
      refine xw_put (D := D) (ci := 3) (v := .int x1) (ty := .int) (C := RX3) (T := TX3) (N := 3) hx hb hts mX7_target_inX3 tyX3 tyX3_ok nmX3 hown hB hP hD hS 11 xC_c11 rfl 2 (by decide) (hts _ mX7_target_2) (fun _ h9 => h9) rfl (by decide +kernel) rfl rfl (Nat.le_of_ble_eq_true rfl) xC_i12 dX7_target_26 (fun H locs hP hD hS => ?_)
      obtain ⟨I7, eI7⟩ : ∃ f : xw_I, f = xw_up I 12 x1 := ⟨_, rfl⟩
      rw [← eI7] at hP hD
      have h := h I7 eI7
      refine lv_aload_n hx hb dX7_target_29 rfl (lv_at hl 1 rfl) ?_
      refine va_get (D := D) (ci := 7) (v := .ref (a 11)) (C := RX7) (T := TX7) (N := 8) hx hb hts mX7_target_inX7 hown hB.1 hP 0 xC_c0 rfl 1 (by decide) (hts _ mX7_target_1) (fun _ h9 => h9) rfl dX7_target_30 ?_
      refine xw_wv (va_runV (rm := { frames := 0, cells := 0, slots := 0, locals := 0 }) (As := []) (rest := []) ⟨hx, hb, hml, hown, hts⟩ (c_X3_dropLinks l D cy a I7 F G _ h A) (cwV 0 hts gX7_target_X3_dropLinks rfl rfl rfl (by decide +kernel) ⟨Nat.le_of_ble_eq_true rfl, Nat.le_of_ble_eq_true rfl⟩) (xw_preV hB hP hD (ci := 3) rfl xC_c11) rfl rfl hl.1 rfl (lv_room (Nat.le_of_ble_eq_true rfl)) dX7_target_33 ⟨Nat.le_of_ble_eq_true rfl, Nat.le_of_ble_eq_true rfl⟩) hS (fun I8 F8 G8 H locs h hP hD hS => ?_)
      refine lv_aload_n hx hb dX7_target_36 rfl (lv_at hl 1 rfl) ?_
      refine lv_iconst (v := 1) hx hb dX7_target_37 (by decide) ?_
      refine xw_put (D := D) (ci := 7) (v := .int (1 : Int32)) (ty := .boolean) (C := RX7) (T := TX7) (N := 8) hx hb hts mX7_target_inX7 tyX7 tyX7_ok nmX7 hown hB hP hD hS 0 xC_c0 rfl 7 (by decide) (hts _ mX7_target_3) (fun _ h9 => h9) rfl (by decide +kernel) rfl rfl (Nat.le_of_ble_eq_true rfl) xC_i0 dX7_target_38 (fun H locs hP hD hS => ?_)
      obtain ⟨I9, eI9⟩ : ∃ f : xw_I, f = xw_up I8 0 (1 : Int32) := ⟨_, rfl⟩
      rw [← eI9] at hP hD
      have h := h I9 eI9
      refine lv_iload_n hx hb dX7_target_41 rfl (lv_at hl 0 rfl) ?_
      exact xw_wreti hx hb hr hlocks hP hD hS h dX7_target_42
    · have h := h.2 c5
      refine lv_bipush (v := -2) hx hb dX7_target_10 (by decide) ?_
      exact xw_wreti hx hb hr hlocks hP hD hS h dX7_target_12

theorem mX7_link_1 : Cond.fieldLink RX7 19 "TagCarrier" "now" "LTagCarrier$Sentences;" ∈ wsX7_link := List.mem_of_getElem? (i := 1) rfl
theorem mX7_link_inX7 : ∀ w ∈ u_ws RX7 TX7 8, w ∈ wsX7_link := by decide +kernel
theorem mX7_link_2 : Cond.fieldLink RX7 71 "TagCarrier$Sentences" "source" "LTagCarrier$Source;" ∈ wsX7_link := List.mem_of_getElem? (i := 2) rfl
theorem mX7_link_inX3 : ∀ w ∈ u_ws RX3 TX3 3, w ∈ wsX7_link := by decide +kernel
theorem mX7_link_3 : Cond.fieldLink RX7 85 "TagCarrier$Source" "words" "I" ∈ wsX7_link := List.mem_of_getElem? (i := 3) rfl
theorem mX7_link_inX4 : ∀ w ∈ u_ws RX4 TX4 12, w ∈ wsX7_link := by decide +kernel
theorem mX7_link_4 : Cond.fieldLink RX7 88 "TagCarrier$Sentences" "targetWords" "I" ∈ wsX7_link := List.mem_of_getElem? (i := 4) rfl
theorem mX7_link_5 : Cond.fieldLink RX7 91 "TagCarrier$Sentences" "links" "[I" ∈ wsX7_link := List.mem_of_getElem? (i := 5) rfl
theorem mX7_link_6 : Cond.fieldLink RX7 55 "TagCarrier" "stale" "Z" ∈ wsX7_link := List.mem_of_getElem? (i := 6) rfl
set_option maxHeartbeats 4000000 in
set_option maxRecDepth 100000 in
theorem c_X7_link (l : Launch) (D : va_G) (cy : Nat → ClassId) (a : Nat → Nat) (x1 : Int32) (x2 : Int32) (I : xw_I) (F : xw_F) (G : xw_G) (post : Int32 → xw_I → xw_F → xw_G → Prop) (h : sm_X7_link x1 x2 I F G post) : xw_Wi l yX7_link wsX7_link ({ frames := 0, cells := 0, slots := 0, locals := 0 }) D cy [.ref (a 0), .int x1, .int x2] (xC_w cy a I F G) (xC_w cy a) post := by
  intro A
  refine Met.ofW (cc := cX7_link) (maxL := 3) (ret := (some .int)) (by decide) rfl ?_
  intro p e s m args below meth c s₁ B hml hv
  obtain ⟨rfl, hP, hB, hD⟩ := hv
  have hP : va_P D vwCl (xC_w cy a I F G) s.heap := hP
  have hx := B.exec
  have hb := B.bytes
  have hr := B.returns
  have hts := atoms_spec (ws := wsX7_link) B.pre
  have hown : s.vm.findClass RX7 = some m.cls := findClass_of_methodNamed B.named
  have hlocks := B.notSynchronized
  have hS : va_S A s.heap s.heap [] := va_S.rf
  refine xw_go (fun WW hWW => ?_)
  have hl := lv_entry ([.ref (a 0), .int x1, .int x2]) (n := 3) (Nat.le_of_ble_eq_true rfl)
  rw [lg_entry_eq]
  generalize (lg_sl ([.ref (a 0), .int x1, .int x2]) ++ List.replicate (3 - (lg_sl ([.ref (a 0), .int x1, .int x2])).length) Slot.unset).toArray = ls at hl ⊢
  have hl : lv_has ls 3 [(0, .ref (a 0)), (1, .int x1), (2, .int x2)] := hl
  unfold sm_X7_link at h
  refine lv_iload_n hx hb dX7_link_0 rfl (lv_at hl 1 rfl) ?_
  refine lv_if_lt (tgt := 33) hx hb dX7_link_1 (by decide) (fun c8 => ?_) (fun c8 => ?_)
  · have h := h.1 c8
    refine lv_iconst (v := -1) hx hb dX7_link_33 (by decide) ?_
    exact xw_wreti hx hb hr hlocks hP hD hS h dX7_link_34
  · have h := h.2 c8
    refine lv_iload_n hx hb dX7_link_4 rfl (lv_at hl 1 rfl) ?_
    refine lv_aload_n hx hb dX7_link_5 rfl (lv_at hl 0 rfl) ?_
    refine va_get (D := D) (ci := 7) (v := .ref (a 11)) (C := RX7) (T := TX7) (N := 8) hx hb hts mX7_link_inX7 hown hB.1 hP 0 xC_c0 rfl 1 (by decide) (hts _ mX7_link_1) (fun _ h9 => h9) rfl dX7_link_6 ?_
    refine va_get (D := D) (ci := 3) (v := .ref (a 12)) (C := RX3) (T := TX3) (N := 3) hx hb hts mX7_link_inX3 hown hB.1 hP 11 xC_c11 rfl 0 (by decide) (hts _ mX7_link_2) (fun _ h9 => h9) rfl dX7_link_9 ?_
    refine va_get (D := D) (ci := 4) (v := .int (I 7)) (C := RX4) (T := TX4) (N := 12) hx hb hts mX7_link_inX4 hown hB.1 hP 12 xC_c12 rfl 0 (by decide) (hts _ mX7_link_3) (fun _ h9 => h9) rfl dX7_link_12 ?_
    refine lv_icmp_ge (tgt := 33) hx hb dX7_link_15 (by decide) (fun c9 => ?_) (fun c9 => ?_)
    · have h := h.1 c9
      refine lv_iconst (v := -1) hx hb dX7_link_33 (by decide) ?_
      exact xw_wreti hx hb hr hlocks hP hD hS h dX7_link_34
    · have h := h.2 c9
      refine lv_iload_n hx hb dX7_link_18 rfl (lv_at hl 2 rfl) ?_
      refine lv_if_lt (tgt := 33) hx hb dX7_link_19 (by decide) (fun c10 => ?_) (fun c10 => ?_)
      · have h := h.1 c10
        refine lv_iconst (v := -1) hx hb dX7_link_33 (by decide) ?_
        exact xw_wreti hx hb hr hlocks hP hD hS h dX7_link_34
      · have h := h.2 c10
        refine lv_iload_n hx hb dX7_link_22 rfl (lv_at hl 2 rfl) ?_
        refine lv_aload_n hx hb dX7_link_23 rfl (lv_at hl 0 rfl) ?_
        refine va_get (D := D) (ci := 7) (v := .ref (a 11)) (C := RX7) (T := TX7) (N := 8) hx hb hts mX7_link_inX7 hown hB.1 hP 0 xC_c0 rfl 1 (by decide) (hts _ mX7_link_1) (fun _ h9 => h9) rfl dX7_link_24 ?_
        refine va_get (D := D) (ci := 3) (v := .int (I 12)) (C := RX3) (T := TX3) (N := 3) hx hb hts mX7_link_inX3 hown hB.1 hP 11 xC_c11 rfl 2 (by decide) (hts _ mX7_link_4) (fun _ h9 => h9) rfl dX7_link_27 ?_
        refine lv_icmp_lt (tgt := 35) hx hb dX7_link_30 (by decide) (fun c11 => ?_) (fun c11 => ?_)
        · have h := h.1 c11
          refine lv_aload_n hx hb dX7_link_35 rfl (lv_at hl 0 rfl) ?_
          refine va_get (D := D) (ci := 7) (v := .ref (a 11)) (C := RX7) (T := TX7) (N := 8) hx hb hts mX7_link_inX7 hown hB.1 hP 0 xC_c0 rfl 1 (by decide) (hts _ mX7_link_1) (fun _ h9 => h9) rfl dX7_link_36 ?_
          refine va_get (D := D) (ci := 3) (v := .ref (a 20)) (C := RX3) (T := TX3) (N := 3) hx hb hts mX7_link_inX3 hown hB.1 hP 11 xC_c11 rfl 1 (by decide) (hts _ mX7_link_5) (fun _ h9 => h9) rfl dX7_link_39 ?_
          refine lv_iload_n hx hb dX7_link_42 rfl (lv_at hl 1 rfl) ?_
          refine lv_dup2_11 hx hb dX7_link_43 rfl rfl ?_
          refine xw_iald hx hb hB hP 20 xC_c20 h.1 dX7_link_44 (fun v12 ev12 => ?_)
          have h := h.2 v12 ev12
          refine lv_iconst (v := 1) hx hb dX7_link_45 (by decide) ?_
          refine lv_iload_n hx hb dX7_link_46 rfl (lv_at hl 2 rfl) ?_
          refine lv_ishl hx hb dX7_link_47 ?_
          refine lv_ixor hx hb dX7_link_48 ?_
          refine xw_iast hx hb hB hP hD hS 20 xC_c20 h.1 xC_f20 dX7_link_49 (fun H locs hP hD hS => ?_)
          have h := h.2
          obtain ⟨F13, eF13⟩ : ∃ f : xw_F, f = xw_up F 20 (upd (F 20) x1.toNatClampNeg (v12 ^^^ ((1 : Int32) <<< (x2 &&& 31)))) := ⟨_, rfl⟩
          rw [← eF13] at hP hD
          have h := h F13 eF13
          refine lv_aload_n hx hb dX7_link_50 rfl (lv_at hl 0 rfl) ?_
          refine lv_iconst (v := 1) hx hb dX7_link_51 (by decide) ?_
          refine xw_put (D := D) (ci := 7) (v := .int (1 : Int32)) (ty := .boolean) (C := RX7) (T := TX7) (N := 8) hx hb hts mX7_link_inX7 tyX7 tyX7_ok nmX7 hown hB hP hD hS 0 xC_c0 rfl 7 (by decide) (hts _ mX7_link_6) (fun _ h9 => h9) rfl (by decide +kernel) rfl rfl (Nat.le_of_ble_eq_true rfl) xC_i0 dX7_link_52 (fun H locs hP hD hS => ?_)
          obtain ⟨I14, eI14⟩ : ∃ f : xw_I, f = xw_up I 0 (1 : Int32) := ⟨_, rfl⟩
          rw [← eI14] at hP hD
          have h := h I14 eI14
          refine lv_aload_n hx hb dX7_link_55 rfl (lv_at hl 0 rfl) ?_
          refine va_get (D := D) (ci := 7) (v := .ref (a 11)) (C := RX7) (T := TX7) (N := 8) hx hb hts mX7_link_inX7 hown hB.1 hP 0 xC_c0 rfl 1 (by decide) (hts _ mX7_link_1) (fun _ h9 => h9) rfl dX7_link_56 ?_
          refine va_get (D := D) (ci := 3) (v := .ref (a 20)) (C := RX3) (T := TX3) (N := 3) hx hb hts mX7_link_inX3 hown hB.1 hP 11 xC_c11 rfl 1 (by decide) (hts _ mX7_link_5) (fun _ h9 => h9) rfl dX7_link_59 ?_
          refine lv_iload_n hx hb dX7_link_62 rfl (lv_at hl 1 rfl) ?_
          refine xw_iald hx hb hB hP 20 xC_c20 h.1 dX7_link_63 (fun v15 ev15 => ?_)
          have h := h.2 v15 ev15
          refine lv_iload_n hx hb dX7_link_64 rfl (lv_at hl 2 rfl) ?_
          refine lv_ishr hx hb dX7_link_65 ?_
          refine lv_iconst (v := 1) hx hb dX7_link_66 (by decide) ?_
          refine lv_iand hx hb dX7_link_67 ?_
          exact xw_wreti hx hb hr hlocks hP hD hS h dX7_link_68
        · have h := h.2 c11
          refine lv_iconst (v := -1) hx hb dX7_link_33 (by decide) ?_
          exact xw_wreti hx hb hr hlocks hP hD hS h dX7_link_34

theorem mX7_pair_1 : Cond.fieldLink RX7 19 "TagCarrier" "now" "LTagCarrier$Sentences;" ∈ wsX7_pair := List.mem_of_getElem? (i := 1) rfl
theorem mX7_pair_inX7 : ∀ w ∈ u_ws RX7 TX7 8, w ∈ wsX7_pair := by decide +kernel
theorem mX7_pair_2 : Cond.fieldLink RX7 71 "TagCarrier$Sentences" "source" "LTagCarrier$Source;" ∈ wsX7_pair := List.mem_of_getElem? (i := 2) rfl
theorem mX7_pair_inX3 : ∀ w ∈ u_ws RX3 TX3 3, w ∈ wsX7_pair := by decide +kernel
theorem mX7_pair_3 : Cond.fieldLink RX7 95 "TagCarrier$Source" "pairs" "I" ∈ wsX7_pair := List.mem_of_getElem? (i := 3) rfl
theorem mX7_pair_inX4 : ∀ w ∈ u_ws RX4 TX4 12, w ∈ wsX7_pair := by decide +kernel
theorem mX7_pair_4 : Cond.fieldLink RX7 105 "TagCarrier$Source" "opens" "[I" ∈ wsX7_pair := List.mem_of_getElem? (i := 4) rfl
theorem mX7_pair_5 : Cond.fieldLink RX7 108 "TagCarrier$Source" "closes" "[I" ∈ wsX7_pair := List.mem_of_getElem? (i := 5) rfl
theorem mX7_pair_6 : Cond.fieldLink RX7 115 "TagCarrier$Source" "holds" "[I" ∈ wsX7_pair := List.mem_of_getElem? (i := 6) rfl
theorem mX7_pair_7 : Cond.fieldLink RX7 30 "TagCarrier" "wanted" "LTagCarrier$Wanted;" ∈ wsX7_pair := List.mem_of_getElem? (i := 7) rfl
theorem mX7_pair_8 : Cond.fieldLink RX7 118 "TagCarrier$Wanted" "from" "[I" ∈ wsX7_pair := List.mem_of_getElem? (i := 8) rfl
theorem mX7_pair_inX5 : ∀ w ∈ u_ws RX5 TX5 4, w ∈ wsX7_pair := by decide +kernel
theorem mX7_pair_9 : Cond.fieldLink RX7 121 "TagCarrier$Wanted" "to" "[I" ∈ wsX7_pair := List.mem_of_getElem? (i := 9) rfl
theorem mX7_pair_10 : Cond.fieldLink RX7 37 "TagCarrier" "pairPlacer" "LTagCarrier$PairPlacer;" ∈ wsX7_pair := List.mem_of_getElem? (i := 10) rfl
theorem mX7_pair_11 : Cond.fieldLink RX7 124 "TagCarrier$PairPlacer" "from" "[I" ∈ wsX7_pair := List.mem_of_getElem? (i := 11) rfl
theorem mX7_pair_inX2 : ∀ w ∈ u_ws RX2 TX2 8, w ∈ wsX7_pair := by decide +kernel
theorem mX7_pair_12 : Cond.fieldLink RX7 125 "TagCarrier$PairPlacer" "to" "[I" ∈ wsX7_pair := List.mem_of_getElem? (i := 12) rfl
theorem mX7_pair_13 : Cond.fieldLink RX7 126 "TagCarrier$PairPlacer" "cost" "[I" ∈ wsX7_pair := List.mem_of_getElem? (i := 13) rfl
theorem mX7_pair_14 : Cond.fieldLink RX7 129 "TagCarrier$Wanted" "missing" "I" ∈ wsX7_pair := List.mem_of_getElem? (i := 14) rfl
set_option maxHeartbeats 4000000 in
set_option maxRecDepth 100000 in
theorem c_X7_pair (l : Launch) (D : va_G) (cy : Nat → ClassId) (a : Nat → Nat) (x1 : Int32) (x2 : Int32) (I : xw_I) (F : xw_F) (G : xw_G) (post : Int32 → xw_I → xw_F → xw_G → Prop) (h : sm_X7_pair x1 x2 I F G post) : xw_Wi l yX7_pair wsX7_pair ({ frames := 6, cells := 0, slots := 0, locals := 143 }) D cy [.ref (a 0), .int x1, .int x2] (xC_w cy a I F G) (xC_w cy a) post := by
  intro A
  refine Met.ofW (cc := cX7_pair) (maxL := 3) (ret := (some .int)) (by decide) rfl ?_
  intro p e s m args below meth c s₁ B hml hv
  obtain ⟨rfl, hP, hB, hD⟩ := hv
  have hP : va_P D vwCl (xC_w cy a I F G) s.heap := hP
  have hx := B.exec
  have hb := B.bytes
  have hr := B.returns
  have hts := atoms_spec (ws := wsX7_pair) B.pre
  have hown : s.vm.findClass RX7 = some m.cls := findClass_of_methodNamed B.named
  have hlocks := B.notSynchronized
  have hS : va_S A s.heap s.heap [] := va_S.rf
  refine xw_go (fun WW hWW => ?_)
  have hl := lv_entry ([.ref (a 0), .int x1, .int x2]) (n := 3) (Nat.le_of_ble_eq_true rfl)
  rw [lg_entry_eq]
  generalize (lg_sl ([.ref (a 0), .int x1, .int x2]) ++ List.replicate (3 - (lg_sl ([.ref (a 0), .int x1, .int x2])).length) Slot.unset).toArray = ls at hl ⊢
  have hl : lv_has ls 3 [(0, .ref (a 0)), (1, .int x1), (2, .int x2)] := hl
  unfold sm_X7_pair at h
  refine lv_iload_n hx hb dX7_pair_0 rfl (lv_at hl 1 rfl) ?_
  refine lv_if_lt (tgt := 26) hx hb dX7_pair_1 (by decide) (fun c13 => ?_) (fun c13 => ?_)
  · have h := h.1 c13
    refine lv_iconst (v := -1) hx hb dX7_pair_26 (by decide) ?_
    exact xw_wreti hx hb hr hlocks hP hD hS h dX7_pair_27
  · have h := h.2 c13
    refine lv_iload_n hx hb dX7_pair_4 rfl (lv_at hl 1 rfl) ?_
    refine lv_iconst (v := 5) hx hb dX7_pair_5 (by decide) ?_
    refine lv_icmp_ge (tgt := 26) hx hb dX7_pair_6 (by decide) (fun c14 => ?_) (fun c14 => ?_)
    · have h := h.1 c14
      refine lv_iconst (v := -1) hx hb dX7_pair_26 (by decide) ?_
      exact xw_wreti hx hb hr hlocks hP hD hS h dX7_pair_27
    · have h := h.2 c14
      refine lv_aload_n hx hb dX7_pair_9 rfl (lv_at hl 0 rfl) ?_
      refine va_get (D := D) (ci := 7) (v := .ref (a 11)) (C := RX7) (T := TX7) (N := 8) hx hb hts mX7_pair_inX7 hown hB.1 hP 0 xC_c0 rfl 1 (by decide) (hts _ mX7_pair_1) (fun _ h9 => h9) rfl dX7_pair_10 ?_
      refine va_get (D := D) (ci := 3) (v := .ref (a 12)) (C := RX3) (T := TX3) (N := 3) hx hb hts mX7_pair_inX3 hown hB.1 hP 11 xC_c11 rfl 0 (by decide) (hts _ mX7_pair_2) (fun _ h9 => h9) rfl dX7_pair_13 ?_
      refine va_get (D := D) (ci := 4) (v := .int (I 8)) (C := RX4) (T := TX4) (N := 12) hx hb hts mX7_pair_inX4 hown hB.1 hP 12 xC_c12 rfl 1 (by decide) (hts _ mX7_pair_3) (fun _ h9 => h9) rfl dX7_pair_16 ?_
      refine lv_iload_n hx hb dX7_pair_19 rfl (lv_at hl 1 rfl) ?_
      refine xw_ri (va_runS (rm := { frames := 0, cells := 0, slots := 0, locals := 0 }) (As := [.int (I 8), .int x1]) (rest := []) ⟨hx, hb, hml, hown, hts⟩ (c_X7_has l D cy (I 8) x1 _ h (fun _ => True)) (va_cwS 2 hts gX7_pair_X7_has rfl rfl rfl (by decide +kernel) ⟨Nat.le_of_ble_eq_true rfl, Nat.le_of_ble_eq_true rfl⟩) (xw_preS hB xw_P0 (xw_D0 (A := fun _ => True))) rfl rfl hl.1 rfl (lv_room (Nat.le_of_ble_eq_true rfl)) dX7_pair_20 ⟨Nat.le_of_ble_eq_true rfl, Nat.le_of_ble_eq_true rfl⟩) (fun r15 h => ?_)
      refine lv_if_ne (tgt := 28) hx hb dX7_pair_23 (by decide) (fun c16 => ?_) (fun c16 => ?_)
      · have h := h.1 c16
        refine lv_aload_n hx hb dX7_pair_28 rfl (lv_at hl 0 rfl) ?_
        refine xw_wv (va_runV (rm := { frames := 5, cells := 0, slots := 0, locals := 123 }) (As := []) (rest := []) ⟨hx, hb, hml, hown, hts⟩ (c_X7_carry l D cy a I F G _ h A) (cwV 0 hts gX7_pair_X7_carry rfl rfl rfl (by decide +kernel) ⟨Nat.le_of_ble_eq_true rfl, Nat.le_of_ble_eq_true rfl⟩) (xw_preV hB hP hD (ci := 7) rfl xC_c0) rfl rfl hl.1 rfl (lv_room (Nat.le_of_ble_eq_true rfl)) dX7_pair_29 ⟨Nat.le_of_ble_eq_true rfl, Nat.le_of_ble_eq_true rfl⟩) hS (fun I17 F17 G17 H locs h hP hD hS => ?_)
        refine lv_iload_n hx hb dX7_pair_32 rfl (lv_at hl 2 rfl) ?_
        by_cases c18 : x2 = 0
        · have h := h.1 c18
          refine lv_tableIn (tgt := 88) hx hb dX7_pair_33 (by rw [c18]; decide) (by rw [c18]; decide) (by rw [c18]; rfl) (by decide) ?_
          refine lv_aload_n hx hb dX7_pair_88 rfl (lv_at hl 0 rfl) ?_
          refine va_get (D := D) (ci := 7) (v := .ref (a 11)) (C := RX7) (T := TX7) (N := 8) hx hb hts mX7_pair_inX7 hown hB.1 hP 0 xC_c0 rfl 1 (by decide) (hts _ mX7_pair_1) (fun _ h9 => h9) rfl dX7_pair_89 ?_
          refine va_get (D := D) (ci := 3) (v := .ref (a 12)) (C := RX3) (T := TX3) (N := 3) hx hb hts mX7_pair_inX3 hown hB.1 hP 11 xC_c11 rfl 0 (by decide) (hts _ mX7_pair_2) (fun _ h9 => h9) rfl dX7_pair_92 ?_
          refine va_get (D := D) (ci := 4) (v := .ref (a 13)) (C := RX4) (T := TX4) (N := 12) hx hb hts mX7_pair_inX4 hown hB.1 hP 12 xC_c12 rfl 5 (by decide) (hts _ mX7_pair_4) (fun _ h9 => h9) rfl dX7_pair_95 ?_
          refine lv_iload_n hx hb dX7_pair_98 rfl (lv_at hl 1 rfl) ?_
          refine xw_iald hx hb hB hP 13 xC_c13 h.1 dX7_pair_99 (fun v19 ev19 => ?_)
          have h := h.2 v19 ev19
          exact xw_wreti hx hb hr hlocks hP hD hS h dX7_pair_100
        have h := h.2
        have c18_0 := c18
        clear c18
        by_cases c18 : x2 = 1
        · have h := h.1 c18
          refine lv_tableIn (tgt := 101) hx hb dX7_pair_33 (by rw [c18]; decide) (by rw [c18]; decide) (by rw [c18]; rfl) (by decide) ?_
          refine lv_aload_n hx hb dX7_pair_101 rfl (lv_at hl 0 rfl) ?_
          refine va_get (D := D) (ci := 7) (v := .ref (a 11)) (C := RX7) (T := TX7) (N := 8) hx hb hts mX7_pair_inX7 hown hB.1 hP 0 xC_c0 rfl 1 (by decide) (hts _ mX7_pair_1) (fun _ h9 => h9) rfl dX7_pair_102 ?_
          refine va_get (D := D) (ci := 3) (v := .ref (a 12)) (C := RX3) (T := TX3) (N := 3) hx hb hts mX7_pair_inX3 hown hB.1 hP 11 xC_c11 rfl 0 (by decide) (hts _ mX7_pair_2) (fun _ h9 => h9) rfl dX7_pair_105 ?_
          refine va_get (D := D) (ci := 4) (v := .ref (a 14)) (C := RX4) (T := TX4) (N := 12) hx hb hts mX7_pair_inX4 hown hB.1 hP 12 xC_c12 rfl 6 (by decide) (hts _ mX7_pair_5) (fun _ h9 => h9) rfl dX7_pair_108 ?_
          refine lv_iload_n hx hb dX7_pair_111 rfl (lv_at hl 1 rfl) ?_
          refine xw_iald hx hb hB hP 14 xC_c14 h.1 dX7_pair_112 (fun v20 ev20 => ?_)
          have h := h.2 v20 ev20
          exact xw_wreti hx hb hr hlocks hP hD hS h dX7_pair_113
        have h := h.2
        have c18_1 := c18
        clear c18
        by_cases c18 : x2 = 2
        · have h := h.1 c18
          refine lv_tableIn (tgt := 114) hx hb dX7_pair_33 (by rw [c18]; decide) (by rw [c18]; decide) (by rw [c18]; rfl) (by decide) ?_
          refine lv_aload_n hx hb dX7_pair_114 rfl (lv_at hl 0 rfl) ?_
          refine va_get (D := D) (ci := 7) (v := .ref (a 11)) (C := RX7) (T := TX7) (N := 8) hx hb hts mX7_pair_inX7 hown hB.1 hP 0 xC_c0 rfl 1 (by decide) (hts _ mX7_pair_1) (fun _ h9 => h9) rfl dX7_pair_115 ?_
          refine va_get (D := D) (ci := 3) (v := .ref (a 12)) (C := RX3) (T := TX3) (N := 3) hx hb hts mX7_pair_inX3 hown hB.1 hP 11 xC_c11 rfl 0 (by decide) (hts _ mX7_pair_2) (fun _ h9 => h9) rfl dX7_pair_118 ?_
          refine lv_iload_n hx hb dX7_pair_121 rfl (lv_at hl 1 rfl) ?_
          refine xw_ri (va_runV (rm := { frames := 1, cells := 0, slots := 0, locals := 20 }) (As := [.int x1]) (rest := []) ⟨hx, hb, hml, hown, hts⟩ (c_X4_depth l D cy a x1 I17 F17 G17 _ h A) (cwV 1 hts gX7_pair_X4_depth rfl rfl rfl (by decide +kernel) ⟨Nat.le_of_ble_eq_true rfl, Nat.le_of_ble_eq_true rfl⟩) (xw_preV hB hP hD (ci := 4) rfl xC_c12) rfl rfl hl.1 rfl (lv_room (Nat.le_of_ble_eq_true rfl)) dX7_pair_122 ⟨Nat.le_of_ble_eq_true rfl, Nat.le_of_ble_eq_true rfl⟩) (fun r21 h => ?_)
          exact xw_wreti hx hb hr hlocks hP hD hS h dX7_pair_125
        have h := h.2
        have c18_2 := c18
        clear c18
        by_cases c18 : x2 = 3
        · have h := h.1 c18
          refine lv_tableIn (tgt := 126) hx hb dX7_pair_33 (by rw [c18]; decide) (by rw [c18]; decide) (by rw [c18]; rfl) (by decide) ?_
          refine lv_aload_n hx hb dX7_pair_126 rfl (lv_at hl 0 rfl) ?_
          refine va_get (D := D) (ci := 7) (v := .ref (a 11)) (C := RX7) (T := TX7) (N := 8) hx hb hts mX7_pair_inX7 hown hB.1 hP 0 xC_c0 rfl 1 (by decide) (hts _ mX7_pair_1) (fun _ h9 => h9) rfl dX7_pair_127 ?_
          refine va_get (D := D) (ci := 3) (v := .ref (a 12)) (C := RX3) (T := TX3) (N := 3) hx hb hts mX7_pair_inX3 hown hB.1 hP 11 xC_c11 rfl 0 (by decide) (hts _ mX7_pair_2) (fun _ h9 => h9) rfl dX7_pair_130 ?_
          refine va_get (D := D) (ci := 4) (v := .ref (a 15)) (C := RX4) (T := TX4) (N := 12) hx hb hts mX7_pair_inX4 hown hB.1 hP 12 xC_c12 rfl 7 (by decide) (hts _ mX7_pair_6) (fun _ h9 => h9) rfl dX7_pair_133 ?_
          refine lv_iload_n hx hb dX7_pair_136 rfl (lv_at hl 1 rfl) ?_
          refine xw_iald hx hb hB hP 15 xC_c15 h.1 dX7_pair_137 (fun v22 ev22 => ?_)
          have h := h.2 v22 ev22
          exact xw_wreti hx hb hr hlocks hP hD hS h dX7_pair_138
        have h := h.2
        have c18_3 := c18
        clear c18
        by_cases c18 : x2 = 4
        · have h := h.1 c18
          refine lv_tableIn (tgt := 139) hx hb dX7_pair_33 (by rw [c18]; decide) (by rw [c18]; decide) (by rw [c18]; rfl) (by decide) ?_
          refine lv_aload_n hx hb dX7_pair_139 rfl (lv_at hl 0 rfl) ?_
          refine va_get (D := D) (ci := 7) (v := .ref (a 21)) (C := RX7) (T := TX7) (N := 8) hx hb hts mX7_pair_inX7 hown hB.1 hP 0 xC_c0 rfl 3 (by decide) (hts _ mX7_pair_7) (fun _ h9 => h9) rfl dX7_pair_140 ?_
          refine va_get (D := D) (ci := 5) (v := .ref (a 22)) (C := RX5) (T := TX5) (N := 4) hx hb hts mX7_pair_inX5 hown hB.1 hP 21 xC_c21 rfl 0 (by decide) (hts _ mX7_pair_8) (fun _ h9 => h9) rfl dX7_pair_143 ?_
          refine lv_iload_n hx hb dX7_pair_146 rfl (lv_at hl 1 rfl) ?_
          refine xw_iald hx hb hB hP 22 xC_c22 h.1 dX7_pair_147 (fun v23 ev23 => ?_)
          have h := h.2 v23 ev23
          exact xw_wreti hx hb hr hlocks hP hD hS h dX7_pair_148
        have h := h.2
        have c18_4 := c18
        clear c18
        by_cases c18 : x2 = 5
        · have h := h.1 c18
          refine lv_tableIn (tgt := 149) hx hb dX7_pair_33 (by rw [c18]; decide) (by rw [c18]; decide) (by rw [c18]; rfl) (by decide) ?_
          refine lv_aload_n hx hb dX7_pair_149 rfl (lv_at hl 0 rfl) ?_
          refine va_get (D := D) (ci := 7) (v := .ref (a 21)) (C := RX7) (T := TX7) (N := 8) hx hb hts mX7_pair_inX7 hown hB.1 hP 0 xC_c0 rfl 3 (by decide) (hts _ mX7_pair_7) (fun _ h9 => h9) rfl dX7_pair_150 ?_
          refine va_get (D := D) (ci := 5) (v := .ref (a 23)) (C := RX5) (T := TX5) (N := 4) hx hb hts mX7_pair_inX5 hown hB.1 hP 21 xC_c21 rfl 1 (by decide) (hts _ mX7_pair_9) (fun _ h9 => h9) rfl dX7_pair_153 ?_
          refine lv_iload_n hx hb dX7_pair_156 rfl (lv_at hl 1 rfl) ?_
          refine xw_iald hx hb hB hP 23 xC_c23 h.1 dX7_pair_157 (fun v24 ev24 => ?_)
          have h := h.2 v24 ev24
          exact xw_wreti hx hb hr hlocks hP hD hS h dX7_pair_158
        have h := h.2
        have c18_5 := c18
        clear c18
        by_cases c18 : x2 = 6
        · have h := h.1 c18
          refine lv_tableIn (tgt := 159) hx hb dX7_pair_33 (by rw [c18]; decide) (by rw [c18]; decide) (by rw [c18]; rfl) (by decide) ?_
          refine lv_aload_n hx hb dX7_pair_159 rfl (lv_at hl 0 rfl) ?_
          refine va_get (D := D) (ci := 7) (v := .ref (a 25)) (C := RX7) (T := TX7) (N := 8) hx hb hts mX7_pair_inX7 hown hB.1 hP 0 xC_c0 rfl 4 (by decide) (hts _ mX7_pair_10) (fun _ h9 => h9) rfl dX7_pair_160 ?_
          refine va_get (D := D) (ci := 2) (v := .ref (a 26)) (C := RX2) (T := TX2) (N := 8) hx hb hts mX7_pair_inX2 hown hB.1 hP 25 xC_c25 rfl 0 (by decide) (hts _ mX7_pair_11) (fun _ h9 => h9) rfl dX7_pair_163 ?_
          refine lv_iload_n hx hb dX7_pair_166 rfl (lv_at hl 1 rfl) ?_
          refine xw_iald hx hb hB hP 26 xC_c26 h.1 dX7_pair_167 (fun v25 ev25 => ?_)
          have h := h.2 v25 ev25
          exact xw_wreti hx hb hr hlocks hP hD hS h dX7_pair_168
        have h := h.2
        have c18_6 := c18
        clear c18
        by_cases c18 : x2 = 7
        · have h := h.1 c18
          refine lv_tableIn (tgt := 169) hx hb dX7_pair_33 (by rw [c18]; decide) (by rw [c18]; decide) (by rw [c18]; rfl) (by decide) ?_
          refine lv_aload_n hx hb dX7_pair_169 rfl (lv_at hl 0 rfl) ?_
          refine va_get (D := D) (ci := 7) (v := .ref (a 25)) (C := RX7) (T := TX7) (N := 8) hx hb hts mX7_pair_inX7 hown hB.1 hP 0 xC_c0 rfl 4 (by decide) (hts _ mX7_pair_10) (fun _ h9 => h9) rfl dX7_pair_170 ?_
          refine va_get (D := D) (ci := 2) (v := .ref (a 27)) (C := RX2) (T := TX2) (N := 8) hx hb hts mX7_pair_inX2 hown hB.1 hP 25 xC_c25 rfl 1 (by decide) (hts _ mX7_pair_12) (fun _ h9 => h9) rfl dX7_pair_173 ?_
          refine lv_iload_n hx hb dX7_pair_176 rfl (lv_at hl 1 rfl) ?_
          refine xw_iald hx hb hB hP 27 xC_c27 h.1 dX7_pair_177 (fun v26 ev26 => ?_)
          have h := h.2 v26 ev26
          exact xw_wreti hx hb hr hlocks hP hD hS h dX7_pair_178
        have h := h.2
        have c18_7 := c18
        clear c18
        by_cases c18 : x2 = 8
        · have h := h.1 c18
          refine lv_tableIn (tgt := 179) hx hb dX7_pair_33 (by rw [c18]; decide) (by rw [c18]; decide) (by rw [c18]; rfl) (by decide) ?_
          refine lv_aload_n hx hb dX7_pair_179 rfl (lv_at hl 0 rfl) ?_
          refine va_get (D := D) (ci := 7) (v := .ref (a 25)) (C := RX7) (T := TX7) (N := 8) hx hb hts mX7_pair_inX7 hown hB.1 hP 0 xC_c0 rfl 4 (by decide) (hts _ mX7_pair_10) (fun _ h9 => h9) rfl dX7_pair_180 ?_
          refine va_get (D := D) (ci := 2) (v := .ref (a 28)) (C := RX2) (T := TX2) (N := 8) hx hb hts mX7_pair_inX2 hown hB.1 hP 25 xC_c25 rfl 2 (by decide) (hts _ mX7_pair_13) (fun _ h9 => h9) rfl dX7_pair_183 ?_
          refine lv_iload_n hx hb dX7_pair_186 rfl (lv_at hl 1 rfl) ?_
          refine xw_iald hx hb hB hP 28 xC_c28 h.1 dX7_pair_187 (fun v27 ev27 => ?_)
          have h := h.2 v27 ev27
          exact xw_wreti hx hb hr hlocks hP hD hS h dX7_pair_188
        have h := h.2
        have c18_8 := c18
        clear c18
        by_cases c18 : x2 = 9
        · have h := h.1 c18
          refine lv_tableIn (tgt := 189) hx hb dX7_pair_33 (by rw [c18]; decide) (by rw [c18]; decide) (by rw [c18]; rfl) (by decide) ?_
          refine lv_aload_n hx hb dX7_pair_189 rfl (lv_at hl 0 rfl) ?_
          refine va_get (D := D) (ci := 7) (v := .ref (a 21)) (C := RX7) (T := TX7) (N := 8) hx hb hts mX7_pair_inX7 hown hB.1 hP 0 xC_c0 rfl 3 (by decide) (hts _ mX7_pair_7) (fun _ h9 => h9) rfl dX7_pair_190 ?_
          refine va_get (D := D) (ci := 5) (v := .int (I17 13)) (C := RX5) (T := TX5) (N := 4) hx hb hts mX7_pair_inX5 hown hB.1 hP 21 xC_c21 rfl 3 (by decide) (hts _ mX7_pair_14) (fun _ h9 => h9) rfl dX7_pair_193 ?_
          refine lv_iload_n hx hb dX7_pair_196 rfl (lv_at hl 1 rfl) ?_
          refine lv_ishr hx hb dX7_pair_197 ?_
          refine lv_iconst (v := 1) hx hb dX7_pair_198 (by decide) ?_
          refine lv_iand hx hb dX7_pair_199 ?_
          exact xw_wreti hx hb hr hlocks hP hD hS h dX7_pair_200
        have h := h.2
        have c18_9 := c18
        clear c18
        have h := h c18_0 c18_1 c18_2 c18_3 c18_4 c18_5 c18_6 c18_7 c18_8 c18_9
        refine lv_tableOut (tgt := 201) hx hb dX7_pair_33 (xw_tab9 c18_0 c18_1 c18_2 c18_3 c18_4 c18_5 c18_6 c18_7 c18_8 c18_9) (by decide) ?_
        refine lv_bipush (v := -2) hx hb dX7_pair_201 (by decide) ?_
        exact xw_wreti hx hb hr hlocks hP hD hS h dX7_pair_203
      · have h := h.2 c16
        refine lv_iconst (v := -1) hx hb dX7_pair_26 (by decide) ?_
        exact xw_wreti hx hb hr hlocks hP hD hS h dX7_pair_27

theorem mX7_mark_1 : Cond.fieldLink RX7 19 "TagCarrier" "now" "LTagCarrier$Sentences;" ∈ wsX7_mark := List.mem_of_getElem? (i := 1) rfl
theorem mX7_mark_inX7 : ∀ w ∈ u_ws RX7 TX7 8, w ∈ wsX7_mark := by decide +kernel
theorem mX7_mark_2 : Cond.fieldLink RX7 71 "TagCarrier$Sentences" "source" "LTagCarrier$Source;" ∈ wsX7_mark := List.mem_of_getElem? (i := 2) rfl
theorem mX7_mark_inX3 : ∀ w ∈ u_ws RX3 TX3 3, w ∈ wsX7_mark := by decide +kernel
theorem mX7_mark_3 : Cond.fieldLink RX7 132 "TagCarrier$Source" "marks" "I" ∈ wsX7_mark := List.mem_of_getElem? (i := 3) rfl
theorem mX7_mark_inX4 : ∀ w ∈ u_ws RX4 TX4 12, w ∈ wsX7_mark := by decide +kernel
theorem mX7_mark_4 : Cond.fieldLink RX7 135 "TagCarrier$Source" "markGap" "[I" ∈ wsX7_mark := List.mem_of_getElem? (i := 4) rfl
theorem mX7_mark_5 : Cond.fieldLink RX7 30 "TagCarrier" "wanted" "LTagCarrier$Wanted;" ∈ wsX7_mark := List.mem_of_getElem? (i := 5) rfl
theorem mX7_mark_6 : Cond.fieldLink RX7 138 "TagCarrier$Wanted" "mark" "[I" ∈ wsX7_mark := List.mem_of_getElem? (i := 6) rfl
theorem mX7_mark_inX5 : ∀ w ∈ u_ws RX5 TX5 4, w ∈ wsX7_mark := by decide +kernel
theorem mX7_mark_7 : Cond.fieldLink RX7 44 "TagCarrier" "markPlacer" "LTagCarrier$MarkPlacer;" ∈ wsX7_mark := List.mem_of_getElem? (i := 7) rfl
theorem mX7_mark_8 : Cond.fieldLink RX7 141 "TagCarrier$MarkPlacer" "at" "[I" ∈ wsX7_mark := List.mem_of_getElem? (i := 8) rfl
theorem mX7_mark_inX0 : ∀ w ∈ u_ws RX0 TX0 4, w ∈ wsX7_mark := by decide +kernel
set_option maxHeartbeats 4000000 in
set_option maxRecDepth 100000 in
theorem c_X7_mark (l : Launch) (D : va_G) (cy : Nat → ClassId) (a : Nat → Nat) (x1 : Int32) (x2 : Int32) (I : xw_I) (F : xw_F) (G : xw_G) (post : Int32 → xw_I → xw_F → xw_G → Prop) (h : sm_X7_mark x1 x2 I F G post) : xw_Wi l yX7_mark wsX7_mark ({ frames := 6, cells := 0, slots := 0, locals := 143 }) D cy [.ref (a 0), .int x1, .int x2] (xC_w cy a I F G) (xC_w cy a) post := by
  intro A
  refine Met.ofW (cc := cX7_mark) (maxL := 3) (ret := (some .int)) (by decide) rfl ?_
  intro p e s m args below meth c s₁ B hml hv
  obtain ⟨rfl, hP, hB, hD⟩ := hv
  have hP : va_P D vwCl (xC_w cy a I F G) s.heap := hP
  have hx := B.exec
  have hb := B.bytes
  have hr := B.returns
  have hts := atoms_spec (ws := wsX7_mark) B.pre
  have hown : s.vm.findClass RX7 = some m.cls := findClass_of_methodNamed B.named
  have hlocks := B.notSynchronized
  have hS : va_S A s.heap s.heap [] := va_S.rf
  refine xw_go (fun WW hWW => ?_)
  have hl := lv_entry ([.ref (a 0), .int x1, .int x2]) (n := 3) (Nat.le_of_ble_eq_true rfl)
  rw [lg_entry_eq]
  generalize (lg_sl ([.ref (a 0), .int x1, .int x2]) ++ List.replicate (3 - (lg_sl ([.ref (a 0), .int x1, .int x2])).length) Slot.unset).toArray = ls at hl ⊢
  have hl : lv_has ls 3 [(0, .ref (a 0)), (1, .int x1), (2, .int x2)] := hl
  unfold sm_X7_mark at h
  refine lv_iload_n hx hb dX7_mark_0 rfl (lv_at hl 1 rfl) ?_
  refine lv_if_lt (tgt := 26) hx hb dX7_mark_1 (by decide) (fun c8 => ?_) (fun c8 => ?_)
  · have h := h.1 c8
    refine lv_iconst (v := -1) hx hb dX7_mark_26 (by decide) ?_
    exact xw_wreti hx hb hr hlocks hP hD hS h dX7_mark_27
  · have h := h.2 c8
    refine lv_iload_n hx hb dX7_mark_4 rfl (lv_at hl 1 rfl) ?_
    refine lv_iconst (v := 3) hx hb dX7_mark_5 (by decide) ?_
    refine lv_icmp_ge (tgt := 26) hx hb dX7_mark_6 (by decide) (fun c9 => ?_) (fun c9 => ?_)
    · have h := h.1 c9
      refine lv_iconst (v := -1) hx hb dX7_mark_26 (by decide) ?_
      exact xw_wreti hx hb hr hlocks hP hD hS h dX7_mark_27
    · have h := h.2 c9
      refine lv_aload_n hx hb dX7_mark_9 rfl (lv_at hl 0 rfl) ?_
      refine va_get (D := D) (ci := 7) (v := .ref (a 11)) (C := RX7) (T := TX7) (N := 8) hx hb hts mX7_mark_inX7 hown hB.1 hP 0 xC_c0 rfl 1 (by decide) (hts _ mX7_mark_1) (fun _ h9 => h9) rfl dX7_mark_10 ?_
      refine va_get (D := D) (ci := 3) (v := .ref (a 12)) (C := RX3) (T := TX3) (N := 3) hx hb hts mX7_mark_inX3 hown hB.1 hP 11 xC_c11 rfl 0 (by decide) (hts _ mX7_mark_2) (fun _ h9 => h9) rfl dX7_mark_13 ?_
      refine va_get (D := D) (ci := 4) (v := .int (I 9)) (C := RX4) (T := TX4) (N := 12) hx hb hts mX7_mark_inX4 hown hB.1 hP 12 xC_c12 rfl 2 (by decide) (hts _ mX7_mark_3) (fun _ h9 => h9) rfl dX7_mark_16 ?_
      refine lv_iload_n hx hb dX7_mark_19 rfl (lv_at hl 1 rfl) ?_
      refine xw_ri (va_runS (rm := { frames := 0, cells := 0, slots := 0, locals := 0 }) (As := [.int (I 9), .int x1]) (rest := []) ⟨hx, hb, hml, hown, hts⟩ (c_X7_has l D cy (I 9) x1 _ h (fun _ => True)) (va_cwS 2 hts gX7_mark_X7_has rfl rfl rfl (by decide +kernel) ⟨Nat.le_of_ble_eq_true rfl, Nat.le_of_ble_eq_true rfl⟩) (xw_preS hB xw_P0 (xw_D0 (A := fun _ => True))) rfl rfl hl.1 rfl (lv_room (Nat.le_of_ble_eq_true rfl)) dX7_mark_20 ⟨Nat.le_of_ble_eq_true rfl, Nat.le_of_ble_eq_true rfl⟩) (fun r10 h => ?_)
      refine lv_if_ne (tgt := 28) hx hb dX7_mark_23 (by decide) (fun c11 => ?_) (fun c11 => ?_)
      · have h := h.1 c11
        refine lv_aload_n hx hb dX7_mark_28 rfl (lv_at hl 0 rfl) ?_
        refine xw_wv (va_runV (rm := { frames := 5, cells := 0, slots := 0, locals := 123 }) (As := []) (rest := []) ⟨hx, hb, hml, hown, hts⟩ (c_X7_carry l D cy a I F G _ h A) (cwV 0 hts gX7_mark_X7_carry rfl rfl rfl (by decide +kernel) ⟨Nat.le_of_ble_eq_true rfl, Nat.le_of_ble_eq_true rfl⟩) (xw_preV hB hP hD (ci := 7) rfl xC_c0) rfl rfl hl.1 rfl (lv_room (Nat.le_of_ble_eq_true rfl)) dX7_mark_29 ⟨Nat.le_of_ble_eq_true rfl, Nat.le_of_ble_eq_true rfl⟩) hS (fun I12 F12 G12 H locs h hP hD hS => ?_)
        refine lv_iload_n hx hb dX7_mark_32 rfl (lv_at hl 2 rfl) ?_
        by_cases c13 : x2 = 0
        · have h := h.1 c13
          refine lv_tableIn (tgt := 60) hx hb dX7_mark_33 (by rw [c13]; decide) (by rw [c13]; decide) (by rw [c13]; rfl) (by decide) ?_
          refine lv_aload_n hx hb dX7_mark_60 rfl (lv_at hl 0 rfl) ?_
          refine va_get (D := D) (ci := 7) (v := .ref (a 11)) (C := RX7) (T := TX7) (N := 8) hx hb hts mX7_mark_inX7 hown hB.1 hP 0 xC_c0 rfl 1 (by decide) (hts _ mX7_mark_1) (fun _ h9 => h9) rfl dX7_mark_61 ?_
          refine va_get (D := D) (ci := 3) (v := .ref (a 12)) (C := RX3) (T := TX3) (N := 3) hx hb hts mX7_mark_inX3 hown hB.1 hP 11 xC_c11 rfl 0 (by decide) (hts _ mX7_mark_2) (fun _ h9 => h9) rfl dX7_mark_64 ?_
          refine va_get (D := D) (ci := 4) (v := .ref (a 17)) (C := RX4) (T := TX4) (N := 12) hx hb hts mX7_mark_inX4 hown hB.1 hP 12 xC_c12 rfl 9 (by decide) (hts _ mX7_mark_4) (fun _ h9 => h9) rfl dX7_mark_67 ?_
          refine lv_iload_n hx hb dX7_mark_70 rfl (lv_at hl 1 rfl) ?_
          refine xw_iald hx hb hB hP 17 xC_c17 h.1 dX7_mark_71 (fun v14 ev14 => ?_)
          have h := h.2 v14 ev14
          exact xw_wreti hx hb hr hlocks hP hD hS h dX7_mark_72
        have h := h.2
        have c13_0 := c13
        clear c13
        by_cases c13 : x2 = 1
        · have h := h.1 c13
          refine lv_tableIn (tgt := 73) hx hb dX7_mark_33 (by rw [c13]; decide) (by rw [c13]; decide) (by rw [c13]; rfl) (by decide) ?_
          refine lv_aload_n hx hb dX7_mark_73 rfl (lv_at hl 0 rfl) ?_
          refine va_get (D := D) (ci := 7) (v := .ref (a 21)) (C := RX7) (T := TX7) (N := 8) hx hb hts mX7_mark_inX7 hown hB.1 hP 0 xC_c0 rfl 3 (by decide) (hts _ mX7_mark_5) (fun _ h9 => h9) rfl dX7_mark_74 ?_
          refine va_get (D := D) (ci := 5) (v := .ref (a 24)) (C := RX5) (T := TX5) (N := 4) hx hb hts mX7_mark_inX5 hown hB.1 hP 21 xC_c21 rfl 2 (by decide) (hts _ mX7_mark_6) (fun _ h9 => h9) rfl dX7_mark_77 ?_
          refine lv_iload_n hx hb dX7_mark_80 rfl (lv_at hl 1 rfl) ?_
          refine xw_iald hx hb hB hP 24 xC_c24 h.1 dX7_mark_81 (fun v15 ev15 => ?_)
          have h := h.2 v15 ev15
          exact xw_wreti hx hb hr hlocks hP hD hS h dX7_mark_82
        have h := h.2
        have c13_1 := c13
        clear c13
        by_cases c13 : x2 = 2
        · have h := h.1 c13
          refine lv_tableIn (tgt := 83) hx hb dX7_mark_33 (by rw [c13]; decide) (by rw [c13]; decide) (by rw [c13]; rfl) (by decide) ?_
          refine lv_aload_n hx hb dX7_mark_83 rfl (lv_at hl 0 rfl) ?_
          refine va_get (D := D) (ci := 7) (v := .ref (a 32)) (C := RX7) (T := TX7) (N := 8) hx hb hts mX7_mark_inX7 hown hB.1 hP 0 xC_c0 rfl 5 (by decide) (hts _ mX7_mark_7) (fun _ h9 => h9) rfl dX7_mark_84 ?_
          refine va_get (D := D) (ci := 0) (v := .ref (a 33)) (C := RX0) (T := TX0) (N := 4) hx hb hts mX7_mark_inX0 hown hB.1 hP 32 xC_c32 rfl 0 (by decide) (hts _ mX7_mark_8) (fun _ h9 => h9) rfl dX7_mark_87 ?_
          refine lv_iload_n hx hb dX7_mark_90 rfl (lv_at hl 1 rfl) ?_
          refine xw_iald hx hb hB hP 33 xC_c33 h.1 dX7_mark_91 (fun v16 ev16 => ?_)
          have h := h.2 v16 ev16
          exact xw_wreti hx hb hr hlocks hP hD hS h dX7_mark_92
        have h := h.2
        have c13_2 := c13
        clear c13
        have h := h c13_0 c13_1 c13_2
        refine lv_tableOut (tgt := 93) hx hb dX7_mark_33 (xw_tab2 c13_0 c13_1 c13_2) (by decide) ?_
        refine lv_bipush (v := -2) hx hb dX7_mark_93 (by decide) ?_
        exact xw_wreti hx hb hr hlocks hP hD hS h dX7_mark_95
      · have h := h.2 c11
        refine lv_iconst (v := -1) hx hb dX7_mark_26 (by decide) ?_
        exact xw_wreti hx hb hr hlocks hP hD hS h dX7_mark_27

theorem mX7_total_1 : Cond.fieldLink RX7 37 "TagCarrier" "pairPlacer" "LTagCarrier$PairPlacer;" ∈ wsX7_total := List.mem_of_getElem? (i := 1) rfl
theorem mX7_total_inX7 : ∀ w ∈ u_ws RX7 TX7 8, w ∈ wsX7_total := by decide +kernel
theorem mX7_total_2 : Cond.fieldLink RX7 144 "TagCarrier$PairPlacer" "costOfAll" "I" ∈ wsX7_total := List.mem_of_getElem? (i := 2) rfl
theorem mX7_total_inX2 : ∀ w ∈ u_ws RX2 TX2 8, w ∈ wsX7_total := by decide +kernel
theorem mX7_total_3 : Cond.fieldLink RX7 44 "TagCarrier" "markPlacer" "LTagCarrier$MarkPlacer;" ∈ wsX7_total := List.mem_of_getElem? (i := 3) rfl
theorem mX7_total_4 : Cond.fieldLink RX7 147 "TagCarrier$MarkPlacer" "movedInAll" "I" ∈ wsX7_total := List.mem_of_getElem? (i := 4) rfl
theorem mX7_total_inX0 : ∀ w ∈ u_ws RX0 TX0 4, w ∈ wsX7_total := by decide +kernel
theorem mX7_total_5 : Cond.fieldLink RX7 19 "TagCarrier" "now" "LTagCarrier$Sentences;" ∈ wsX7_total := List.mem_of_getElem? (i := 5) rfl
theorem mX7_total_6 : Cond.fieldLink RX7 71 "TagCarrier$Sentences" "source" "LTagCarrier$Source;" ∈ wsX7_total := List.mem_of_getElem? (i := 6) rfl
theorem mX7_total_inX3 : ∀ w ∈ u_ws RX3 TX3 3, w ∈ wsX7_total := by decide +kernel
theorem mX7_total_7 : Cond.fieldLink RX7 95 "TagCarrier$Source" "pairs" "I" ∈ wsX7_total := List.mem_of_getElem? (i := 7) rfl
theorem mX7_total_inX4 : ∀ w ∈ u_ws RX4 TX4 12, w ∈ wsX7_total := by decide +kernel
theorem mX7_total_8 : Cond.fieldLink RX7 30 "TagCarrier" "wanted" "LTagCarrier$Wanted;" ∈ wsX7_total := List.mem_of_getElem? (i := 8) rfl
theorem mX7_total_9 : Cond.fieldLink RX7 129 "TagCarrier$Wanted" "missing" "I" ∈ wsX7_total := List.mem_of_getElem? (i := 9) rfl
theorem mX7_total_inX5 : ∀ w ∈ u_ws RX5 TX5 4, w ∈ wsX7_total := by decide +kernel
theorem mX7_total_10 : Cond.fieldLink RX7 132 "TagCarrier$Source" "marks" "I" ∈ wsX7_total := List.mem_of_getElem? (i := 10) rfl
set_option maxHeartbeats 4000000 in
set_option maxRecDepth 100000 in
theorem c_X7_total (l : Launch) (D : va_G) (cy : Nat → ClassId) (a : Nat → Nat) (x1 : Int32) (I : xw_I) (F : xw_F) (G : xw_G) (post : Int32 → xw_I → xw_F → xw_G → Prop) (h : sm_X7_total x1 I F G post) : xw_Wi l yX7_total wsX7_total ({ frames := 6, cells := 0, slots := 0, locals := 143 }) D cy [.ref (a 0), .int x1] (xC_w cy a I F G) (xC_w cy a) post := by
  intro A
  refine Met.ofW (cc := cX7_total) (maxL := 2) (ret := (some .int)) (by decide) rfl ?_
  intro p e s m args below meth c s₁ B hml hv
  obtain ⟨rfl, hP, hB, hD⟩ := hv
  have hP : va_P D vwCl (xC_w cy a I F G) s.heap := hP
  have hx := B.exec
  have hb := B.bytes
  have hr := B.returns
  have hts := atoms_spec (ws := wsX7_total) B.pre
  have hown : s.vm.findClass RX7 = some m.cls := findClass_of_methodNamed B.named
  have hlocks := B.notSynchronized
  have hS : va_S A s.heap s.heap [] := va_S.rf
  refine xw_go (fun WW hWW => ?_)
  have hl := lv_entry ([.ref (a 0), .int x1]) (n := 2) (Nat.le_of_ble_eq_true rfl)
  rw [lg_entry_eq]
  generalize (lg_sl ([.ref (a 0), .int x1]) ++ List.replicate (2 - (lg_sl ([.ref (a 0), .int x1])).length) Slot.unset).toArray = ls at hl ⊢
  have hl : lv_has ls 2 [(0, .ref (a 0)), (1, .int x1)] := hl
  unfold sm_X7_total at h
  refine lv_aload_n hx hb dX7_total_0 rfl (lv_at hl 0 rfl) ?_
  refine xw_wv (va_runV (rm := { frames := 5, cells := 0, slots := 0, locals := 123 }) (As := []) (rest := []) ⟨hx, hb, hml, hown, hts⟩ (c_X7_carry l D cy a I F G _ h A) (cwV 0 hts gX7_total_X7_carry rfl rfl rfl (by decide +kernel) ⟨Nat.le_of_ble_eq_true rfl, Nat.le_of_ble_eq_true rfl⟩) (xw_preV hB hP hD (ci := 7) rfl xC_c0) rfl rfl hl.1 rfl (lv_room (Nat.le_of_ble_eq_true rfl)) dX7_total_1 ⟨Nat.le_of_ble_eq_true rfl, Nat.le_of_ble_eq_true rfl⟩) hS (fun I2 F2 G2 H locs h hP hD hS => ?_)
  refine lv_iload_n hx hb dX7_total_4 rfl (lv_at hl 1 rfl) ?_
  by_cases c3 : x1 = 0
  · have h := h.1 c3
    refine lv_tableIn (tgt := 52) hx hb dX7_total_5 (by rw [c3]; decide) (by rw [c3]; decide) (by rw [c3]; rfl) (by decide) ?_
    refine lv_aload_n hx hb dX7_total_52 rfl (lv_at hl 0 rfl) ?_
    refine va_get (D := D) (ci := 7) (v := .ref (a 25)) (C := RX7) (T := TX7) (N := 8) hx hb hts mX7_total_inX7 hown hB.1 hP 0 xC_c0 rfl 4 (by decide) (hts _ mX7_total_1) (fun _ h9 => h9) rfl dX7_total_53 ?_
    refine va_get (D := D) (ci := 2) (v := .int (I2 14)) (C := RX2) (T := TX2) (N := 8) hx hb hts mX7_total_inX2 hown hB.1 hP 25 xC_c25 rfl 3 (by decide) (hts _ mX7_total_2) (fun _ h9 => h9) rfl dX7_total_56 ?_
    exact xw_wreti hx hb hr hlocks hP hD hS h dX7_total_59
  have h := h.2
  have c3_0 := c3
  clear c3
  by_cases c3 : x1 = 1
  · have h := h.1 c3
    refine lv_tableIn (tgt := 60) hx hb dX7_total_5 (by rw [c3]; decide) (by rw [c3]; decide) (by rw [c3]; rfl) (by decide) ?_
    refine lv_aload_n hx hb dX7_total_60 rfl (lv_at hl 0 rfl) ?_
    refine va_get (D := D) (ci := 7) (v := .ref (a 32)) (C := RX7) (T := TX7) (N := 8) hx hb hts mX7_total_inX7 hown hB.1 hP 0 xC_c0 rfl 5 (by decide) (hts _ mX7_total_3) (fun _ h9 => h9) rfl dX7_total_61 ?_
    refine va_get (D := D) (ci := 0) (v := .int (I2 16)) (C := RX0) (T := TX0) (N := 4) hx hb hts mX7_total_inX0 hown hB.1 hP 32 xC_c32 rfl 1 (by decide) (hts _ mX7_total_4) (fun _ h9 => h9) rfl dX7_total_64 ?_
    exact xw_wreti hx hb hr hlocks hP hD hS h dX7_total_67
  have h := h.2
  have c3_1 := c3
  clear c3
  by_cases c3 : x1 = 2
  · have h := h.1 c3
    refine lv_tableIn (tgt := 68) hx hb dX7_total_5 (by rw [c3]; decide) (by rw [c3]; decide) (by rw [c3]; rfl) (by decide) ?_
    refine lv_aload_n hx hb dX7_total_68 rfl (lv_at hl 0 rfl) ?_
    refine va_get (D := D) (ci := 7) (v := .ref (a 11)) (C := RX7) (T := TX7) (N := 8) hx hb hts mX7_total_inX7 hown hB.1 hP 0 xC_c0 rfl 1 (by decide) (hts _ mX7_total_5) (fun _ h9 => h9) rfl dX7_total_69 ?_
    refine va_get (D := D) (ci := 3) (v := .ref (a 12)) (C := RX3) (T := TX3) (N := 3) hx hb hts mX7_total_inX3 hown hB.1 hP 11 xC_c11 rfl 0 (by decide) (hts _ mX7_total_6) (fun _ h9 => h9) rfl dX7_total_72 ?_
    refine va_get (D := D) (ci := 4) (v := .int (I2 8)) (C := RX4) (T := TX4) (N := 12) hx hb hts mX7_total_inX4 hown hB.1 hP 12 xC_c12 rfl 1 (by decide) (hts _ mX7_total_7) (fun _ h9 => h9) rfl dX7_total_75 ?_
    exact xw_wreti hx hb hr hlocks hP hD hS h dX7_total_78
  have h := h.2
  have c3_2 := c3
  clear c3
  by_cases c3 : x1 = 3
  · have h := h.1 c3
    refine lv_tableIn (tgt := 79) hx hb dX7_total_5 (by rw [c3]; decide) (by rw [c3]; decide) (by rw [c3]; rfl) (by decide) ?_
    refine lv_aload_n hx hb dX7_total_79 rfl (lv_at hl 0 rfl) ?_
    refine va_get (D := D) (ci := 7) (v := .ref (a 21)) (C := RX7) (T := TX7) (N := 8) hx hb hts mX7_total_inX7 hown hB.1 hP 0 xC_c0 rfl 3 (by decide) (hts _ mX7_total_8) (fun _ h9 => h9) rfl dX7_total_80 ?_
    refine va_get (D := D) (ci := 5) (v := .int (I2 13)) (C := RX5) (T := TX5) (N := 4) hx hb hts mX7_total_inX5 hown hB.1 hP 21 xC_c21 rfl 3 (by decide) (hts _ mX7_total_9) (fun _ h9 => h9) rfl dX7_total_83 ?_
    exact xw_wreti hx hb hr hlocks hP hD hS h dX7_total_86
  have h := h.2
  have c3_3 := c3
  clear c3
  by_cases c3 : x1 = 4
  · have h := h.1 c3
    refine lv_tableIn (tgt := 87) hx hb dX7_total_5 (by rw [c3]; decide) (by rw [c3]; decide) (by rw [c3]; rfl) (by decide) ?_
    refine lv_aload_n hx hb dX7_total_87 rfl (lv_at hl 0 rfl) ?_
    refine va_get (D := D) (ci := 7) (v := .ref (a 11)) (C := RX7) (T := TX7) (N := 8) hx hb hts mX7_total_inX7 hown hB.1 hP 0 xC_c0 rfl 1 (by decide) (hts _ mX7_total_5) (fun _ h9 => h9) rfl dX7_total_88 ?_
    refine va_get (D := D) (ci := 3) (v := .ref (a 12)) (C := RX3) (T := TX3) (N := 3) hx hb hts mX7_total_inX3 hown hB.1 hP 11 xC_c11 rfl 0 (by decide) (hts _ mX7_total_6) (fun _ h9 => h9) rfl dX7_total_91 ?_
    refine va_get (D := D) (ci := 4) (v := .int (I2 9)) (C := RX4) (T := TX4) (N := 12) hx hb hts mX7_total_inX4 hown hB.1 hP 12 xC_c12 rfl 2 (by decide) (hts _ mX7_total_10) (fun _ h9 => h9) rfl dX7_total_94 ?_
    exact xw_wreti hx hb hr hlocks hP hD hS h dX7_total_97
  have h := h.2
  have c3_4 := c3
  clear c3
  by_cases c3 : x1 = 5
  · have h := h.1 c3
    refine lv_tableIn (tgt := 98) hx hb dX7_total_5 (by rw [c3]; decide) (by rw [c3]; decide) (by rw [c3]; rfl) (by decide) ?_
    refine lv_aload_n hx hb dX7_total_98 rfl (lv_at hl 0 rfl) ?_
    refine va_get (D := D) (ci := 7) (v := .ref (a 11)) (C := RX7) (T := TX7) (N := 8) hx hb hts mX7_total_inX7 hown hB.1 hP 0 xC_c0 rfl 1 (by decide) (hts _ mX7_total_5) (fun _ h9 => h9) rfl dX7_total_99 ?_
    refine xw_ri (va_runV (rm := { frames := 1, cells := 0, slots := 0, locals := 20 }) (As := []) (rest := []) ⟨hx, hb, hml, hown, hts⟩ (c_X3_countLinks l D cy a I2 F2 G2 _ h A) (cwV 0 hts gX7_total_X3_countLinks rfl rfl rfl (by decide +kernel) ⟨Nat.le_of_ble_eq_true rfl, Nat.le_of_ble_eq_true rfl⟩) (xw_preV hB hP hD (ci := 3) rfl xC_c11) rfl rfl hl.1 rfl (lv_room (Nat.le_of_ble_eq_true rfl)) dX7_total_102 ⟨Nat.le_of_ble_eq_true rfl, Nat.le_of_ble_eq_true rfl⟩) (fun r4 h => ?_)
    exact xw_wreti hx hb hr hlocks hP hD hS h dX7_total_105
  have h := h.2
  have c3_5 := c3
  clear c3
  by_cases c3 : x1 = 6
  · have h := h.1 c3
    refine lv_tableIn (tgt := 106) hx hb dX7_total_5 (by rw [c3]; decide) (by rw [c3]; decide) (by rw [c3]; rfl) (by decide) ?_
    refine lv_aload_n hx hb dX7_total_106 rfl (lv_at hl 0 rfl) ?_
    refine va_get (D := D) (ci := 7) (v := .ref (a 21)) (C := RX7) (T := TX7) (N := 8) hx hb hts mX7_total_inX7 hown hB.1 hP 0 xC_c0 rfl 3 (by decide) (hts _ mX7_total_8) (fun _ h9 => h9) rfl dX7_total_107 ?_
    refine lv_aload_n hx hb dX7_total_110 rfl (lv_at hl 0 rfl) ?_
    refine va_get (D := D) (ci := 7) (v := .ref (a 11)) (C := RX7) (T := TX7) (N := 8) hx hb hts mX7_total_inX7 hown hB.1 hP 0 xC_c0 rfl 1 (by decide) (hts _ mX7_total_5) (fun _ h9 => h9) rfl dX7_total_111 ?_
    refine va_get (D := D) (ci := 3) (v := .ref (a 12)) (C := RX3) (T := TX3) (N := 3) hx hb hts mX7_total_inX3 hown hB.1 hP 11 xC_c11 rfl 0 (by decide) (hts _ mX7_total_6) (fun _ h9 => h9) rfl dX7_total_114 ?_
    refine va_get (D := D) (ci := 4) (v := .int (I2 8)) (C := RX4) (T := TX4) (N := 12) hx hb hts mX7_total_inX4 hown hB.1 hP 12 xC_c12 rfl 1 (by decide) (hts _ mX7_total_7) (fun _ h9 => h9) rfl dX7_total_117 ?_
    refine xw_ri (va_runV (rm := { frames := 2, cells := 0, slots := 0, locals := 44 }) (As := [.int (I2 8)]) (rest := []) ⟨hx, hb, hml, hown, hts⟩ (c_X5_countCrossings l D cy a (I2 8) I2 F2 G2 _ h A) (cwV 1 hts gX7_total_X5_countCrossings rfl rfl rfl (by decide +kernel) ⟨Nat.le_of_ble_eq_true rfl, Nat.le_of_ble_eq_true rfl⟩) (xw_preV hB hP hD (ci := 5) rfl xC_c21) rfl rfl hl.1 rfl (lv_room (Nat.le_of_ble_eq_true rfl)) dX7_total_120 ⟨Nat.le_of_ble_eq_true rfl, Nat.le_of_ble_eq_true rfl⟩) (fun r5 h => ?_)
    exact xw_wreti hx hb hr hlocks hP hD hS h dX7_total_123
  have h := h.2
  have c3_6 := c3
  clear c3
  by_cases c3 : x1 = 7
  · have h := h.1 c3
    refine lv_tableIn (tgt := 124) hx hb dX7_total_5 (by rw [c3]; decide) (by rw [c3]; decide) (by rw [c3]; rfl) (by decide) ?_
    refine lv_aload_n hx hb dX7_total_124 rfl (lv_at hl 0 rfl) ?_
    refine va_get (D := D) (ci := 7) (v := .ref (a 11)) (C := RX7) (T := TX7) (N := 8) hx hb hts mX7_total_inX7 hown hB.1 hP 0 xC_c0 rfl 1 (by decide) (hts _ mX7_total_5) (fun _ h9 => h9) rfl dX7_total_125 ?_
    refine va_get (D := D) (ci := 3) (v := .ref (a 12)) (C := RX3) (T := TX3) (N := 3) hx hb hts mX7_total_inX3 hown hB.1 hP 11 xC_c11 rfl 0 (by decide) (hts _ mX7_total_6) (fun _ h9 => h9) rfl dX7_total_128 ?_
    refine xw_ri (va_runV (rm := { frames := 1, cells := 0, slots := 0, locals := 21 }) (As := []) (rest := []) ⟨hx, hb, hml, hown, hts⟩ (c_X4_countHolds l D cy a I2 F2 G2 _ h A) (cwV 0 hts gX7_total_X4_countHolds rfl rfl rfl (by decide +kernel) ⟨Nat.le_of_ble_eq_true rfl, Nat.le_of_ble_eq_true rfl⟩) (xw_preV hB hP hD (ci := 4) rfl xC_c12) rfl rfl hl.1 rfl (lv_room (Nat.le_of_ble_eq_true rfl)) dX7_total_131 ⟨Nat.le_of_ble_eq_true rfl, Nat.le_of_ble_eq_true rfl⟩) (fun r6 h => ?_)
    exact xw_wreti hx hb hr hlocks hP hD hS h dX7_total_134
  have h := h.2
  have c3_7 := c3
  clear c3
  have h := h c3_0 c3_1 c3_2 c3_3 c3_4 c3_5 c3_6 c3_7
  refine lv_tableOut (tgt := 135) hx hb dX7_total_5 (xw_tab7 c3_0 c3_1 c3_2 c3_3 c3_4 c3_5 c3_6 c3_7) (by decide) ?_
  refine lv_bipush (v := -2) hx hb dX7_total_135 (by decide) ?_
  exact xw_wreti hx hb hr hlocks hP hD hS h dX7_total_137

theorem mX7_sign_1 : Cond.fieldLink RX7 51 "TagCarrier" "writer" "LTagCarrier$Writer;" ∈ wsX7_sign := List.mem_of_getElem? (i := 1) rfl
theorem mX7_sign_inX7 : ∀ w ∈ u_ws RX7 TX7 8, w ∈ wsX7_sign := by decide +kernel
theorem mX7_sign_2 : Cond.fieldLink RX7 159 "TagCarrier$Writer" "count" "I" ∈ wsX7_sign := List.mem_of_getElem? (i := 2) rfl
theorem mX7_sign_inX6 : ∀ w ∈ u_ws RX6 TX6 3, w ∈ wsX7_sign := by decide +kernel
theorem mX7_sign_3 : Cond.fieldLink RX7 160 "TagCarrier$Writer" "signs" "[I" ∈ wsX7_sign := List.mem_of_getElem? (i := 3) rfl
set_option maxHeartbeats 4000000 in
set_option maxRecDepth 100000 in
theorem c_X7_sign (l : Launch) (D : va_G) (cy : Nat → ClassId) (a : Nat → Nat) (x1 : Int32) (I : xw_I) (F : xw_F) (G : xw_G) (post : Int32 → xw_I → xw_F → xw_G → Prop) (h : sm_X7_sign x1 I F G post) : xw_Wi l yX7_sign wsX7_sign ({ frames := 6, cells := 0, slots := 0, locals := 143 }) D cy [.ref (a 0), .int x1] (xC_w cy a I F G) (xC_w cy a) post := by
  intro A
  refine Met.ofW (cc := cX7_sign) (maxL := 2) (ret := (some .int)) (by decide) rfl ?_
  intro p e s m args below meth c s₁ B hml hv
  obtain ⟨rfl, hP, hB, hD⟩ := hv
  have hP : va_P D vwCl (xC_w cy a I F G) s.heap := hP
  have hx := B.exec
  have hb := B.bytes
  have hr := B.returns
  have hts := atoms_spec (ws := wsX7_sign) B.pre
  have hown : s.vm.findClass RX7 = some m.cls := findClass_of_methodNamed B.named
  have hlocks := B.notSynchronized
  have hS : va_S A s.heap s.heap [] := va_S.rf
  refine xw_go (fun WW hWW => ?_)
  have hl := lv_entry ([.ref (a 0), .int x1]) (n := 2) (Nat.le_of_ble_eq_true rfl)
  rw [lg_entry_eq]
  generalize (lg_sl ([.ref (a 0), .int x1]) ++ List.replicate (2 - (lg_sl ([.ref (a 0), .int x1])).length) Slot.unset).toArray = ls at hl ⊢
  have hl : lv_has ls 2 [(0, .ref (a 0)), (1, .int x1)] := hl
  unfold sm_X7_sign at h
  refine lv_aload_n hx hb dX7_sign_0 rfl (lv_at hl 0 rfl) ?_
  refine xw_wv (va_runV (rm := { frames := 5, cells := 0, slots := 0, locals := 123 }) (As := []) (rest := []) ⟨hx, hb, hml, hown, hts⟩ (c_X7_carry l D cy a I F G _ h A) (cwV 0 hts gX7_sign_X7_carry rfl rfl rfl (by decide +kernel) ⟨Nat.le_of_ble_eq_true rfl, Nat.le_of_ble_eq_true rfl⟩) (xw_preV hB hP hD (ci := 7) rfl xC_c0) rfl rfl hl.1 rfl (lv_room (Nat.le_of_ble_eq_true rfl)) dX7_sign_1 ⟨Nat.le_of_ble_eq_true rfl, Nat.le_of_ble_eq_true rfl⟩) hS (fun I5 F5 G5 H locs h hP hD hS => ?_)
  refine lv_iload_n hx hb dX7_sign_4 rfl (lv_at hl 1 rfl) ?_
  refine lv_iconst (v := -1) hx hb dX7_sign_5 (by decide) ?_
  refine lv_icmp_ne (tgt := 17) hx hb dX7_sign_6 (by decide) (fun c6 => ?_) (fun c6 => ?_)
  · have h := h.1 c6
    refine lv_iload_n hx hb dX7_sign_17 rfl (lv_at hl 1 rfl) ?_
    refine lv_if_lt (tgt := 32) hx hb dX7_sign_18 (by decide) (fun c7 => ?_) (fun c7 => ?_)
    · have h := h.1 c7
      refine lv_bipush (v := -6) hx hb dX7_sign_32 (by decide) ?_
      exact xw_wreti hx hb hr hlocks hP hD hS h dX7_sign_34
    · have h := h.2 c7
      refine lv_iload_n hx hb dX7_sign_21 rfl (lv_at hl 1 rfl) ?_
      refine lv_aload_n hx hb dX7_sign_22 rfl (lv_at hl 0 rfl) ?_
      refine va_get (D := D) (ci := 7) (v := .ref (a 36)) (C := RX7) (T := TX7) (N := 8) hx hb hts mX7_sign_inX7 hown hB.1 hP 0 xC_c0 rfl 6 (by decide) (hts _ mX7_sign_1) (fun _ h9 => h9) rfl dX7_sign_23 ?_
      refine va_get (D := D) (ci := 6) (v := .int (I5 17)) (C := RX6) (T := TX6) (N := 3) hx hb hts mX7_sign_inX6 hown hB.1 hP 36 xC_c36 rfl 1 (by decide) (hts _ mX7_sign_2) (fun _ h9 => h9) rfl dX7_sign_26 ?_
      refine lv_icmp_lt (tgt := 35) hx hb dX7_sign_29 (by decide) (fun c8 => ?_) (fun c8 => ?_)
      · have h := h.1 c8
        refine lv_aload_n hx hb dX7_sign_35 rfl (lv_at hl 0 rfl) ?_
        refine va_get (D := D) (ci := 7) (v := .ref (a 36)) (C := RX7) (T := TX7) (N := 8) hx hb hts mX7_sign_inX7 hown hB.1 hP 0 xC_c0 rfl 6 (by decide) (hts _ mX7_sign_1) (fun _ h9 => h9) rfl dX7_sign_36 ?_
        refine va_get (D := D) (ci := 6) (v := .ref (a 37)) (C := RX6) (T := TX6) (N := 3) hx hb hts mX7_sign_inX6 hown hB.1 hP 36 xC_c36 rfl 0 (by decide) (hts _ mX7_sign_3) (fun _ h9 => h9) rfl dX7_sign_39 ?_
        refine lv_iload_n hx hb dX7_sign_42 rfl (lv_at hl 1 rfl) ?_
        refine xw_iald hx hb hB hP 37 xC_c37 h.1 dX7_sign_43 (fun v9 ev9 => ?_)
        have h := h.2 v9 ev9
        exact xw_wreti hx hb hr hlocks hP hD hS h dX7_sign_44
      · have h := h.2 c8
        refine lv_bipush (v := -6) hx hb dX7_sign_32 (by decide) ?_
        exact xw_wreti hx hb hr hlocks hP hD hS h dX7_sign_34
  · have h := h.2 c6
    refine lv_aload_n hx hb dX7_sign_9 rfl (lv_at hl 0 rfl) ?_
    refine va_get (D := D) (ci := 7) (v := .ref (a 36)) (C := RX7) (T := TX7) (N := 8) hx hb hts mX7_sign_inX7 hown hB.1 hP 0 xC_c0 rfl 6 (by decide) (hts _ mX7_sign_1) (fun _ h9 => h9) rfl dX7_sign_10 ?_
    refine va_get (D := D) (ci := 6) (v := .int (I5 17)) (C := RX6) (T := TX6) (N := 3) hx hb hts mX7_sign_inX6 hown hB.1 hP 36 xC_c36 rfl 1 (by decide) (hts _ mX7_sign_2) (fun _ h9 => h9) rfl dX7_sign_13 ?_
    exact xw_wreti hx hb hr hlocks hP hD hS h dX7_sign_16

theorem mX7_told_1 : Cond.fieldLink RX7 19 "TagCarrier" "now" "LTagCarrier$Sentences;" ∈ wsX7_told := List.mem_of_getElem? (i := 1) rfl
theorem mX7_told_inX7 : ∀ w ∈ u_ws RX7 TX7 8, w ∈ wsX7_told := by decide +kernel
theorem mX7_told_2 : Cond.fieldLink RX7 71 "TagCarrier$Sentences" "source" "LTagCarrier$Source;" ∈ wsX7_told := List.mem_of_getElem? (i := 2) rfl
theorem mX7_told_inX3 : ∀ w ∈ u_ws RX3 TX3 3, w ∈ wsX7_told := by decide +kernel
theorem mX7_told_3 : Cond.fieldLink RX7 85 "TagCarrier$Source" "words" "I" ∈ wsX7_told := List.mem_of_getElem? (i := 3) rfl
theorem mX7_told_inX4 : ∀ w ∈ u_ws RX4 TX4 12, w ∈ wsX7_told := by decide +kernel
theorem mX7_told_4 : Cond.fieldLink RX7 91 "TagCarrier$Sentences" "links" "[I" ∈ wsX7_told := List.mem_of_getElem? (i := 4) rfl
theorem mX7_told_5 : Cond.fieldLink RX7 12 "TagCarrier" "pad" "LTagCarrier$Pad;" ∈ wsX7_told := List.mem_of_getElem? (i := 5) rfl
theorem mX7_told_6 : Cond.fieldLink RX7 63 "TagCarrier$Pad" "count" "I" ∈ wsX7_told := List.mem_of_getElem? (i := 6) rfl
theorem mX7_told_inX1 : ∀ w ∈ u_ws RX1 TX1 3, w ∈ wsX7_told := by decide +kernel
theorem mX7_told_7 : Cond.fieldLink RX7 88 "TagCarrier$Sentences" "targetWords" "I" ∈ wsX7_told := List.mem_of_getElem? (i := 7) rfl
set_option maxHeartbeats 4000000 in
set_option maxRecDepth 100000 in
theorem c_X7_told (l : Launch) (D : va_G) (cy : Nat → ClassId) (a : Nat → Nat) (x1 : Int32) (I : xw_I) (F : xw_F) (G : xw_G) (post : Int32 → Prop) (h : sm_X7_told x1 I F G post) : xw_Ri l yX7_told wsX7_told ({ frames := 0, cells := 0, slots := 0, locals := 0 }) D cy [.ref (a 0), .int x1] (xC_w cy a I F G) post := by
  intro A
  refine Met.ofW (cc := cX7_told) (maxL := 2) (ret := (some .int)) (by decide) rfl ?_
  intro p e s m args below meth c s₁ B hml hv
  obtain ⟨rfl, hP, hB, hD⟩ := hv
  have hP : va_P D vwCl (xC_w cy a I F G) s.heap := hP
  have hx := B.exec
  have hb := B.bytes
  have hr := B.returns
  have hts := atoms_spec (ws := wsX7_told) B.pre
  have hown : s.vm.findClass RX7 = some m.cls := findClass_of_methodNamed B.named
  have hlocks := B.notSynchronized
  refine xw_go (fun WW hWW => ?_)
  have hl := lv_entry ([.ref (a 0), .int x1]) (n := 2) (Nat.le_of_ble_eq_true rfl)
  rw [lg_entry_eq]
  generalize (lg_sl ([.ref (a 0), .int x1]) ++ List.replicate (2 - (lg_sl ([.ref (a 0), .int x1])).length) Slot.unset).toArray = ls at hl ⊢
  have hl : lv_has ls 2 [(0, .ref (a 0)), (1, .int x1)] := hl
  obtain ⟨k36, mk36, el36⟩ : ∃ K : Prop, ((∀ (ls : Array Slot), lv_has ls 2 [(0, .ref (a 0)), (1, .int x1)] → WW s.heap [] (F0 m 36 ls [])) → K ) ∧ (K  → (∀ (ls : Array Slot), lv_has ls 2 [(0, .ref (a 0)), (1, .int x1)] → WW s.heap [] (F0 m 36 ls []))) := ⟨(∀ (ls : Array Slot), lv_has ls 2 [(0, .ref (a 0)), (1, .int x1)] → WW s.heap [] (F0 m 36 ls [])), fun h => h, fun h => h⟩
  have rl36 : (bd_X7_told_36 x1 I F G post k36 ) → k36  := by
    intro  h
    refine mk36  ?_
    intro ls hl
    refine (hWW _ _ _).mpr ?_
    unfold bd_X7_told_36 at h
    refine lv_iload_n hx hb dX7_told_36 rfl (lv_at hl 1 rfl) ?_
    by_cases c8 : x1 = 0
    · have h := h.1 c8
      refine lv_tableIn (tgt := 64) hx hb dX7_told_37 (by rw [c8]; decide) (by rw [c8]; decide) (by rw [c8]; rfl) (by decide) ?_
      refine lv_aload_n hx hb dX7_told_64 rfl (lv_at hl 0 rfl) ?_
      refine va_get (D := D) (ci := 7) (v := .ref (a 1)) (C := RX7) (T := TX7) (N := 8) hx hb hts mX7_told_inX7 hown hB.1 hP 0 xC_c0 rfl 0 (by decide) (hts _ mX7_told_5) (fun _ h9 => h9) rfl dX7_told_65 ?_
      refine va_get (D := D) (ci := 1) (v := .int (I 1)) (C := RX1) (T := TX1) (N := 3) hx hb hts mX7_told_inX1 hown hB.1 hP 1 xC_c1 rfl 1 (by decide) (hts _ mX7_told_6) (fun _ h9 => h9) rfl dX7_told_68 ?_
      exact xw_ireti hx hb hr hlocks h dX7_told_71
    have h := h.2
    have c8_0 := c8
    clear c8
    by_cases c8 : x1 = 1
    · have h := h.1 c8
      refine lv_tableIn (tgt := 72) hx hb dX7_told_37 (by rw [c8]; decide) (by rw [c8]; decide) (by rw [c8]; rfl) (by decide) ?_
      refine lv_aload_n hx hb dX7_told_72 rfl (lv_at hl 0 rfl) ?_
      refine va_get (D := D) (ci := 7) (v := .ref (a 11)) (C := RX7) (T := TX7) (N := 8) hx hb hts mX7_told_inX7 hown hB.1 hP 0 xC_c0 rfl 1 (by decide) (hts _ mX7_told_1) (fun _ h9 => h9) rfl dX7_told_73 ?_
      refine va_get (D := D) (ci := 3) (v := .ref (a 12)) (C := RX3) (T := TX3) (N := 3) hx hb hts mX7_told_inX3 hown hB.1 hP 11 xC_c11 rfl 0 (by decide) (hts _ mX7_told_2) (fun _ h9 => h9) rfl dX7_told_76 ?_
      refine va_get (D := D) (ci := 4) (v := .int (I 7)) (C := RX4) (T := TX4) (N := 12) hx hb hts mX7_told_inX4 hown hB.1 hP 12 xC_c12 rfl 0 (by decide) (hts _ mX7_told_3) (fun _ h9 => h9) rfl dX7_told_79 ?_
      exact xw_ireti hx hb hr hlocks h dX7_told_82
    have h := h.2
    have c8_1 := c8
    clear c8
    by_cases c8 : x1 = 2
    · have h := h.1 c8
      refine lv_tableIn (tgt := 83) hx hb dX7_told_37 (by rw [c8]; decide) (by rw [c8]; decide) (by rw [c8]; rfl) (by decide) ?_
      refine lv_aload_n hx hb dX7_told_83 rfl (lv_at hl 0 rfl) ?_
      refine va_get (D := D) (ci := 7) (v := .ref (a 11)) (C := RX7) (T := TX7) (N := 8) hx hb hts mX7_told_inX7 hown hB.1 hP 0 xC_c0 rfl 1 (by decide) (hts _ mX7_told_1) (fun _ h9 => h9) rfl dX7_told_84 ?_
      refine va_get (D := D) (ci := 3) (v := .int (I 12)) (C := RX3) (T := TX3) (N := 3) hx hb hts mX7_told_inX3 hown hB.1 hP 11 xC_c11 rfl 2 (by decide) (hts _ mX7_told_7) (fun _ h9 => h9) rfl dX7_told_87 ?_
      exact xw_ireti hx hb hr hlocks h dX7_told_90
    have h := h.2
    have c8_2 := c8
    clear c8
    have h := h c8_0 c8_1 c8_2
    refine lv_tableOut (tgt := 91) hx hb dX7_told_37 (xw_tab2 c8_0 c8_1 c8_2) (by decide) ?_
    refine lv_bipush (v := -2) hx hb dX7_told_91 (by decide) ?_
    exact xw_ireti hx hb hr hlocks h dX7_told_93
  have h := h k36 rl36
  unfold bd_X7_told_0 at h
  refine lv_iload_n hx hb dX7_told_0 rfl (lv_at hl 1 rfl) ?_
  refine lv_bipush (v := 10) hx hb dX7_told_1 (by decide) ?_
  refine lv_icmp_lt (tgt := 36) hx hb dX7_told_3 (by decide) (fun c5 => ?_) (fun c5 => ?_)
  · have h := h.1 c5
    exact (hWW _ _ _).mp (el36  h ls (lv_sub hl [0, 1] rfl))
  · have h := h.2 c5
    refine lv_iload_n hx hb dX7_told_6 rfl (lv_at hl 1 rfl) ?_
    refine lv_bipush (v := 10) hx hb dX7_told_7 (by decide) ?_
    refine lv_aload_n hx hb dX7_told_9 rfl (lv_at hl 0 rfl) ?_
    refine va_get (D := D) (ci := 7) (v := .ref (a 11)) (C := RX7) (T := TX7) (N := 8) hx hb hts mX7_told_inX7 hown hB.1 hP 0 xC_c0 rfl 1 (by decide) (hts _ mX7_told_1) (fun _ h9 => h9) rfl dX7_told_10 ?_
    refine va_get (D := D) (ci := 3) (v := .ref (a 12)) (C := RX3) (T := TX3) (N := 3) hx hb hts mX7_told_inX3 hown hB.1 hP 11 xC_c11 rfl 0 (by decide) (hts _ mX7_told_2) (fun _ h9 => h9) rfl dX7_told_13 ?_
    refine va_get (D := D) (ci := 4) (v := .int (I 7)) (C := RX4) (T := TX4) (N := 12) hx hb hts mX7_told_inX4 hown hB.1 hP 12 xC_c12 rfl 0 (by decide) (hts _ mX7_told_3) (fun _ h9 => h9) rfl dX7_told_16 ?_
    refine lv_iadd hx hb dX7_told_19 ?_
    refine lv_icmp_ge (tgt := 36) hx hb dX7_told_20 (by decide) (fun c6 => ?_) (fun c6 => ?_)
    · have h := h.1 c6
      exact (hWW _ _ _).mp (el36  h ls (lv_sub hl [0, 1] rfl))
    · have h := h.2 c6
      refine lv_aload_n hx hb dX7_told_23 rfl (lv_at hl 0 rfl) ?_
      refine va_get (D := D) (ci := 7) (v := .ref (a 11)) (C := RX7) (T := TX7) (N := 8) hx hb hts mX7_told_inX7 hown hB.1 hP 0 xC_c0 rfl 1 (by decide) (hts _ mX7_told_1) (fun _ h9 => h9) rfl dX7_told_24 ?_
      refine va_get (D := D) (ci := 3) (v := .ref (a 20)) (C := RX3) (T := TX3) (N := 3) hx hb hts mX7_told_inX3 hown hB.1 hP 11 xC_c11 rfl 1 (by decide) (hts _ mX7_told_4) (fun _ h9 => h9) rfl dX7_told_27 ?_
      refine lv_iload_n hx hb dX7_told_30 rfl (lv_at hl 1 rfl) ?_
      refine lv_bipush (v := 10) hx hb dX7_told_31 (by decide) ?_
      refine lv_isub hx hb dX7_told_33 ?_
      refine xw_iald hx hb hB hP 20 xC_c20 h.1 dX7_told_34 (fun v7 ev7 => ?_)
      have h := h.2 v7 ev7
      exact xw_ireti hx hb hr hlocks h dX7_told_35
