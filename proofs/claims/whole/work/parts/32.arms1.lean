set_option maxHeartbeats 4000000 in
set_option maxRecDepth 100000 in
theorem xv_say {p : Program} {l : Launch} {e : Env} {s : State} {m : MethodId} {below : List Frame} {meth : Method} {c : Code} {D : va_G} {cy : Nat → ClassId} {sb L : Nat} {xs : Nat → Int32} {a d : Nat → Nat} {i : Nat} (hL : L ≤ 1536) (hi : i + 3 ≤ L) (C0 : lw_At p s m meth c sb L xs) (hB : xw_B D cy s) (k : xv_at p l e s m below meth c D cy sb a d i 399) : xv_at p l e s m below meth c D cy sb a d i 100 := by
  obtain ⟨hx, hb, hr, hml, hown, hts0, hX, hbl, hlocks, hgv⟩ := C0
  have hts : ∀ w ∈ wsL_law, w.before #[Value.ref sb] s = true := fun w hw => hts0 w (xl_law w hw)
  have hown : s.vm.findClass RL = some m.cls := hown
  have hbA : ¬ (fun q : Nat => s.heap.size ≤ q) sb := Nat.not_le.mpr hbl
  intro kp f b I F G J K G2 H locs cells slots ls hZ hl
  obtain ⟨hR, hf, hP, hD, hS, hc1, hc2⟩ := hZ
  have hcr : cells + 0 ≤ room_1.cells := Nat.le_trans (show cells + 0 ≤ 600000 by omega) (Nat.le_of_ble_eq_true rfl)
  have hsr : slots + 0 ≤ room_1.slots := Nat.le_trans (show slots + 0 ≤ 7302250 by omega) (Nat.le_of_ble_eq_true rfl)
  obtain ⟨v1, ev1⟩ : ∃ v : Int32, v = xs (i + 1) := ⟨_, rfl⟩
  rw [List.append_assoc] at hP hD
  refine lv_aload_n hx hb dL_law_100 rfl (lv_at hl 2 rfl) ?_
  refine lv_aload_n hx hb dL_law_101 rfl (lv_at hl 3 rfl) ?_
  refine lv_iload_n hx hb dL_law_102 rfl (lv_at hl 0 rfl) ?_
  refine lv_iconst (v := 1) hx hb dL_law_103 (by decide) ?_
  refine lv_iadd hx hb dL_law_104 ?_
  rw [show nI i + 1 = nI (i + 1) from nI_add i 1]
  refine va_sld hx hb hX hbl hbA hS (vp_in_nI (show i + 1 < L by omega) (by omega)) dL_law_105 ?_
  rw [nI_clamp (show i + 1 < 2 ^ 31 by omega), ← ev1]
  refine xj_wi (wf := xC_w cy a) hP hD (va_runV (rm := { frames := 1, cells := 0, slots := 0, locals := 21 }) (As := [.int v1]) (rest := []) ⟨hx, hb, hml, hown, hts⟩ (c_X7_say l D cy a v1 I F G _ (xq_say (L := G2) xc_Q_ok v1 hR.1) (xj_A (xC_w cy a I F G))) (cwV 1 hts gL_law_X7_say rfl rfl rfl (by decide +kernel) ⟨Nat.le_of_ble_eq_true rfl, Nat.le_of_ble_eq_true rfl⟩) (xw_preV hB (xj_Pl hP) (xj_self (xj_Dl hD)) (ci := 7) rfl xC_c0) rfl rfl hl.1 rfl (lv_room (Nat.le_of_ble_eq_true rfl)) dL_law_106 ⟨hcr, hsr⟩) hS (fun r I1 F1 G1 H locs h hP hD hS => ?_)
  rw [← List.append_assoc] at hP hD
  have hPm := xj_Psw hP
  have hDm := xj_Dsw hD
  refine lv_aload_n hx hb dL_law_109 rfl (lv_at hl 1 rfl) ?_
  refine lv_aload_n hx hb dL_law_110 rfl (lv_at hl 3 rfl) ?_
  refine lv_iload_n hx hb dL_law_111 rfl (lv_at hl 0 rfl) ?_
  refine lv_iconst (v := 1) hx hb dL_law_112 (by decide) ?_
  refine lv_iadd hx hb dL_law_113 ?_
  rw [show nI i + 1 = nI (i + 1) from nI_add i 1]
  refine va_sld hx hb hX hbl hbA hS (vp_in_nI (show i + 1 < L by omega) (by omega)) dL_law_114 ?_
  rw [nI_clamp (show i + 1 < 2 ^ 31 by omega), ← ev1]
  refine xj_wi (wf := xM_w cy d) hPm hDm (va_runV (rm := { frames := 1, cells := 0, slots := 0, locals := 22 }) (As := [.int v1]) (rest := [.int r]) ⟨hx, hb, hml, hown, hts⟩ (c_X8_say l D cy d v1 J K G2 _ h (xj_A (xM_w cy d J K G2))) (cwV 1 hts gL_law_X8_say rfl rfl rfl (by decide +kernel) ⟨Nat.le_of_ble_eq_true rfl, Nat.le_of_ble_eq_true rfl⟩) (xw_preV hB (xj_Pl hPm) (xj_self (xj_Dl hDm)) (ci := 8) rfl xM_c0) rfl rfl hl.1 rfl (lv_room (Nat.le_of_ble_eq_true rfl)) dL_law_115 ⟨hcr, hsr⟩) hS (fun r2 J1 K1 L1 H locs h hP hD hS => ?_)
  obtain ⟨hrr, hE⟩ := h
  subst hrr
  refine lv_icmp_eq (tgt := 399) hx hb dL_law_118 (by decide) (fun _ => ?_) (fun z => absurd rfl z)
  exact k kp f b I1 F1 G1 J1 K1 L1 H locs cells slots ls ⟨hR.to hE.1 hE.2, hf, xj_Psw hP, xj_Dsw hD, hS, hc1, hc2⟩ hl
set_option maxHeartbeats 4000000 in
set_option maxRecDepth 100000 in
theorem xv_wipe {p : Program} {l : Launch} {e : Env} {s : State} {m : MethodId} {below : List Frame} {meth : Method} {c : Code} {D : va_G} {cy : Nat → ClassId} {sb L : Nat} {xs : Nat → Int32} {a d : Nat → Nat} {i : Nat} (hL : L ≤ 1536) (hi : i + 3 ≤ L) (C0 : lw_At p s m meth c sb L xs) (hB : xw_B D cy s) (k : xv_at p l e s m below meth c D cy sb a d i 399) : xv_at p l e s m below meth c D cy sb a d i 123 := by
  obtain ⟨hx, hb, hr, hml, hown, hts0, hX, hbl, hlocks, hgv⟩ := C0
  have hts : ∀ w ∈ wsL_law, w.before #[Value.ref sb] s = true := fun w hw => hts0 w (xl_law w hw)
  have hown : s.vm.findClass RL = some m.cls := hown
  have hbA : ¬ (fun q : Nat => s.heap.size ≤ q) sb := Nat.not_le.mpr hbl
  intro kp f b I F G J K G2 H locs cells slots ls hZ hl
  obtain ⟨hR, hf, hP, hD, hS, hc1, hc2⟩ := hZ
  have hcr : cells + 0 ≤ room_1.cells := Nat.le_trans (show cells + 0 ≤ 600000 by omega) (Nat.le_of_ble_eq_true rfl)
  have hsr : slots + 0 ≤ room_1.slots := Nat.le_trans (show slots + 0 ≤ 7302250 by omega) (Nat.le_of_ble_eq_true rfl)
  rw [List.append_assoc] at hP hD
  refine lv_aload_n hx hb dL_law_123 rfl (lv_at hl 2 rfl) ?_
  refine xj_wi (wf := xC_w cy a) hP hD (va_runV (rm := { frames := 0, cells := 0, slots := 0, locals := 0 }) (As := []) (rest := []) ⟨hx, hb, hml, hown, hts⟩ (c_X7_wipe l D cy a I F G _ (xq_wipe (L := G2) xc_Q_ok hR.1) (xj_A (xC_w cy a I F G))) (cwV 0 hts gL_law_X7_wipe rfl rfl rfl (by decide +kernel) ⟨Nat.le_of_ble_eq_true rfl, Nat.le_of_ble_eq_true rfl⟩) (xw_preV hB (xj_Pl hP) (xj_self (xj_Dl hD)) (ci := 7) rfl xC_c0) rfl rfl hl.1 rfl (lv_room (Nat.le_of_ble_eq_true rfl)) dL_law_124 ⟨hcr, hsr⟩) hS (fun r I1 F1 G1 H locs h hP hD hS => ?_)
  rw [← List.append_assoc] at hP hD
  have hPm := xj_Psw hP
  have hDm := xj_Dsw hD
  refine lv_aload_n hx hb dL_law_127 rfl (lv_at hl 1 rfl) ?_
  refine xj_wi (wf := xM_w cy d) hPm hDm (va_runV (rm := { frames := 0, cells := 0, slots := 0, locals := 0 }) (As := []) (rest := [.int r]) ⟨hx, hb, hml, hown, hts⟩ (c_X8_wipe l D cy d J K G2 _ h (xj_A (xM_w cy d J K G2))) (cwV 0 hts gL_law_X8_wipe rfl rfl rfl (by decide +kernel) ⟨Nat.le_of_ble_eq_true rfl, Nat.le_of_ble_eq_true rfl⟩) (xw_preV hB (xj_Pl hPm) (xj_self (xj_Dl hDm)) (ci := 8) rfl xM_c0) rfl rfl hl.1 rfl (lv_room (Nat.le_of_ble_eq_true rfl)) dL_law_128 ⟨hcr, hsr⟩) hS (fun r2 J1 K1 L1 H locs h hP hD hS => ?_)
  obtain ⟨hrr, hE⟩ := h
  subst hrr
  refine lv_icmp_eq (tgt := 399) hx hb dL_law_131 (by decide) (fun _ => ?_) (fun z => absurd rfl z)
  exact k kp f b I1 F1 G1 J1 K1 L1 H locs cells slots ls ⟨hR.to hE.1 hE.2, hf, xj_Psw hP, xj_Dsw hD, hS, hc1, hc2⟩ hl
set_option maxHeartbeats 4000000 in
set_option maxRecDepth 100000 in
theorem xv_fault {p : Program} {l : Launch} {e : Env} {s : State} {m : MethodId} {below : List Frame} {meth : Method} {c : Code} {D : va_G} {cy : Nat → ClassId} {sb L : Nat} {xs : Nat → Int32} {a d : Nat → Nat} {i : Nat} (hL : L ≤ 1536) (hi : i + 3 ≤ L) (C0 : lw_At p s m meth c sb L xs) (hB : xw_B D cy s) (k : xv_at p l e s m below meth c D cy sb a d i 399) : xv_at p l e s m below meth c D cy sb a d i 136 := by
  obtain ⟨hx, hb, hr, hml, hown, hts0, hX, hbl, hlocks, hgv⟩ := C0
  have hts : ∀ w ∈ wsL_law, w.before #[Value.ref sb] s = true := fun w hw => hts0 w (xl_law w hw)
  have hown : s.vm.findClass RL = some m.cls := hown
  have hbA : ¬ (fun q : Nat => s.heap.size ≤ q) sb := Nat.not_le.mpr hbl
  intro kp f b I F G J K G2 H locs cells slots ls hZ hl
  obtain ⟨hR, hf, hP, hD, hS, hc1, hc2⟩ := hZ
  have hcr : cells + 0 ≤ room_1.cells := Nat.le_trans (show cells + 0 ≤ 600000 by omega) (Nat.le_of_ble_eq_true rfl)
  have hsr : slots + 0 ≤ room_1.slots := Nat.le_trans (show slots + 0 ≤ 7302250 by omega) (Nat.le_of_ble_eq_true rfl)
  rw [List.append_assoc] at hP hD
  refine lv_aload_n hx hb dL_law_136 rfl (lv_at hl 2 rfl) ?_
  refine xj_wi (wf := xC_w cy a) hP hD (va_runV (rm := { frames := 4, cells := 0, slots := 0, locals := 85 }) (As := []) (rest := []) ⟨hx, hb, hml, hown, hts⟩ (c_X7_fault l D cy a I F G _ (xq_fault (L := G2) xc_Q_ok hR.1) (xj_A (xC_w cy a I F G))) (cwV 0 hts gL_law_X7_fault rfl rfl rfl (by decide +kernel) ⟨Nat.le_of_ble_eq_true rfl, Nat.le_of_ble_eq_true rfl⟩) (xw_preV hB (xj_Pl hP) (xj_self (xj_Dl hD)) (ci := 7) rfl xC_c0) rfl rfl hl.1 rfl (lv_room (Nat.le_of_ble_eq_true rfl)) dL_law_137 ⟨hcr, hsr⟩) hS (fun r I1 F1 G1 H locs h hP hD hS => ?_)
  rw [← List.append_assoc] at hP hD
  have hPm := xj_Psw hP
  have hDm := xj_Dsw hD
  refine lv_aload_n hx hb dL_law_140 rfl (lv_at hl 1 rfl) ?_
  refine xj_wi (wf := xM_w cy d) hPm hDm (va_runV (rm := { frames := 2, cells := 0, slots := 0, locals := 48 }) (As := []) (rest := [.int r]) ⟨hx, hb, hml, hown, hts⟩ (c_X8_fault l D cy d J K G2 _ h (xj_A (xM_w cy d J K G2))) (cwV 0 hts gL_law_X8_fault rfl rfl rfl (by decide +kernel) ⟨Nat.le_of_ble_eq_true rfl, Nat.le_of_ble_eq_true rfl⟩) (xw_preV hB (xj_Pl hPm) (xj_self (xj_Dl hDm)) (ci := 8) rfl xM_c0) rfl rfl hl.1 rfl (lv_room (Nat.le_of_ble_eq_true rfl)) dL_law_141 ⟨hcr, hsr⟩) hS (fun r2 J1 K1 L1 H locs h hP hD hS => ?_)
  obtain ⟨hrr, hE⟩ := h
  subst hrr
  refine lv_icmp_eq (tgt := 399) hx hb dL_law_144 (by decide) (fun _ => ?_) (fun z => absurd rfl z)
  exact k kp f b I1 F1 G1 J1 K1 L1 H locs cells slots ls ⟨hR.to hE.1 hE.2, hf, xj_Psw hP, xj_Dsw hD, hS, hc1, hc2⟩ hl
set_option maxHeartbeats 4000000 in
set_option maxRecDepth 100000 in
theorem xv_load {p : Program} {l : Launch} {e : Env} {s : State} {m : MethodId} {below : List Frame} {meth : Method} {c : Code} {D : va_G} {cy : Nat → ClassId} {sb L : Nat} {xs : Nat → Int32} {a d : Nat → Nat} {i : Nat} (hL : L ≤ 1536) (hi : i + 3 ≤ L) (C0 : lw_At p s m meth c sb L xs) (hB : xw_B D cy s) (k : xv_at p l e s m below meth c D cy sb a d i 399) : xv_at p l e s m below meth c D cy sb a d i 149 := by
  obtain ⟨hx, hb, hr, hml, hown, hts0, hX, hbl, hlocks, hgv⟩ := C0
  have hts : ∀ w ∈ wsL_law, w.before #[Value.ref sb] s = true := fun w hw => hts0 w (xl_law w hw)
  have hown : s.vm.findClass RL = some m.cls := hown
  have hbA : ¬ (fun q : Nat => s.heap.size ≤ q) sb := Nat.not_le.mpr hbl
  intro kp f b I F G J K G2 H locs cells slots ls hZ hl
  obtain ⟨hR, hf, hP, hD, hS, hc1, hc2⟩ := hZ
  have hcr : cells + 0 ≤ room_1.cells := Nat.le_trans (show cells + 0 ≤ 600000 by omega) (Nat.le_of_ble_eq_true rfl)
  have hsr : slots + 0 ≤ room_1.slots := Nat.le_trans (show slots + 0 ≤ 7302250 by omega) (Nat.le_of_ble_eq_true rfl)
  rw [List.append_assoc] at hP hD
  refine lv_aload_n hx hb dL_law_149 rfl (lv_at hl 2 rfl) ?_
  refine xj_wi (wf := xC_w cy a) hP hD (va_runV (rm := { frames := 4, cells := 0, slots := 0, locals := 85 }) (As := []) (rest := []) ⟨hx, hb, hml, hown, hts⟩ (c_X7_load l D cy a I F G _ (xq_load (L := G2) xc_Q_ok hR.1) (xj_A (xC_w cy a I F G))) (cwV 0 hts gL_law_X7_load rfl rfl rfl (by decide +kernel) ⟨Nat.le_of_ble_eq_true rfl, Nat.le_of_ble_eq_true rfl⟩) (xw_preV hB (xj_Pl hP) (xj_self (xj_Dl hD)) (ci := 7) rfl xC_c0) rfl rfl hl.1 rfl (lv_room (Nat.le_of_ble_eq_true rfl)) dL_law_150 ⟨hcr, hsr⟩) hS (fun r I1 F1 G1 H locs h hP hD hS => ?_)
  rw [← List.append_assoc] at hP hD
  have hPm := xj_Psw hP
  have hDm := xj_Dsw hD
  refine lv_aload_n hx hb dL_law_153 rfl (lv_at hl 1 rfl) ?_
  refine xj_wi (wf := xM_w cy d) hPm hDm (va_runV (rm := { frames := 2, cells := 0, slots := 0, locals := 48 }) (As := []) (rest := [.int r]) ⟨hx, hb, hml, hown, hts⟩ (c_X8_load l D cy d J K G2 _ h (xj_A (xM_w cy d J K G2))) (cwV 0 hts gL_law_X8_load rfl rfl rfl (by decide +kernel) ⟨Nat.le_of_ble_eq_true rfl, Nat.le_of_ble_eq_true rfl⟩) (xw_preV hB (xj_Pl hPm) (xj_self (xj_Dl hDm)) (ci := 8) rfl xM_c0) rfl rfl hl.1 rfl (lv_room (Nat.le_of_ble_eq_true rfl)) dL_law_154 ⟨hcr, hsr⟩) hS (fun r2 J1 K1 L1 H locs h hP hD hS => ?_)
  obtain ⟨hrr, hE⟩ := h
  subst hrr
  refine lv_icmp_eq (tgt := 399) hx hb dL_law_157 (by decide) (fun _ => ?_) (fun z => absurd rfl z)
  exact k kp f b I1 F1 G1 J1 K1 L1 H locs cells slots ls ⟨hR.to hE.1 hE.2, hf, xj_Psw hP, xj_Dsw hD, hS, hc1, hc2⟩ hl
set_option maxHeartbeats 4000000 in
set_option maxRecDepth 100000 in
theorem xv_target {p : Program} {l : Launch} {e : Env} {s : State} {m : MethodId} {below : List Frame} {meth : Method} {c : Code} {D : va_G} {cy : Nat → ClassId} {sb L : Nat} {xs : Nat → Int32} {a d : Nat → Nat} {i : Nat} (hL : L ≤ 1536) (hi : i + 3 ≤ L) (C0 : lw_At p s m meth c sb L xs) (hB : xw_B D cy s) (k : xv_at p l e s m below meth c D cy sb a d i 399) : xv_at p l e s m below meth c D cy sb a d i 162 := by
  obtain ⟨hx, hb, hr, hml, hown, hts0, hX, hbl, hlocks, hgv⟩ := C0
  have hts : ∀ w ∈ wsL_law, w.before #[Value.ref sb] s = true := fun w hw => hts0 w (xl_law w hw)
  have hown : s.vm.findClass RL = some m.cls := hown
  have hbA : ¬ (fun q : Nat => s.heap.size ≤ q) sb := Nat.not_le.mpr hbl
  intro kp f b I F G J K G2 H locs cells slots ls hZ hl
  obtain ⟨hR, hf, hP, hD, hS, hc1, hc2⟩ := hZ
  have hcr : cells + 0 ≤ room_1.cells := Nat.le_trans (show cells + 0 ≤ 600000 by omega) (Nat.le_of_ble_eq_true rfl)
  have hsr : slots + 0 ≤ room_1.slots := Nat.le_trans (show slots + 0 ≤ 7302250 by omega) (Nat.le_of_ble_eq_true rfl)
  obtain ⟨v1, ev1⟩ : ∃ v : Int32, v = xs (i + 1) := ⟨_, rfl⟩
  rw [List.append_assoc] at hP hD
  refine lv_aload_n hx hb dL_law_162 rfl (lv_at hl 2 rfl) ?_
  refine lv_aload_n hx hb dL_law_163 rfl (lv_at hl 3 rfl) ?_
  refine lv_iload_n hx hb dL_law_164 rfl (lv_at hl 0 rfl) ?_
  refine lv_iconst (v := 1) hx hb dL_law_165 (by decide) ?_
  refine lv_iadd hx hb dL_law_166 ?_
  rw [show nI i + 1 = nI (i + 1) from nI_add i 1]
  refine va_sld hx hb hX hbl hbA hS (vp_in_nI (show i + 1 < L by omega) (by omega)) dL_law_167 ?_
  rw [nI_clamp (show i + 1 < 2 ^ 31 by omega), ← ev1]
  refine xj_wi (wf := xC_w cy a) hP hD (va_runV (rm := { frames := 1, cells := 0, slots := 0, locals := 21 }) (As := [.int v1]) (rest := []) ⟨hx, hb, hml, hown, hts⟩ (c_X7_target l D cy a v1 I F G _ (xq_target (L := G2) v1 hR.1) (xj_A (xC_w cy a I F G))) (cwV 1 hts gL_law_X7_target rfl rfl rfl (by decide +kernel) ⟨Nat.le_of_ble_eq_true rfl, Nat.le_of_ble_eq_true rfl⟩) (xw_preV hB (xj_Pl hP) (xj_self (xj_Dl hD)) (ci := 7) rfl xC_c0) rfl rfl hl.1 rfl (lv_room (Nat.le_of_ble_eq_true rfl)) dL_law_168 ⟨hcr, hsr⟩) hS (fun r I1 F1 G1 H locs h hP hD hS => ?_)
  rw [← List.append_assoc] at hP hD
  have hPm := xj_Psw hP
  have hDm := xj_Dsw hD
  refine lv_aload_n hx hb dL_law_171 rfl (lv_at hl 1 rfl) ?_
  refine lv_aload_n hx hb dL_law_172 rfl (lv_at hl 3 rfl) ?_
  refine lv_iload_n hx hb dL_law_173 rfl (lv_at hl 0 rfl) ?_
  refine lv_iconst (v := 1) hx hb dL_law_174 (by decide) ?_
  refine lv_iadd hx hb dL_law_175 ?_
  rw [show nI i + 1 = nI (i + 1) from nI_add i 1]
  refine va_sld hx hb hX hbl hbA hS (vp_in_nI (show i + 1 < L by omega) (by omega)) dL_law_176 ?_
  rw [nI_clamp (show i + 1 < 2 ^ 31 by omega), ← ev1]
  refine xj_wi (wf := xM_w cy d) hPm hDm (va_runV (rm := { frames := 1, cells := 0, slots := 0, locals := 22 }) (As := [.int v1]) (rest := [.int r]) ⟨hx, hb, hml, hown, hts⟩ (c_X8_target l D cy d v1 J K G2 _ h (xj_A (xM_w cy d J K G2))) (cwV 1 hts gL_law_X8_target rfl rfl rfl (by decide +kernel) ⟨Nat.le_of_ble_eq_true rfl, Nat.le_of_ble_eq_true rfl⟩) (xw_preV hB (xj_Pl hPm) (xj_self (xj_Dl hDm)) (ci := 8) rfl xM_c0) rfl rfl hl.1 rfl (lv_room (Nat.le_of_ble_eq_true rfl)) dL_law_177 ⟨hcr, hsr⟩) hS (fun r2 J1 K1 L1 H locs h hP hD hS => ?_)
  obtain ⟨hrr, hE⟩ := h
  subst hrr
  refine lv_icmp_eq (tgt := 399) hx hb dL_law_180 (by decide) (fun _ => ?_) (fun z => absurd rfl z)
  exact k kp f b I1 F1 G1 J1 K1 L1 H locs cells slots ls ⟨hR.to hE.1 hE.2, hf, xj_Psw hP, xj_Dsw hD, hS, hc1, hc2⟩ hl
set_option maxHeartbeats 4000000 in
set_option maxRecDepth 100000 in
theorem xv_link {p : Program} {l : Launch} {e : Env} {s : State} {m : MethodId} {below : List Frame} {meth : Method} {c : Code} {D : va_G} {cy : Nat → ClassId} {sb L : Nat} {xs : Nat → Int32} {a d : Nat → Nat} {i : Nat} (hL : L ≤ 1536) (hi : i + 3 ≤ L) (C0 : lw_At p s m meth c sb L xs) (hB : xw_B D cy s) (k : xv_at p l e s m below meth c D cy sb a d i 399) : xv_at p l e s m below meth c D cy sb a d i 185 := by
  obtain ⟨hx, hb, hr, hml, hown, hts0, hX, hbl, hlocks, hgv⟩ := C0
  have hts : ∀ w ∈ wsL_law, w.before #[Value.ref sb] s = true := fun w hw => hts0 w (xl_law w hw)
  have hown : s.vm.findClass RL = some m.cls := hown
  have hbA : ¬ (fun q : Nat => s.heap.size ≤ q) sb := Nat.not_le.mpr hbl
  intro kp f b I F G J K G2 H locs cells slots ls hZ hl
  obtain ⟨hR, hf, hP, hD, hS, hc1, hc2⟩ := hZ
  have hcr : cells + 0 ≤ room_1.cells := Nat.le_trans (show cells + 0 ≤ 600000 by omega) (Nat.le_of_ble_eq_true rfl)
  have hsr : slots + 0 ≤ room_1.slots := Nat.le_trans (show slots + 0 ≤ 7302250 by omega) (Nat.le_of_ble_eq_true rfl)
  obtain ⟨v1, ev1⟩ : ∃ v : Int32, v = xs (i + 1) := ⟨_, rfl⟩
  obtain ⟨v2, ev2⟩ : ∃ v : Int32, v = xs (i + 2) := ⟨_, rfl⟩
  rw [List.append_assoc] at hP hD
  refine lv_aload_n hx hb dL_law_185 rfl (lv_at hl 2 rfl) ?_
  refine lv_aload_n hx hb dL_law_186 rfl (lv_at hl 3 rfl) ?_
  refine lv_iload_n hx hb dL_law_187 rfl (lv_at hl 0 rfl) ?_
  refine lv_iconst (v := 1) hx hb dL_law_188 (by decide) ?_
  refine lv_iadd hx hb dL_law_189 ?_
  rw [show nI i + 1 = nI (i + 1) from nI_add i 1]
  refine va_sld hx hb hX hbl hbA hS (vp_in_nI (show i + 1 < L by omega) (by omega)) dL_law_190 ?_
  rw [nI_clamp (show i + 1 < 2 ^ 31 by omega), ← ev1]
  refine lv_aload_n hx hb dL_law_191 rfl (lv_at hl 3 rfl) ?_
  refine lv_iload_n hx hb dL_law_192 rfl (lv_at hl 0 rfl) ?_
  refine lv_iconst (v := 2) hx hb dL_law_193 (by decide) ?_
  refine lv_iadd hx hb dL_law_194 ?_
  rw [show nI i + 2 = nI (i + 2) from nI_add i 2]
  refine va_sld hx hb hX hbl hbA hS (vp_in_nI (show i + 2 < L by omega) (by omega)) dL_law_195 ?_
  rw [nI_clamp (show i + 2 < 2 ^ 31 by omega), ← ev2]
  refine xj_wi (wf := xC_w cy a) hP hD (va_runV (rm := { frames := 0, cells := 0, slots := 0, locals := 0 }) (As := [.int v1, .int v2]) (rest := []) ⟨hx, hb, hml, hown, hts⟩ (c_X7_link l D cy a v1 v2 I F G _ (xq_link (L := G2) v1 v2 hR.1) (xj_A (xC_w cy a I F G))) (cwV 2 hts gL_law_X7_link rfl rfl rfl (by decide +kernel) ⟨Nat.le_of_ble_eq_true rfl, Nat.le_of_ble_eq_true rfl⟩) (xw_preV hB (xj_Pl hP) (xj_self (xj_Dl hD)) (ci := 7) rfl xC_c0) rfl rfl hl.1 rfl (lv_room (Nat.le_of_ble_eq_true rfl)) dL_law_196 ⟨hcr, hsr⟩) hS (fun r I1 F1 G1 H locs h hP hD hS => ?_)
  rw [← List.append_assoc] at hP hD
  have hPm := xj_Psw hP
  have hDm := xj_Dsw hD
  refine lv_aload_n hx hb dL_law_199 rfl (lv_at hl 1 rfl) ?_
  refine lv_aload_n hx hb dL_law_200 rfl (lv_at hl 3 rfl) ?_
  refine lv_iload_n hx hb dL_law_201 rfl (lv_at hl 0 rfl) ?_
  refine lv_iconst (v := 1) hx hb dL_law_202 (by decide) ?_
  refine lv_iadd hx hb dL_law_203 ?_
  rw [show nI i + 1 = nI (i + 1) from nI_add i 1]
  refine va_sld hx hb hX hbl hbA hS (vp_in_nI (show i + 1 < L by omega) (by omega)) dL_law_204 ?_
  rw [nI_clamp (show i + 1 < 2 ^ 31 by omega), ← ev1]
  refine lv_aload_n hx hb dL_law_205 rfl (lv_at hl 3 rfl) ?_
  refine lv_iload_n hx hb dL_law_206 rfl (lv_at hl 0 rfl) ?_
  refine lv_iconst (v := 2) hx hb dL_law_207 (by decide) ?_
  refine lv_iadd hx hb dL_law_208 ?_
  rw [show nI i + 2 = nI (i + 2) from nI_add i 2]
  refine va_sld hx hb hX hbl hbA hS (vp_in_nI (show i + 2 < L by omega) (by omega)) dL_law_209 ?_
  rw [nI_clamp (show i + 2 < 2 ^ 31 by omega), ← ev2]
  refine xj_wi (wf := xM_w cy d) hPm hDm (va_runV (rm := { frames := 1, cells := 0, slots := 0, locals := 22 }) (As := [.int v1, .int v2]) (rest := [.int r]) ⟨hx, hb, hml, hown, hts⟩ (c_X8_link l D cy d v1 v2 J K G2 _ h (xj_A (xM_w cy d J K G2))) (cwV 2 hts gL_law_X8_link rfl rfl rfl (by decide +kernel) ⟨Nat.le_of_ble_eq_true rfl, Nat.le_of_ble_eq_true rfl⟩) (xw_preV hB (xj_Pl hPm) (xj_self (xj_Dl hDm)) (ci := 8) rfl xM_c0) rfl rfl hl.1 rfl (lv_room (Nat.le_of_ble_eq_true rfl)) dL_law_210 ⟨hcr, hsr⟩) hS (fun r2 J1 K1 L1 H locs h hP hD hS => ?_)
  obtain ⟨hrr, hE⟩ := h
  subst hrr
  refine lv_icmp_eq (tgt := 399) hx hb dL_law_213 (by decide) (fun _ => ?_) (fun z => absurd rfl z)
  exact k kp f b I1 F1 G1 J1 K1 L1 H locs cells slots ls ⟨hR.to hE.1 hE.2, hf, xj_Psw hP, xj_Dsw hD, hS, hc1, hc2⟩ hl
