set_option maxHeartbeats 4000000 in
set_option maxRecDepth 100000 in
theorem xv_pair {p : Program} {l : Launch} {e : Env} {s : State} {m : MethodId} {below : List Frame} {meth : Method} {c : Code} {D : va_G} {cy : Nat → ClassId} {sb L : Nat} {xs : Nat → Int32} {a d : Nat → Nat} {i : Nat} (hL : L ≤ 1536) (hi : i + 3 ≤ L) (C0 : lw_At p s m meth c sb L xs) (hB : xw_B D cy s) (k : xv_at p l e s m below meth c D cy sb a d i 399) : xv_at p l e s m below meth c D cy sb a d i 218 := by
  obtain ⟨hx, hb, hr, hml, hown, hts0, hX, hbl, hlocks, hgv⟩ := C0
  have hts : ∀ w ∈ wsL_law, w.before #[Value.ref sb] s = true := fun w hw => hts0 w (xl_law w hw)
  have hown : s.vm.findClass RL = some m.cls := hown
  have hbA : ¬ (fun q : Nat => s.heap.size ≤ q) sb := Nat.not_le.mpr hbl
  intro kp f b I F G J K G2 H locs cells slots ls hZ hl
  obtain ⟨hR, hf, hP, hD, hS, hc1, hc2⟩ := hZ
  have hcr : cells + 0 ≤ room_1.cells := Nat.le_trans (show cells + 0 ≤ 600000 by omega) (Nat.le_of_ble_eq_true rfl)
  have hsr : slots + 0 ≤ room_1.slots := Nat.le_trans (show slots + 0 ≤ 7302250 by omega) (Nat.le_of_ble_eq_true rfl)
  obtain ⟨v1, ev1⟩ : ∃ v : Int32, v = xs (i + 1) := ⟨_, rfl⟩
  obtain ⟨v2, ev2⟩ : ∃ v : Int32, v = xs (i + 2) := ⟨_, rfl⟩
  rw [List.append_assoc] at hP hD
  refine lv_aload_n hx hb dL_law_218 rfl (lv_at hl 2 rfl) ?_
  refine lv_aload_n hx hb dL_law_219 rfl (lv_at hl 3 rfl) ?_
  refine lv_iload_n hx hb dL_law_220 rfl (lv_at hl 0 rfl) ?_
  refine lv_iconst (v := 1) hx hb dL_law_221 (by decide) ?_
  refine lv_iadd hx hb dL_law_222 ?_
  rw [show nI i + 1 = nI (i + 1) from nI_add i 1]
  refine va_sld hx hb hX hbl hbA hS (vp_in_nI (show i + 1 < L by omega) (by omega)) dL_law_223 ?_
  rw [nI_clamp (show i + 1 < 2 ^ 31 by omega), ← ev1]
  refine lv_aload_n hx hb dL_law_224 rfl (lv_at hl 3 rfl) ?_
  refine lv_iload_n hx hb dL_law_225 rfl (lv_at hl 0 rfl) ?_
  refine lv_iconst (v := 2) hx hb dL_law_226 (by decide) ?_
  refine lv_iadd hx hb dL_law_227 ?_
  rw [show nI i + 2 = nI (i + 2) from nI_add i 2]
  refine va_sld hx hb hX hbl hbA hS (vp_in_nI (show i + 2 < L by omega) (by omega)) dL_law_228 ?_
  rw [nI_clamp (show i + 2 < 2 ^ 31 by omega), ← ev2]
  refine xj_wi (wf := xC_w cy a) hP hD (va_runV (rm := { frames := 6, cells := 0, slots := 0, locals := 143 }) (As := [.int v1, .int v2]) (rest := []) ⟨hx, hb, hml, hown, hts⟩ (c_X7_pair l D cy a v1 v2 I F G _ (xq_pair (L := G2) v1 v2 hR.1) (xj_A (xC_w cy a I F G))) (cwV 2 hts gL_law_X7_pair rfl rfl rfl (by decide +kernel) ⟨Nat.le_of_ble_eq_true rfl, Nat.le_of_ble_eq_true rfl⟩) (xw_preV hB (xj_Pl hP) (xj_self (xj_Dl hD)) (ci := 7) rfl xC_c0) rfl rfl hl.1 rfl (lv_room (Nat.le_of_ble_eq_true rfl)) dL_law_229 ⟨hcr, hsr⟩) hS (fun r I1 F1 G1 H locs h hP hD hS => ?_)
  rw [← List.append_assoc] at hP hD
  have hPm := xj_Psw hP
  have hDm := xj_Dsw hD
  refine lv_aload_n hx hb dL_law_232 rfl (lv_at hl 1 rfl) ?_
  refine lv_aload_n hx hb dL_law_233 rfl (lv_at hl 3 rfl) ?_
  refine lv_iload_n hx hb dL_law_234 rfl (lv_at hl 0 rfl) ?_
  refine lv_iconst (v := 1) hx hb dL_law_235 (by decide) ?_
  refine lv_iadd hx hb dL_law_236 ?_
  rw [show nI i + 1 = nI (i + 1) from nI_add i 1]
  refine va_sld hx hb hX hbl hbA hS (vp_in_nI (show i + 1 < L by omega) (by omega)) dL_law_237 ?_
  rw [nI_clamp (show i + 1 < 2 ^ 31 by omega), ← ev1]
  refine lv_aload_n hx hb dL_law_238 rfl (lv_at hl 3 rfl) ?_
  refine lv_iload_n hx hb dL_law_239 rfl (lv_at hl 0 rfl) ?_
  refine lv_iconst (v := 2) hx hb dL_law_240 (by decide) ?_
  refine lv_iadd hx hb dL_law_241 ?_
  rw [show nI i + 2 = nI (i + 2) from nI_add i 2]
  refine va_sld hx hb hX hbl hbA hS (vp_in_nI (show i + 2 < L by omega) (by omega)) dL_law_242 ?_
  rw [nI_clamp (show i + 2 < 2 ^ 31 by omega), ← ev2]
  refine xj_wi (wf := xM_w cy d) hPm hDm (va_runV (rm := { frames := 6, cells := 0, slots := 0, locals := 151 }) (As := [.int v1, .int v2]) (rest := [.int r]) ⟨hx, hb, hml, hown, hts⟩ (c_X8_pair l D cy d v1 v2 J K G2 _ h (xj_A (xM_w cy d J K G2))) (cwV 2 hts gL_law_X8_pair rfl rfl rfl (by decide +kernel) ⟨Nat.le_of_ble_eq_true rfl, Nat.le_of_ble_eq_true rfl⟩) (xw_preV hB (xj_Pl hPm) (xj_self (xj_Dl hDm)) (ci := 8) rfl xM_c0) rfl rfl hl.1 rfl (lv_room (Nat.le_of_ble_eq_true rfl)) dL_law_243 ⟨hcr, hsr⟩) hS (fun r2 J1 K1 L1 H locs h hP hD hS => ?_)
  obtain ⟨hrr, hE⟩ := h
  subst hrr
  refine lv_icmp_eq (tgt := 399) hx hb dL_law_246 (by decide) (fun _ => ?_) (fun z => absurd rfl z)
  exact k kp f b I1 F1 G1 J1 K1 L1 H locs cells slots ls ⟨hR.to hE.1 hE.2, hf, xj_Psw hP, xj_Dsw hD, hS, hc1, hc2⟩ hl
set_option maxHeartbeats 4000000 in
set_option maxRecDepth 100000 in
theorem xv_mark {p : Program} {l : Launch} {e : Env} {s : State} {m : MethodId} {below : List Frame} {meth : Method} {c : Code} {D : va_G} {cy : Nat → ClassId} {sb L : Nat} {xs : Nat → Int32} {a d : Nat → Nat} {i : Nat} (hL : L ≤ 1536) (hi : i + 3 ≤ L) (C0 : lw_At p s m meth c sb L xs) (hB : xw_B D cy s) (k : xv_at p l e s m below meth c D cy sb a d i 399) : xv_at p l e s m below meth c D cy sb a d i 251 := by
  obtain ⟨hx, hb, hr, hml, hown, hts0, hX, hbl, hlocks, hgv⟩ := C0
  have hts : ∀ w ∈ wsL_law, w.before #[Value.ref sb] s = true := fun w hw => hts0 w (xl_law w hw)
  have hown : s.vm.findClass RL = some m.cls := hown
  have hbA : ¬ (fun q : Nat => s.heap.size ≤ q) sb := Nat.not_le.mpr hbl
  intro kp f b I F G J K G2 H locs cells slots ls hZ hl
  obtain ⟨hR, hf, hP, hD, hS, hc1, hc2⟩ := hZ
  have hcr : cells + 0 ≤ room_1.cells := Nat.le_trans (show cells + 0 ≤ 600000 by omega) (Nat.le_of_ble_eq_true rfl)
  have hsr : slots + 0 ≤ room_1.slots := Nat.le_trans (show slots + 0 ≤ 7302250 by omega) (Nat.le_of_ble_eq_true rfl)
  obtain ⟨v1, ev1⟩ : ∃ v : Int32, v = xs (i + 1) := ⟨_, rfl⟩
  obtain ⟨v2, ev2⟩ : ∃ v : Int32, v = xs (i + 2) := ⟨_, rfl⟩
  rw [List.append_assoc] at hP hD
  refine lv_aload_n hx hb dL_law_251 rfl (lv_at hl 2 rfl) ?_
  refine lv_aload_n hx hb dL_law_252 rfl (lv_at hl 3 rfl) ?_
  refine lv_iload_n hx hb dL_law_253 rfl (lv_at hl 0 rfl) ?_
  refine lv_iconst (v := 1) hx hb dL_law_254 (by decide) ?_
  refine lv_iadd hx hb dL_law_255 ?_
  rw [show nI i + 1 = nI (i + 1) from nI_add i 1]
  refine va_sld hx hb hX hbl hbA hS (vp_in_nI (show i + 1 < L by omega) (by omega)) dL_law_256 ?_
  rw [nI_clamp (show i + 1 < 2 ^ 31 by omega), ← ev1]
  refine lv_aload_n hx hb dL_law_257 rfl (lv_at hl 3 rfl) ?_
  refine lv_iload_n hx hb dL_law_258 rfl (lv_at hl 0 rfl) ?_
  refine lv_iconst (v := 2) hx hb dL_law_259 (by decide) ?_
  refine lv_iadd hx hb dL_law_260 ?_
  rw [show nI i + 2 = nI (i + 2) from nI_add i 2]
  refine va_sld hx hb hX hbl hbA hS (vp_in_nI (show i + 2 < L by omega) (by omega)) dL_law_261 ?_
  rw [nI_clamp (show i + 2 < 2 ^ 31 by omega), ← ev2]
  refine xj_wi (wf := xC_w cy a) hP hD (va_runV (rm := { frames := 6, cells := 0, slots := 0, locals := 143 }) (As := [.int v1, .int v2]) (rest := []) ⟨hx, hb, hml, hown, hts⟩ (c_X7_mark l D cy a v1 v2 I F G _ (xq_mark (L := G2) v1 v2 hR.1) (xj_A (xC_w cy a I F G))) (cwV 2 hts gL_law_X7_mark rfl rfl rfl (by decide +kernel) ⟨Nat.le_of_ble_eq_true rfl, Nat.le_of_ble_eq_true rfl⟩) (xw_preV hB (xj_Pl hP) (xj_self (xj_Dl hD)) (ci := 7) rfl xC_c0) rfl rfl hl.1 rfl (lv_room (Nat.le_of_ble_eq_true rfl)) dL_law_262 ⟨hcr, hsr⟩) hS (fun r I1 F1 G1 H locs h hP hD hS => ?_)
  rw [← List.append_assoc] at hP hD
  have hPm := xj_Psw hP
  have hDm := xj_Dsw hD
  refine lv_aload_n hx hb dL_law_265 rfl (lv_at hl 1 rfl) ?_
  refine lv_aload_n hx hb dL_law_266 rfl (lv_at hl 3 rfl) ?_
  refine lv_iload_n hx hb dL_law_267 rfl (lv_at hl 0 rfl) ?_
  refine lv_iconst (v := 1) hx hb dL_law_268 (by decide) ?_
  refine lv_iadd hx hb dL_law_269 ?_
  rw [show nI i + 1 = nI (i + 1) from nI_add i 1]
  refine va_sld hx hb hX hbl hbA hS (vp_in_nI (show i + 1 < L by omega) (by omega)) dL_law_270 ?_
  rw [nI_clamp (show i + 1 < 2 ^ 31 by omega), ← ev1]
  refine lv_aload_n hx hb dL_law_271 rfl (lv_at hl 3 rfl) ?_
  refine lv_iload_n hx hb dL_law_272 rfl (lv_at hl 0 rfl) ?_
  refine lv_iconst (v := 2) hx hb dL_law_273 (by decide) ?_
  refine lv_iadd hx hb dL_law_274 ?_
  rw [show nI i + 2 = nI (i + 2) from nI_add i 2]
  refine va_sld hx hb hX hbl hbA hS (vp_in_nI (show i + 2 < L by omega) (by omega)) dL_law_275 ?_
  rw [nI_clamp (show i + 2 < 2 ^ 31 by omega), ← ev2]
  refine xj_wi (wf := xM_w cy d) hPm hDm (va_runV (rm := { frames := 6, cells := 0, slots := 0, locals := 151 }) (As := [.int v1, .int v2]) (rest := [.int r]) ⟨hx, hb, hml, hown, hts⟩ (c_X8_mark l D cy d v1 v2 J K G2 _ h (xj_A (xM_w cy d J K G2))) (cwV 2 hts gL_law_X8_mark rfl rfl rfl (by decide +kernel) ⟨Nat.le_of_ble_eq_true rfl, Nat.le_of_ble_eq_true rfl⟩) (xw_preV hB (xj_Pl hPm) (xj_self (xj_Dl hDm)) (ci := 8) rfl xM_c0) rfl rfl hl.1 rfl (lv_room (Nat.le_of_ble_eq_true rfl)) dL_law_276 ⟨hcr, hsr⟩) hS (fun r2 J1 K1 L1 H locs h hP hD hS => ?_)
  obtain ⟨hrr, hE⟩ := h
  subst hrr
  refine lv_icmp_eq (tgt := 399) hx hb dL_law_279 (by decide) (fun _ => ?_) (fun z => absurd rfl z)
  exact k kp f b I1 F1 G1 J1 K1 L1 H locs cells slots ls ⟨hR.to hE.1 hE.2, hf, xj_Psw hP, xj_Dsw hD, hS, hc1, hc2⟩ hl
set_option maxHeartbeats 4000000 in
set_option maxRecDepth 100000 in
theorem xv_total {p : Program} {l : Launch} {e : Env} {s : State} {m : MethodId} {below : List Frame} {meth : Method} {c : Code} {D : va_G} {cy : Nat → ClassId} {sb L : Nat} {xs : Nat → Int32} {a d : Nat → Nat} {i : Nat} (hL : L ≤ 1536) (hi : i + 3 ≤ L) (C0 : lw_At p s m meth c sb L xs) (hB : xw_B D cy s) (k : xv_at p l e s m below meth c D cy sb a d i 399) : xv_at p l e s m below meth c D cy sb a d i 284 := by
  obtain ⟨hx, hb, hr, hml, hown, hts0, hX, hbl, hlocks, hgv⟩ := C0
  have hts : ∀ w ∈ wsL_law, w.before #[Value.ref sb] s = true := fun w hw => hts0 w (xl_law w hw)
  have hown : s.vm.findClass RL = some m.cls := hown
  have hbA : ¬ (fun q : Nat => s.heap.size ≤ q) sb := Nat.not_le.mpr hbl
  intro kp f b I F G J K G2 H locs cells slots ls hZ hl
  obtain ⟨hR, hf, hP, hD, hS, hc1, hc2⟩ := hZ
  have hcr : cells + 0 ≤ room_1.cells := Nat.le_trans (show cells + 0 ≤ 600000 by omega) (Nat.le_of_ble_eq_true rfl)
  have hsr : slots + 0 ≤ room_1.slots := Nat.le_trans (show slots + 0 ≤ 7302250 by omega) (Nat.le_of_ble_eq_true rfl)
  obtain ⟨v1, ev1⟩ : ∃ v : Int32, v = xs (i + 1) := ⟨_, rfl⟩
  rw [List.append_assoc] at hP hD
  refine lv_aload_n hx hb dL_law_284 rfl (lv_at hl 2 rfl) ?_
  refine lv_aload_n hx hb dL_law_285 rfl (lv_at hl 3 rfl) ?_
  refine lv_iload_n hx hb dL_law_286 rfl (lv_at hl 0 rfl) ?_
  refine lv_iconst (v := 1) hx hb dL_law_287 (by decide) ?_
  refine lv_iadd hx hb dL_law_288 ?_
  rw [show nI i + 1 = nI (i + 1) from nI_add i 1]
  refine va_sld hx hb hX hbl hbA hS (vp_in_nI (show i + 1 < L by omega) (by omega)) dL_law_289 ?_
  rw [nI_clamp (show i + 1 < 2 ^ 31 by omega), ← ev1]
  refine xj_wi (wf := xC_w cy a) hP hD (va_runV (rm := { frames := 6, cells := 0, slots := 0, locals := 143 }) (As := [.int v1]) (rest := []) ⟨hx, hb, hml, hown, hts⟩ (c_X7_total l D cy a v1 I F G _ (xq_total (L := G2) v1 hR.1) (xj_A (xC_w cy a I F G))) (cwV 1 hts gL_law_X7_total rfl rfl rfl (by decide +kernel) ⟨Nat.le_of_ble_eq_true rfl, Nat.le_of_ble_eq_true rfl⟩) (xw_preV hB (xj_Pl hP) (xj_self (xj_Dl hD)) (ci := 7) rfl xC_c0) rfl rfl hl.1 rfl (lv_room (Nat.le_of_ble_eq_true rfl)) dL_law_290 ⟨hcr, hsr⟩) hS (fun r I1 F1 G1 H locs h hP hD hS => ?_)
  rw [← List.append_assoc] at hP hD
  have hPm := xj_Psw hP
  have hDm := xj_Dsw hD
  refine lv_aload_n hx hb dL_law_293 rfl (lv_at hl 1 rfl) ?_
  refine lv_aload_n hx hb dL_law_294 rfl (lv_at hl 3 rfl) ?_
  refine lv_iload_n hx hb dL_law_295 rfl (lv_at hl 0 rfl) ?_
  refine lv_iconst (v := 1) hx hb dL_law_296 (by decide) ?_
  refine lv_iadd hx hb dL_law_297 ?_
  rw [show nI i + 1 = nI (i + 1) from nI_add i 1]
  refine va_sld hx hb hX hbl hbA hS (vp_in_nI (show i + 1 < L by omega) (by omega)) dL_law_298 ?_
  rw [nI_clamp (show i + 1 < 2 ^ 31 by omega), ← ev1]
  refine xj_wi (wf := xM_w cy d) hPm hDm (va_runV (rm := { frames := 6, cells := 0, slots := 0, locals := 151 }) (As := [.int v1]) (rest := [.int r]) ⟨hx, hb, hml, hown, hts⟩ (c_X8_total l D cy d v1 J K G2 _ h (xj_A (xM_w cy d J K G2))) (cwV 1 hts gL_law_X8_total rfl rfl rfl (by decide +kernel) ⟨Nat.le_of_ble_eq_true rfl, Nat.le_of_ble_eq_true rfl⟩) (xw_preV hB (xj_Pl hPm) (xj_self (xj_Dl hDm)) (ci := 8) rfl xM_c0) rfl rfl hl.1 rfl (lv_room (Nat.le_of_ble_eq_true rfl)) dL_law_299 ⟨hcr, hsr⟩) hS (fun r2 J1 K1 L1 H locs h hP hD hS => ?_)
  obtain ⟨hrr, hE⟩ := h
  subst hrr
  refine lv_icmp_eq (tgt := 399) hx hb dL_law_302 (by decide) (fun _ => ?_) (fun z => absurd rfl z)
  exact k kp f b I1 F1 G1 J1 K1 L1 H locs cells slots ls ⟨hR.to hE.1 hE.2, hf, xj_Psw hP, xj_Dsw hD, hS, hc1, hc2⟩ hl
set_option maxHeartbeats 4000000 in
set_option maxRecDepth 100000 in
theorem xv_sign {p : Program} {l : Launch} {e : Env} {s : State} {m : MethodId} {below : List Frame} {meth : Method} {c : Code} {D : va_G} {cy : Nat → ClassId} {sb L : Nat} {xs : Nat → Int32} {a d : Nat → Nat} {i : Nat} (hL : L ≤ 1536) (hi : i + 3 ≤ L) (C0 : lw_At p s m meth c sb L xs) (hB : xw_B D cy s) (k : xv_at p l e s m below meth c D cy sb a d i 399) : xv_at p l e s m below meth c D cy sb a d i 307 := by
  obtain ⟨hx, hb, hr, hml, hown, hts0, hX, hbl, hlocks, hgv⟩ := C0
  have hts : ∀ w ∈ wsL_law, w.before #[Value.ref sb] s = true := fun w hw => hts0 w (xl_law w hw)
  have hown : s.vm.findClass RL = some m.cls := hown
  have hbA : ¬ (fun q : Nat => s.heap.size ≤ q) sb := Nat.not_le.mpr hbl
  intro kp f b I F G J K G2 H locs cells slots ls hZ hl
  obtain ⟨hR, hf, hP, hD, hS, hc1, hc2⟩ := hZ
  have hcr : cells + 0 ≤ room_1.cells := Nat.le_trans (show cells + 0 ≤ 600000 by omega) (Nat.le_of_ble_eq_true rfl)
  have hsr : slots + 0 ≤ room_1.slots := Nat.le_trans (show slots + 0 ≤ 7302250 by omega) (Nat.le_of_ble_eq_true rfl)
  obtain ⟨v1, ev1⟩ : ∃ v : Int32, v = xs (i + 1) := ⟨_, rfl⟩
  rw [List.append_assoc] at hP hD
  refine lv_aload_n hx hb dL_law_307 rfl (lv_at hl 2 rfl) ?_
  refine lv_aload_n hx hb dL_law_308 rfl (lv_at hl 3 rfl) ?_
  refine lv_iload_n hx hb dL_law_309 rfl (lv_at hl 0 rfl) ?_
  refine lv_iconst (v := 1) hx hb dL_law_310 (by decide) ?_
  refine lv_iadd hx hb dL_law_311 ?_
  rw [show nI i + 1 = nI (i + 1) from nI_add i 1]
  refine va_sld hx hb hX hbl hbA hS (vp_in_nI (show i + 1 < L by omega) (by omega)) dL_law_312 ?_
  rw [nI_clamp (show i + 1 < 2 ^ 31 by omega), ← ev1]
  refine xj_wi (wf := xC_w cy a) hP hD (va_runV (rm := { frames := 6, cells := 0, slots := 0, locals := 143 }) (As := [.int v1]) (rest := []) ⟨hx, hb, hml, hown, hts⟩ (c_X7_sign l D cy a v1 I F G _ (xq_sign (L := G2) v1 hR.1) (xj_A (xC_w cy a I F G))) (cwV 1 hts gL_law_X7_sign rfl rfl rfl (by decide +kernel) ⟨Nat.le_of_ble_eq_true rfl, Nat.le_of_ble_eq_true rfl⟩) (xw_preV hB (xj_Pl hP) (xj_self (xj_Dl hD)) (ci := 7) rfl xC_c0) rfl rfl hl.1 rfl (lv_room (Nat.le_of_ble_eq_true rfl)) dL_law_313 ⟨hcr, hsr⟩) hS (fun r I1 F1 G1 H locs h hP hD hS => ?_)
  rw [← List.append_assoc] at hP hD
  have hPm := xj_Psw hP
  have hDm := xj_Dsw hD
  refine lv_aload_n hx hb dL_law_316 rfl (lv_at hl 1 rfl) ?_
  refine lv_aload_n hx hb dL_law_317 rfl (lv_at hl 3 rfl) ?_
  refine lv_iload_n hx hb dL_law_318 rfl (lv_at hl 0 rfl) ?_
  refine lv_iconst (v := 1) hx hb dL_law_319 (by decide) ?_
  refine lv_iadd hx hb dL_law_320 ?_
  rw [show nI i + 1 = nI (i + 1) from nI_add i 1]
  refine va_sld hx hb hX hbl hbA hS (vp_in_nI (show i + 1 < L by omega) (by omega)) dL_law_321 ?_
  rw [nI_clamp (show i + 1 < 2 ^ 31 by omega), ← ev1]
  refine xj_wi (wf := xM_w cy d) hPm hDm (va_runV (rm := { frames := 6, cells := 0, slots := 0, locals := 151 }) (As := [.int v1]) (rest := [.int r]) ⟨hx, hb, hml, hown, hts⟩ (c_X8_sign l D cy d v1 J K G2 _ h (xj_A (xM_w cy d J K G2))) (cwV 1 hts gL_law_X8_sign rfl rfl rfl (by decide +kernel) ⟨Nat.le_of_ble_eq_true rfl, Nat.le_of_ble_eq_true rfl⟩) (xw_preV hB (xj_Pl hPm) (xj_self (xj_Dl hDm)) (ci := 8) rfl xM_c0) rfl rfl hl.1 rfl (lv_room (Nat.le_of_ble_eq_true rfl)) dL_law_322 ⟨hcr, hsr⟩) hS (fun r2 J1 K1 L1 H locs h hP hD hS => ?_)
  obtain ⟨hrr, hE⟩ := h
  subst hrr
  refine lv_icmp_eq (tgt := 399) hx hb dL_law_325 (by decide) (fun _ => ?_) (fun z => absurd rfl z)
  exact k kp f b I1 F1 G1 J1 K1 L1 H locs cells slots ls ⟨hR.to hE.1 hE.2, hf, xj_Psw hP, xj_Dsw hD, hS, hc1, hc2⟩ hl
set_option maxHeartbeats 4000000 in
set_option maxRecDepth 100000 in
theorem xv_told {p : Program} {l : Launch} {e : Env} {s : State} {m : MethodId} {below : List Frame} {meth : Method} {c : Code} {D : va_G} {cy : Nat → ClassId} {sb L : Nat} {xs : Nat → Int32} {a d : Nat → Nat} {i : Nat} (hL : L ≤ 1536) (hi : i + 3 ≤ L) (C0 : lw_At p s m meth c sb L xs) (hB : xw_B D cy s) (k : xv_at p l e s m below meth c D cy sb a d i 399) : xv_at p l e s m below meth c D cy sb a d i 376 := by
  obtain ⟨hx, hb, hr, hml, hown, hts0, hX, hbl, hlocks, hgv⟩ := C0
  have hts : ∀ w ∈ wsL_law, w.before #[Value.ref sb] s = true := fun w hw => hts0 w (xl_law w hw)
  have hown : s.vm.findClass RL = some m.cls := hown
  have hbA : ¬ (fun q : Nat => s.heap.size ≤ q) sb := Nat.not_le.mpr hbl
  intro kp f b I F G J K G2 H locs cells slots ls hZ hl
  obtain ⟨hR, hf, hP, hD, hS, hc1, hc2⟩ := hZ
  have hcr : cells + 0 ≤ room_1.cells := Nat.le_trans (show cells + 0 ≤ 600000 by omega) (Nat.le_of_ble_eq_true rfl)
  have hsr : slots + 0 ≤ room_1.slots := Nat.le_trans (show slots + 0 ≤ 7302250 by omega) (Nat.le_of_ble_eq_true rfl)
  obtain ⟨v1, ev1⟩ : ∃ v : Int32, v = xs (i + 1) := ⟨_, rfl⟩
  rw [List.append_assoc] at hP hD
  refine lv_aload_n hx hb dL_law_376 rfl (lv_at hl 2 rfl) ?_
  refine lv_aload_n hx hb dL_law_377 rfl (lv_at hl 3 rfl) ?_
  refine lv_iload_n hx hb dL_law_378 rfl (lv_at hl 0 rfl) ?_
  refine lv_iconst (v := 1) hx hb dL_law_379 (by decide) ?_
  refine lv_iadd hx hb dL_law_380 ?_
  rw [show nI i + 1 = nI (i + 1) from nI_add i 1]
  refine va_sld hx hb hX hbl hbA hS (vp_in_nI (show i + 1 < L by omega) (by omega)) dL_law_381 ?_
  rw [nI_clamp (show i + 1 < 2 ^ 31 by omega), ← ev1]
  refine xw_ri (va_runV (rm := { frames := 0, cells := 0, slots := 0, locals := 0 }) (As := [.int v1]) (rest := []) ⟨hx, hb, hml, hown, hts⟩ (c_X7_told l D cy a v1 I F G _ (xq_told (L := G2) v1 hR.1) (fun q : Nat => s.heap.size ≤ q)) (cwV 1 hts gL_law_X7_told rfl rfl rfl (by decide +kernel) ⟨Nat.le_of_ble_eq_true rfl, Nat.le_of_ble_eq_true rfl⟩) (xw_preV hB (xj_Pl hP) (xj_Dl hD) (ci := 7) rfl xC_c0) rfl rfl hl.1 rfl (lv_room (Nat.le_of_ble_eq_true rfl)) dL_law_382 ⟨hcr, hsr⟩) (fun r h => ?_)
  rw [← List.append_assoc] at hP hD
  have hPm := xj_Psw hP
  have hDm := xj_Dsw hD
  refine lv_aload_n hx hb dL_law_385 rfl (lv_at hl 1 rfl) ?_
  refine lv_aload_n hx hb dL_law_386 rfl (lv_at hl 3 rfl) ?_
  refine lv_iload_n hx hb dL_law_387 rfl (lv_at hl 0 rfl) ?_
  refine lv_iconst (v := 1) hx hb dL_law_388 (by decide) ?_
  refine lv_iadd hx hb dL_law_389 ?_
  rw [show nI i + 1 = nI (i + 1) from nI_add i 1]
  refine va_sld hx hb hX hbl hbA hS (vp_in_nI (show i + 1 < L by omega) (by omega)) dL_law_390 ?_
  rw [nI_clamp (show i + 1 < 2 ^ 31 by omega), ← ev1]
  refine xw_ri (va_runV (rm := { frames := 1, cells := 0, slots := 0, locals := 22 }) (As := [.int v1]) (rest := [.int r]) ⟨hx, hb, hml, hown, hts⟩ (c_X8_told l D cy d v1 J K G2 _ h (fun q : Nat => s.heap.size ≤ q)) (cwV 1 hts gL_law_X8_told rfl rfl rfl (by decide +kernel) ⟨Nat.le_of_ble_eq_true rfl, Nat.le_of_ble_eq_true rfl⟩) (xw_preV hB (xj_Pl hPm) (xj_Dl hDm) (ci := 8) rfl xM_c0) rfl rfl hl.1 rfl (lv_room (Nat.le_of_ble_eq_true rfl)) dL_law_391 ⟨hcr, hsr⟩) (fun r2 h => ?_)
  subst h
  refine lv_icmp_eq (tgt := 399) hx hb dL_law_394 (by decide) (fun _ => ?_) (fun z => absurd rfl z)
  exact k kp f b I F G J K G2 H locs cells slots ls ⟨hR, hf, hP, hD, hS, hc1, hc2⟩ hl
