set_option maxHeartbeats 4000000 in
set_option maxRecDepth 100000 in
theorem xv_imageX {p : Program} {l : Launch} {e : Env} {s : State} {m : MethodId} {below : List Frame} {meth : Method} {c : Code} {D : va_G} {cy : Nat → ClassId} {sb L : Nat} {xs : Nat → Int32} {a d : Nat → Nat} {i : Nat} (hL : L ≤ 1536) (hi : i + 3 ≤ L) (C0 : lw_At p s m meth c sb L xs) (hB : xw_B D cy s) (k : xv_at p l e s m below meth c D cy sb a d i 399) (hxx : ∀ w, w ≤ 1 → xs (i + 1) ≠ nI w) : xv_at p l e s m below meth c D cy sb a d i 330 := by
  obtain ⟨hx, hb, hr, hml, hown, hts0, hX, hbl, hlocks, hgv⟩ := C0
  have hts : ∀ w ∈ wsL_law, w.before #[Value.ref sb] s = true := fun w hw => hts0 w (xl_law w hw)
  have hown : s.vm.findClass RL = some m.cls := hown
  have hbA : ¬ (fun q : Nat => s.heap.size ≤ q) sb := Nat.not_le.mpr hbl
  intro kp f b I F G J K G2 H locs cells slots ls hZ hl
  obtain ⟨hR, hf, hP, hD, hS, hc1, hc2⟩ := hZ
  have hcr : cells + 0 ≤ room_1.cells := Nat.le_trans (show cells + 0 ≤ 600000 by omega) (Nat.le_of_ble_eq_true rfl)
  have hsr : slots + 0 ≤ room_1.slots := Nat.le_trans (show slots + 0 ≤ 7302250 by omega) (Nat.le_of_ble_eq_true rfl)
  obtain ⟨v1, ev1⟩ : ∃ v : Int32, v = xs (i + 1) := ⟨_, rfl⟩
  refine lv_aload_n hx hb dL_law_330 rfl (lv_at hl 2 rfl) ?_
  refine lv_aload_n hx hb dL_law_331 rfl (lv_at hl 3 rfl) ?_
  refine lv_iload_n hx hb dL_law_332 rfl (lv_at hl 0 rfl) ?_
  refine lv_iconst (v := 1) hx hb dL_law_333 (by decide) ?_
  refine lv_iadd hx hb dL_law_334 ?_
  rw [show nI i + 1 = nI (i + 1) from nI_add i 1]
  refine va_sld hx hb hX hbl hbA hS (vp_in_nI (show i + 1 < L by omega) (by omega)) dL_law_335 ?_
  rw [nI_clamp (show i + 1 < 2 ^ 31 by omega), ← ev1]
  rw [List.append_assoc] at hP hD
  have h := xq_imagex (x := v1) (J := J) (K := K) (L := G2) (post := fun r2 J1 K1 _ => r2 = -2 ∧ xr_A I F G kp J1 K1) (by rw [ev1]; exact hxx) ⟨rfl, hR⟩
  refine xw_ri (va_runV (rm := { frames := 0, cells := 0, slots := 0, locals := 0 }) (As := [.int v1]) (rest := []) ⟨hx, hb, hml, hown, hts⟩ (c_X7_imageX l D cy a v1 I F G (by rw [ev1]; exact hxx) (fun q : Nat => s.heap.size ≤ q)) (cwV 1 hts gL_law_X7_image rfl rfl rfl (by decide +kernel) ⟨Nat.le_of_ble_eq_true rfl, Nat.le_of_ble_eq_true rfl⟩) (xw_preV hB (xj_Pl hP) (xj_Dl hD) (ci := 7) rfl xC_c0) rfl rfl hl.1 rfl (lv_room (Nat.le_of_ble_eq_true rfl)) dL_law_336 ⟨hcr, hsr⟩) (fun r hrv => ?_)
  subst hrv
  rw [← List.append_assoc] at hP hD
  have hPm := xj_Psw hP
  have hDm := xj_Dsw hD
  refine lv_aload_n hx hb dL_law_339 rfl (lv_at hl 1 rfl) ?_
  refine lv_aload_n hx hb dL_law_340 rfl (lv_at hl 3 rfl) ?_
  refine lv_iload_n hx hb dL_law_341 rfl (lv_at hl 0 rfl) ?_
  refine lv_iconst (v := 1) hx hb dL_law_342 (by decide) ?_
  refine lv_iadd hx hb dL_law_343 ?_
  rw [show nI i + 1 = nI (i + 1) from nI_add i 1]
  refine va_sld hx hb hX hbl hbA hS (vp_in_nI (show i + 1 < L by omega) (by omega)) dL_law_344 ?_
  rw [nI_clamp (show i + 1 < 2 ^ 31 by omega), ← ev1]
  refine xj_wi (wf := xM_w cy d) hPm hDm (va_runV (rm := { frames := 1, cells := 0, slots := 0, locals := 22 }) (As := [.int v1]) (rest := [.int (-2)]) ⟨hx, hb, hml, hown, hts⟩ (c_X8_image l D cy d v1 J K G2 _ h (xj_A (xM_w cy d J K G2))) (cwV 1 hts gL_law_X8_image rfl rfl rfl (by decide +kernel) ⟨Nat.le_of_ble_eq_true rfl, Nat.le_of_ble_eq_true rfl⟩) (xw_preV hB (xj_Pl hPm) (xj_self (xj_Dl hDm)) (ci := 8) rfl xM_c0) rfl rfl hl.1 rfl (lv_room (Nat.le_of_ble_eq_true rfl)) dL_law_345 ⟨hcr, hsr⟩) hS (fun r2 J1 K1 L1 H locs h hP hD hS => ?_)
  obtain ⟨hrr, hE⟩ := h
  subst hrr
  refine lv_icmp_eq (tgt := 399) hx hb dL_law_348 (by decide) (fun _ => ?_) (fun z => absurd rfl z)
  exact k kp f b I F G J1 K1 L1 H locs cells slots ls ⟨hE, hf, xj_Psw hP, xj_Dsw hD, hS, hc1, hc2⟩ hl
set_option maxHeartbeats 4000000 in
set_option maxRecDepth 100000 in
theorem xv_imageN0 {p : Program} {l : Launch} {e : Env} {s : State} {m : MethodId} {below : List Frame} {meth : Method} {c : Code} {D : va_G} {cy : Nat → ClassId} {sb L : Nat} {xs : Nat → Int32} {a d : Nat → Nat} {i : Nat} (hL : L ≤ 1536) (hi : i + 3 ≤ L) (C0 : lw_At p s m meth c sb L xs) (hB : xw_B D cy s) (k : xv_at p l e s m below meth c D cy sb a d i 399) (hv : xs (i + 1) = nI 0) : ∀ (kp : Nat → Option (xw_I × xw_F)) (f : Nat → Option Nat) (b : Nat → Nat → Nat) (I : xw_I) (F : xw_F) (G : xw_G) (J : xw_I) (K : xw_F) (G2 : xw_G) (H : Heap) (locs : List Loc) (cells slots : Nat) (ls : Array Slot), kp 0 = none → xv_S D cy s a d kp f b I F G J K G2 H locs cells slots → lv_has ls 4 [(3, .int (nI i)), (2, .ref (d 0)), (1, .ref (a 0)), (0, .ref sb)] → W p l e room_1 s m #[Value.ref sb] below meth c H locs cells slots (lw_Z below #[Value.ref sb] s) (F0 m 330 ls []) := by
  obtain ⟨hx, hb, hr, hml, hown, hts0, hX, hbl, hlocks, hgv⟩ := C0
  have hts : ∀ w ∈ wsL_law, w.before #[Value.ref sb] s = true := fun w hw => hts0 w (xl_law w hw)
  have hown : s.vm.findClass RL = some m.cls := hown
  have hbA : ¬ (fun q : Nat => s.heap.size ≤ q) sb := Nat.not_le.mpr hbl
  intro kp f b I F G J K G2 H locs cells slots ls hkp hZ hl
  obtain ⟨hR, hf, hP, hD, hS, hc1, hc2⟩ := hZ
  have hcr : cells + 0 ≤ room_1.cells := Nat.le_trans (show cells + 0 ≤ 600000 by omega) (Nat.le_of_ble_eq_true rfl)
  have hsr : slots + 0 ≤ room_1.slots := Nat.le_trans (show slots + 0 ≤ 7302250 by omega) (Nat.le_of_ble_eq_true rfl)
  obtain ⟨v1, ev1⟩ : ∃ v : Int32, v = xs (i + 1) := ⟨_, rfl⟩
  rw [hv] at ev1
  have hfn : f 0 = none := by rw [hf 0 (by decide), hkp]; rfl
  have hP := xv_n0P hkp hP
  have hD := xv_n0D hkp hD
  refine lv_aload_n hx hb dL_law_330 rfl (lv_at hl 2 rfl) ?_
  refine lv_aload_n hx hb dL_law_331 rfl (lv_at hl 3 rfl) ?_
  refine lv_iload_n hx hb dL_law_332 rfl (lv_at hl 0 rfl) ?_
  refine lv_iconst (v := 1) hx hb dL_law_333 (by decide) ?_
  refine lv_iadd hx hb dL_law_334 ?_
  rw [show nI i + 1 = nI (i + 1) from nI_add i 1]
  refine va_sld hx hb hX hbl hbA hS (vp_in_nI (show i + 1 < L by omega) (by omega)) dL_law_335 ?_
  rw [nI_clamp (show i + 1 < 2 ^ 31 by omega), hv]
  have hz0 : xz (kp 0) = 1 := by rw [hkp]; rfl
  have hcr2 : cells + 10 ≤ room_1.cells := Nat.le_trans (show cells + 10 ≤ 600000 by omega) (Nat.le_of_ble_eq_true rfl)
  have hsr2 : slots + 58 ≤ room_1.slots := Nat.le_trans (show slots + 58 ≤ 7302250 by omega) (Nat.le_of_ble_eq_true rfl)
  have hF0 : ∀ q, va_A (xC_w cy a I F G ++ [xC_im cy a f]) H.size q → s.heap.size ≤ q := fun q hq => by
    rcases hq with hq | hq
    · exact xj_Fr hD q hq
    · exact Nat.le_trans hS.1 hq
  refine va_calli (va_runV (rm := { frames := 4, cells := 10, slots := 58, locals := 100 }) (As := [.int (nI 0)]) (rest := []) ⟨hx, hb, hml, hown, hts⟩ (c_X7_imageN l D cy a H.size (n := 0) (by decide) I F G f hfn) (cwV 1 hts gL_law_X7_image rfl rfl rfl (by decide +kernel) ⟨Nat.le_of_ble_eq_true rfl, Nat.le_of_ble_eq_true rfl⟩) (⟨xw_blindC _, va_recv (q0 := 0) hB.1 hP (ci := 7) rfl rfl, fun U hU hW => ⟨rfl, by rw [hU], by rw [hU]; exact xj_Pl hP, hB.warm hW, (xj_Dl hD).weaken (fun _ _ _ _ => trivial)⟩⟩) rfl rfl hl.1 rfl (lv_room (Nat.le_of_ble_eq_true rfl)) dL_law_336 ⟨hcr2, hsr2⟩) hS (fun q _ h => hF0 q h) hF0 (fun r u t H1 locs1 ht hvm hw hB1 hz1 hk1 hS1 => ?_)
  obtain ⟨u, i1, r1⟩ := u
  obtain ⟨hP1, hD1⟩ := hB1
  obtain ⟨hrv, hxi⟩ := hw
  subst hrv
  rw [ht] at hP1
  obtain ⟨hP, hD⟩ := xj_join hP hD (fun q h hlt => Or.elim h (fun z => z) (fun z => absurd z (Nat.not_le.mpr hlt))) hF0 hk1 hP1 hD1
  have h := xq_image (n := 0) (L := G2) (by decide) hR hxi
  have hPm := xj_Psw (xv_i0P (f := va_up f 0 (some (u 0))) (kp := kp) (b := b) (u := u) (i1 := i1) (r1 := r1) hP)
  have hDm := xj_Dsw (xv_i0D (f := va_up f 0 (some (u 0))) (kp := kp) (b := b) (u := u) (i1 := i1) (r1 := r1) hD)
  have hf : ∀ n, n < 2 → va_up f 0 (some (u 0)) n = (xw_up kp 0 (some (i1, r1)) n).map (fun _ => xw_up b 0 u n 0) := xv_hf (by decide) hf
  have hS := hS1
  have hcr : cells + 10 + 0 ≤ room_1.cells := hcr2
  have hsr : slots + 58 + 0 ≤ room_1.slots := hsr2
  generalize H1 = H at hPm hS ⊢
  generalize locs1 = locs at hS ⊢
  refine lv_aload_n hx hb dL_law_339 rfl (lv_at hl 1 rfl) ?_
  refine lv_aload_n hx hb dL_law_340 rfl (lv_at hl 3 rfl) ?_
  refine lv_iload_n hx hb dL_law_341 rfl (lv_at hl 0 rfl) ?_
  refine lv_iconst (v := 1) hx hb dL_law_342 (by decide) ?_
  refine lv_iadd hx hb dL_law_343 ?_
  rw [show nI i + 1 = nI (i + 1) from nI_add i 1]
  refine va_sld hx hb hX hbl hbA hS (vp_in_nI (show i + 1 < L by omega) (by omega)) dL_law_344 ?_
  rw [nI_clamp (show i + 1 < 2 ^ 31 by omega), hv]
  refine xj_wi (wf := xM_w cy d) hPm hDm (va_runV (rm := { frames := 1, cells := 0, slots := 0, locals := 22 }) (As := [.int (nI 0)]) (rest := [.int 1]) ⟨hx, hb, hml, hown, hts⟩ (c_X8_image l D cy d (nI 0) J K G2 _ h (xj_A (xM_w cy d J K G2))) (cwV 1 hts gL_law_X8_image rfl rfl rfl (by decide +kernel) ⟨Nat.le_of_ble_eq_true rfl, Nat.le_of_ble_eq_true rfl⟩) (xw_preV hB (xj_Pl hPm) (xj_self (xj_Dl hDm)) (ci := 8) rfl xM_c0) rfl rfl hl.1 rfl (lv_room (Nat.le_of_ble_eq_true rfl)) dL_law_345 ⟨hcr, hsr⟩) hS (fun r2 J1 K1 L1 H locs h hP hD hS => ?_)
  obtain ⟨hrr, hE⟩ := h
  subst hrr
  refine lv_icmp_eq (tgt := 399) hx hb dL_law_348 (by decide) (fun _ => ?_) (fun z => absurd rfl z)
  exact k (xw_up kp 0 (some (i1, r1))) (va_up f 0 (some (u 0))) (xw_up b 0 u) I F G J1 K1 L1 H locs (cells + 10) (slots + 58) ls ⟨hE, hf, xj_Psw hP, xj_Dsw hD, hS, by have := xv_z0 (kp := kp) (v := (i1, r1)) hkp; omega, by have := xv_z0 (kp := kp) (v := (i1, r1)) hkp; omega⟩ hl
set_option maxHeartbeats 4000000 in
set_option maxRecDepth 100000 in
theorem xv_imageS0 {p : Program} {l : Launch} {e : Env} {s : State} {m : MethodId} {below : List Frame} {meth : Method} {c : Code} {D : va_G} {cy : Nat → ClassId} {sb L : Nat} {xs : Nat → Int32} {a d : Nat → Nat} {i : Nat} (hL : L ≤ 1536) (hi : i + 3 ≤ L) (C0 : lw_At p s m meth c sb L xs) (hB : xw_B D cy s) (k : xv_at p l e s m below meth c D cy sb a d i 399) (hv : xs (i + 1) = nI 0) : ∀ (kp : Nat → Option (xw_I × xw_F)) (f : Nat → Option Nat) (b : Nat → Nat → Nat) (I : xw_I) (F : xw_F) (G : xw_G) (J : xw_I) (K : xw_F) (G2 : xw_G) (H : Heap) (locs : List Loc) (cells slots : Nat) (ls : Array Slot) (i0 : xw_I) (r0 : xw_F), kp 0 = some (i0, r0) → xv_S D cy s a d kp f b I F G J K G2 H locs cells slots → lv_has ls 4 [(3, .int (nI i)), (2, .ref (d 0)), (1, .ref (a 0)), (0, .ref sb)] → W p l e room_1 s m #[Value.ref sb] below meth c H locs cells slots (lw_Z below #[Value.ref sb] s) (F0 m 330 ls []) := by
  obtain ⟨hx, hb, hr, hml, hown, hts0, hX, hbl, hlocks, hgv⟩ := C0
  have hts : ∀ w ∈ wsL_law, w.before #[Value.ref sb] s = true := fun w hw => hts0 w (xl_law w hw)
  have hown : s.vm.findClass RL = some m.cls := hown
  have hbA : ¬ (fun q : Nat => s.heap.size ≤ q) sb := Nat.not_le.mpr hbl
  intro kp f b I F G J K G2 H locs cells slots ls i0 r0 hkp hZ hl
  obtain ⟨hR, hf, hP, hD, hS, hc1, hc2⟩ := hZ
  have hcr : cells + 0 ≤ room_1.cells := Nat.le_trans (show cells + 0 ≤ 600000 by omega) (Nat.le_of_ble_eq_true rfl)
  have hsr : slots + 0 ≤ room_1.slots := Nat.le_trans (show slots + 0 ≤ 7302250 by omega) (Nat.le_of_ble_eq_true rfl)
  have hfn : f 0 = some (b 0 0) := by rw [hf 0 (by decide), hkp]; rfl
  have hP := xv_s0P hkp hP
  have hD := xv_s0D hkp hD
  refine lv_aload_n hx hb dL_law_330 rfl (lv_at hl 2 rfl) ?_
  refine lv_aload_n hx hb dL_law_331 rfl (lv_at hl 3 rfl) ?_
  refine lv_iload_n hx hb dL_law_332 rfl (lv_at hl 0 rfl) ?_
  refine lv_iconst (v := 1) hx hb dL_law_333 (by decide) ?_
  refine lv_iadd hx hb dL_law_334 ?_
  rw [show nI i + 1 = nI (i + 1) from nI_add i 1]
  refine va_sld hx hb hX hbl hbA hS (vp_in_nI (show i + 1 < L by omega) (by omega)) dL_law_335 ?_
  rw [nI_clamp (show i + 1 < 2 ^ 31 by omega), hv]
  refine xj_wi (wf := fun i1 r1 _ => xC_w cy a I F G ++ (xC_im cy a f :: xK_w cy (b 0) i1 r1)) hP hD (va_runV (rm := { frames := 2, cells := 0, slots := 0, locals := 60 }) (As := [.int (nI 0)]) (rest := []) ⟨hx, hb, hml, hown, hts⟩ (c_X7_imageS l D cy a (b 0) (n := 0) (by decide) I F G f i0 r0 hfn (xj_A (xC_w cy a I F G ++ (xC_im cy a f :: xK_w cy (b 0) i0 r0)))) (cwV 1 hts gL_law_X7_image rfl rfl rfl (by decide +kernel) ⟨Nat.le_of_ble_eq_true rfl, Nat.le_of_ble_eq_true rfl⟩) (xw_preV (b := a 0) hB (xj_Pl hP) (xj_self (xj_Dl hD)) (ci := 7) (q0 := 0) rfl rfl) rfl rfl hl.1 rfl (lv_room (Nat.le_of_ble_eq_true rfl)) dL_law_336 ⟨hcr, hsr⟩) hS (fun r i1 r1 _ H locs h hP hD hS => ?_)
  obtain ⟨hrv, hxi⟩ := h
  subst hrv
  have h := xq_image (n := 0) (L := G2) (by decide) hR hxi
  have hPm := xj_Psw (xv_i0P (f := f) (kp := kp) (b := b) (u := b 0) (i1 := i1) (r1 := r1) hP)
  have hDm := xj_Dsw (xv_i0D (f := f) (kp := kp) (b := b) (u := b 0) (i1 := i1) (r1 := r1) hD)
  have hf : ∀ n, n < 2 → f n = (xw_up kp 0 (some (i1, r1)) n).map (fun _ => xw_up b 0 (b 0) n 0) := xv_hfS (by decide) hfn hf
  refine lv_aload_n hx hb dL_law_339 rfl (lv_at hl 1 rfl) ?_
  refine lv_aload_n hx hb dL_law_340 rfl (lv_at hl 3 rfl) ?_
  refine lv_iload_n hx hb dL_law_341 rfl (lv_at hl 0 rfl) ?_
  refine lv_iconst (v := 1) hx hb dL_law_342 (by decide) ?_
  refine lv_iadd hx hb dL_law_343 ?_
  rw [show nI i + 1 = nI (i + 1) from nI_add i 1]
  refine va_sld hx hb hX hbl hbA hS (vp_in_nI (show i + 1 < L by omega) (by omega)) dL_law_344 ?_
  rw [nI_clamp (show i + 1 < 2 ^ 31 by omega), hv]
  refine xj_wi (wf := xM_w cy d) hPm hDm (va_runV (rm := { frames := 1, cells := 0, slots := 0, locals := 22 }) (As := [.int (nI 0)]) (rest := [.int 1]) ⟨hx, hb, hml, hown, hts⟩ (c_X8_image l D cy d (nI 0) J K G2 _ h (xj_A (xM_w cy d J K G2))) (cwV 1 hts gL_law_X8_image rfl rfl rfl (by decide +kernel) ⟨Nat.le_of_ble_eq_true rfl, Nat.le_of_ble_eq_true rfl⟩) (xw_preV hB (xj_Pl hPm) (xj_self (xj_Dl hDm)) (ci := 8) rfl xM_c0) rfl rfl hl.1 rfl (lv_room (Nat.le_of_ble_eq_true rfl)) dL_law_345 ⟨hcr, hsr⟩) hS (fun r2 J1 K1 L1 H locs h hP hD hS => ?_)
  obtain ⟨hrr, hE⟩ := h
  subst hrr
  refine lv_icmp_eq (tgt := 399) hx hb dL_law_348 (by decide) (fun _ => ?_) (fun z => absurd rfl z)
  exact k (xw_up kp 0 (some (i1, r1))) f (xw_up b 0 (b 0)) I F G J1 K1 L1 H locs cells slots ls ⟨hE, hf, xj_Psw hP, xj_Dsw hD, hS, by have := xv_zS0 (kp := kp) (v := (i1, r1)); omega, by have := xv_zS0 (kp := kp) (v := (i1, r1)); omega⟩ hl
set_option maxHeartbeats 4000000 in
set_option maxRecDepth 100000 in
theorem xv_imageN1 {p : Program} {l : Launch} {e : Env} {s : State} {m : MethodId} {below : List Frame} {meth : Method} {c : Code} {D : va_G} {cy : Nat → ClassId} {sb L : Nat} {xs : Nat → Int32} {a d : Nat → Nat} {i : Nat} (hL : L ≤ 1536) (hi : i + 3 ≤ L) (C0 : lw_At p s m meth c sb L xs) (hB : xw_B D cy s) (k : xv_at p l e s m below meth c D cy sb a d i 399) (hv : xs (i + 1) = nI 1) : ∀ (kp : Nat → Option (xw_I × xw_F)) (f : Nat → Option Nat) (b : Nat → Nat → Nat) (I : xw_I) (F : xw_F) (G : xw_G) (J : xw_I) (K : xw_F) (G2 : xw_G) (H : Heap) (locs : List Loc) (cells slots : Nat) (ls : Array Slot), kp 1 = none → xv_S D cy s a d kp f b I F G J K G2 H locs cells slots → lv_has ls 4 [(3, .int (nI i)), (2, .ref (d 0)), (1, .ref (a 0)), (0, .ref sb)] → W p l e room_1 s m #[Value.ref sb] below meth c H locs cells slots (lw_Z below #[Value.ref sb] s) (F0 m 330 ls []) := by
  obtain ⟨hx, hb, hr, hml, hown, hts0, hX, hbl, hlocks, hgv⟩ := C0
  have hts : ∀ w ∈ wsL_law, w.before #[Value.ref sb] s = true := fun w hw => hts0 w (xl_law w hw)
  have hown : s.vm.findClass RL = some m.cls := hown
  have hbA : ¬ (fun q : Nat => s.heap.size ≤ q) sb := Nat.not_le.mpr hbl
  intro kp f b I F G J K G2 H locs cells slots ls hkp hZ hl
  obtain ⟨hR, hf, hP, hD, hS, hc1, hc2⟩ := hZ
  have hcr : cells + 0 ≤ room_1.cells := Nat.le_trans (show cells + 0 ≤ 600000 by omega) (Nat.le_of_ble_eq_true rfl)
  have hsr : slots + 0 ≤ room_1.slots := Nat.le_trans (show slots + 0 ≤ 7302250 by omega) (Nat.le_of_ble_eq_true rfl)
  obtain ⟨v1, ev1⟩ : ∃ v : Int32, v = xs (i + 1) := ⟨_, rfl⟩
  rw [hv] at ev1
  have hfn : f 1 = none := by rw [hf 1 (by decide), hkp]; rfl
  have hP := xv_n1P hkp hP
  have hD := xv_n1D hkp hD
  refine lv_aload_n hx hb dL_law_330 rfl (lv_at hl 2 rfl) ?_
  refine lv_aload_n hx hb dL_law_331 rfl (lv_at hl 3 rfl) ?_
  refine lv_iload_n hx hb dL_law_332 rfl (lv_at hl 0 rfl) ?_
  refine lv_iconst (v := 1) hx hb dL_law_333 (by decide) ?_
  refine lv_iadd hx hb dL_law_334 ?_
  rw [show nI i + 1 = nI (i + 1) from nI_add i 1]
  refine va_sld hx hb hX hbl hbA hS (vp_in_nI (show i + 1 < L by omega) (by omega)) dL_law_335 ?_
  rw [nI_clamp (show i + 1 < 2 ^ 31 by omega), hv]
  have hz0 : xz (kp 1) = 1 := by rw [hkp]; rfl
  have hcr2 : cells + 10 ≤ room_1.cells := Nat.le_trans (show cells + 10 ≤ 600000 by omega) (Nat.le_of_ble_eq_true rfl)
  have hsr2 : slots + 58 ≤ room_1.slots := Nat.le_trans (show slots + 58 ≤ 7302250 by omega) (Nat.le_of_ble_eq_true rfl)
  have hF0 : ∀ q, va_A (xC_w cy a I F G ++ [xC_im cy a f]) H.size q → s.heap.size ≤ q := fun q hq => by
    rcases hq with hq | hq
    · exact xj_Fr hD q hq
    · exact Nat.le_trans hS.1 hq
  refine va_calli (va_runV (rm := { frames := 4, cells := 10, slots := 58, locals := 100 }) (As := [.int (nI 1)]) (rest := []) ⟨hx, hb, hml, hown, hts⟩ (c_X7_imageN l D cy a H.size (n := 1) (by decide) I F G f hfn) (cwV 1 hts gL_law_X7_image rfl rfl rfl (by decide +kernel) ⟨Nat.le_of_ble_eq_true rfl, Nat.le_of_ble_eq_true rfl⟩) (⟨xw_blindC _, va_recv (q0 := 0) hB.1 hP (ci := 7) rfl rfl, fun U hU hW => ⟨rfl, by rw [hU], by rw [hU]; exact xj_Pl hP, hB.warm hW, (xj_Dl hD).weaken (fun _ _ _ _ => trivial)⟩⟩) rfl rfl hl.1 rfl (lv_room (Nat.le_of_ble_eq_true rfl)) dL_law_336 ⟨hcr2, hsr2⟩) hS (fun q _ h => hF0 q h) hF0 (fun r u t H1 locs1 ht hvm hw hB1 hz1 hk1 hS1 => ?_)
  obtain ⟨u, i1, r1⟩ := u
  obtain ⟨hP1, hD1⟩ := hB1
  obtain ⟨hrv, hxi⟩ := hw
  subst hrv
  rw [ht] at hP1
  obtain ⟨hP, hD⟩ := xj_join hP hD (fun q h hlt => Or.elim h (fun z => z) (fun z => absurd z (Nat.not_le.mpr hlt))) hF0 hk1 hP1 hD1
  have h := xq_image (n := 1) (L := G2) (by decide) hR hxi
  have hPm := xj_Psw (xv_i1P (f := va_up f 1 (some (u 0))) (kp := kp) (b := b) (u := u) (i1 := i1) (r1 := r1) hP)
  have hDm := xj_Dsw (xv_i1D (f := va_up f 1 (some (u 0))) (kp := kp) (b := b) (u := u) (i1 := i1) (r1 := r1) hD)
  have hf : ∀ n, n < 2 → va_up f 1 (some (u 0)) n = (xw_up kp 1 (some (i1, r1)) n).map (fun _ => xw_up b 1 u n 0) := xv_hf (by decide) hf
  have hS := hS1
  have hcr : cells + 10 + 0 ≤ room_1.cells := hcr2
  have hsr : slots + 58 + 0 ≤ room_1.slots := hsr2
  generalize H1 = H at hPm hS ⊢
  generalize locs1 = locs at hS ⊢
  refine lv_aload_n hx hb dL_law_339 rfl (lv_at hl 1 rfl) ?_
  refine lv_aload_n hx hb dL_law_340 rfl (lv_at hl 3 rfl) ?_
  refine lv_iload_n hx hb dL_law_341 rfl (lv_at hl 0 rfl) ?_
  refine lv_iconst (v := 1) hx hb dL_law_342 (by decide) ?_
  refine lv_iadd hx hb dL_law_343 ?_
  rw [show nI i + 1 = nI (i + 1) from nI_add i 1]
  refine va_sld hx hb hX hbl hbA hS (vp_in_nI (show i + 1 < L by omega) (by omega)) dL_law_344 ?_
  rw [nI_clamp (show i + 1 < 2 ^ 31 by omega), hv]
  refine xj_wi (wf := xM_w cy d) hPm hDm (va_runV (rm := { frames := 1, cells := 0, slots := 0, locals := 22 }) (As := [.int (nI 1)]) (rest := [.int 1]) ⟨hx, hb, hml, hown, hts⟩ (c_X8_image l D cy d (nI 1) J K G2 _ h (xj_A (xM_w cy d J K G2))) (cwV 1 hts gL_law_X8_image rfl rfl rfl (by decide +kernel) ⟨Nat.le_of_ble_eq_true rfl, Nat.le_of_ble_eq_true rfl⟩) (xw_preV hB (xj_Pl hPm) (xj_self (xj_Dl hDm)) (ci := 8) rfl xM_c0) rfl rfl hl.1 rfl (lv_room (Nat.le_of_ble_eq_true rfl)) dL_law_345 ⟨hcr, hsr⟩) hS (fun r2 J1 K1 L1 H locs h hP hD hS => ?_)
  obtain ⟨hrr, hE⟩ := h
  subst hrr
  refine lv_icmp_eq (tgt := 399) hx hb dL_law_348 (by decide) (fun _ => ?_) (fun z => absurd rfl z)
  exact k (xw_up kp 1 (some (i1, r1))) (va_up f 1 (some (u 0))) (xw_up b 1 u) I F G J1 K1 L1 H locs (cells + 10) (slots + 58) ls ⟨hE, hf, xj_Psw hP, xj_Dsw hD, hS, by have := xv_z1 (kp := kp) (v := (i1, r1)) hkp; omega, by have := xv_z1 (kp := kp) (v := (i1, r1)) hkp; omega⟩ hl
set_option maxHeartbeats 4000000 in
set_option maxRecDepth 100000 in
theorem xv_imageS1 {p : Program} {l : Launch} {e : Env} {s : State} {m : MethodId} {below : List Frame} {meth : Method} {c : Code} {D : va_G} {cy : Nat → ClassId} {sb L : Nat} {xs : Nat → Int32} {a d : Nat → Nat} {i : Nat} (hL : L ≤ 1536) (hi : i + 3 ≤ L) (C0 : lw_At p s m meth c sb L xs) (hB : xw_B D cy s) (k : xv_at p l e s m below meth c D cy sb a d i 399) (hv : xs (i + 1) = nI 1) : ∀ (kp : Nat → Option (xw_I × xw_F)) (f : Nat → Option Nat) (b : Nat → Nat → Nat) (I : xw_I) (F : xw_F) (G : xw_G) (J : xw_I) (K : xw_F) (G2 : xw_G) (H : Heap) (locs : List Loc) (cells slots : Nat) (ls : Array Slot) (i0 : xw_I) (r0 : xw_F), kp 1 = some (i0, r0) → xv_S D cy s a d kp f b I F G J K G2 H locs cells slots → lv_has ls 4 [(3, .int (nI i)), (2, .ref (d 0)), (1, .ref (a 0)), (0, .ref sb)] → W p l e room_1 s m #[Value.ref sb] below meth c H locs cells slots (lw_Z below #[Value.ref sb] s) (F0 m 330 ls []) := by
  obtain ⟨hx, hb, hr, hml, hown, hts0, hX, hbl, hlocks, hgv⟩ := C0
  have hts : ∀ w ∈ wsL_law, w.before #[Value.ref sb] s = true := fun w hw => hts0 w (xl_law w hw)
  have hown : s.vm.findClass RL = some m.cls := hown
  have hbA : ¬ (fun q : Nat => s.heap.size ≤ q) sb := Nat.not_le.mpr hbl
  intro kp f b I F G J K G2 H locs cells slots ls i0 r0 hkp hZ hl
  obtain ⟨hR, hf, hP, hD, hS, hc1, hc2⟩ := hZ
  have hcr : cells + 0 ≤ room_1.cells := Nat.le_trans (show cells + 0 ≤ 600000 by omega) (Nat.le_of_ble_eq_true rfl)
  have hsr : slots + 0 ≤ room_1.slots := Nat.le_trans (show slots + 0 ≤ 7302250 by omega) (Nat.le_of_ble_eq_true rfl)
  have hfn : f 1 = some (b 1 0) := by rw [hf 1 (by decide), hkp]; rfl
  have hP := xv_s1P hkp hP
  have hD := xv_s1D hkp hD
  refine lv_aload_n hx hb dL_law_330 rfl (lv_at hl 2 rfl) ?_
  refine lv_aload_n hx hb dL_law_331 rfl (lv_at hl 3 rfl) ?_
  refine lv_iload_n hx hb dL_law_332 rfl (lv_at hl 0 rfl) ?_
  refine lv_iconst (v := 1) hx hb dL_law_333 (by decide) ?_
  refine lv_iadd hx hb dL_law_334 ?_
  rw [show nI i + 1 = nI (i + 1) from nI_add i 1]
  refine va_sld hx hb hX hbl hbA hS (vp_in_nI (show i + 1 < L by omega) (by omega)) dL_law_335 ?_
  rw [nI_clamp (show i + 1 < 2 ^ 31 by omega), hv]
  refine xj_wi (wf := fun i1 r1 _ => xC_w cy a I F G ++ (xC_im cy a f :: xK_w cy (b 1) i1 r1)) hP hD (va_runV (rm := { frames := 2, cells := 0, slots := 0, locals := 60 }) (As := [.int (nI 1)]) (rest := []) ⟨hx, hb, hml, hown, hts⟩ (c_X7_imageS l D cy a (b 1) (n := 1) (by decide) I F G f i0 r0 hfn (xj_A (xC_w cy a I F G ++ (xC_im cy a f :: xK_w cy (b 1) i0 r0)))) (cwV 1 hts gL_law_X7_image rfl rfl rfl (by decide +kernel) ⟨Nat.le_of_ble_eq_true rfl, Nat.le_of_ble_eq_true rfl⟩) (xw_preV (b := a 0) hB (xj_Pl hP) (xj_self (xj_Dl hD)) (ci := 7) (q0 := 0) rfl rfl) rfl rfl hl.1 rfl (lv_room (Nat.le_of_ble_eq_true rfl)) dL_law_336 ⟨hcr, hsr⟩) hS (fun r i1 r1 _ H locs h hP hD hS => ?_)
  obtain ⟨hrv, hxi⟩ := h
  subst hrv
  have h := xq_image (n := 1) (L := G2) (by decide) hR hxi
  have hPm := xj_Psw (xv_i1P (f := f) (kp := kp) (b := b) (u := b 1) (i1 := i1) (r1 := r1) hP)
  have hDm := xj_Dsw (xv_i1D (f := f) (kp := kp) (b := b) (u := b 1) (i1 := i1) (r1 := r1) hD)
  have hf : ∀ n, n < 2 → f n = (xw_up kp 1 (some (i1, r1)) n).map (fun _ => xw_up b 1 (b 1) n 0) := xv_hfS (by decide) hfn hf
  refine lv_aload_n hx hb dL_law_339 rfl (lv_at hl 1 rfl) ?_
  refine lv_aload_n hx hb dL_law_340 rfl (lv_at hl 3 rfl) ?_
  refine lv_iload_n hx hb dL_law_341 rfl (lv_at hl 0 rfl) ?_
  refine lv_iconst (v := 1) hx hb dL_law_342 (by decide) ?_
  refine lv_iadd hx hb dL_law_343 ?_
  rw [show nI i + 1 = nI (i + 1) from nI_add i 1]
  refine va_sld hx hb hX hbl hbA hS (vp_in_nI (show i + 1 < L by omega) (by omega)) dL_law_344 ?_
  rw [nI_clamp (show i + 1 < 2 ^ 31 by omega), hv]
  refine xj_wi (wf := xM_w cy d) hPm hDm (va_runV (rm := { frames := 1, cells := 0, slots := 0, locals := 22 }) (As := [.int (nI 1)]) (rest := [.int 1]) ⟨hx, hb, hml, hown, hts⟩ (c_X8_image l D cy d (nI 1) J K G2 _ h (xj_A (xM_w cy d J K G2))) (cwV 1 hts gL_law_X8_image rfl rfl rfl (by decide +kernel) ⟨Nat.le_of_ble_eq_true rfl, Nat.le_of_ble_eq_true rfl⟩) (xw_preV hB (xj_Pl hPm) (xj_self (xj_Dl hDm)) (ci := 8) rfl xM_c0) rfl rfl hl.1 rfl (lv_room (Nat.le_of_ble_eq_true rfl)) dL_law_345 ⟨hcr, hsr⟩) hS (fun r2 J1 K1 L1 H locs h hP hD hS => ?_)
  obtain ⟨hrr, hE⟩ := h
  subst hrr
  refine lv_icmp_eq (tgt := 399) hx hb dL_law_348 (by decide) (fun _ => ?_) (fun z => absurd rfl z)
  exact k (xw_up kp 1 (some (i1, r1))) f (xw_up b 1 (b 1)) I F G J1 K1 L1 H locs cells slots ls ⟨hE, hf, xj_Psw hP, xj_Dsw hD, hS, by have := xv_zS1 (kp := kp) (v := (i1, r1)); omega, by have := xv_zS1 (kp := kp) (v := (i1, r1)); omega⟩ hl
theorem xv_image {p : Program} {l : Launch} {e : Env} {s : State} {m : MethodId} {below : List Frame} {meth : Method} {c : Code} {D : va_G} {cy : Nat → ClassId} {sb L : Nat} {xs : Nat → Int32} {a d : Nat → Nat} {i : Nat} (hL : L ≤ 1536) (hi : i + 3 ≤ L) (C0 : lw_At p s m meth c sb L xs) (hB : xw_B D cy s) (k : xv_at p l e s m below meth c D cy sb a d i 399) : xv_at p l e s m below meth c D cy sb a d i 330 := by
  by_cases h0 : xs (i + 1) = nI 0
  · intro kp f b I F G J K G2 H locs cells slots ls hZ hl
    cases hk : kp 0 with
    | none => exact xv_imageN0 hL hi C0 hB k h0 kp f b I F G J K G2 H locs cells slots ls hk hZ hl
    | some u => exact xv_imageS0 hL hi C0 hB k h0 kp f b I F G J K G2 H locs cells slots ls u.1 u.2 hk hZ hl
  by_cases h1 : xs (i + 1) = nI 1
  · intro kp f b I F G J K G2 H locs cells slots ls hZ hl
    cases hk : kp 1 with
    | none => exact xv_imageN1 hL hi C0 hB k h1 kp f b I F G J K G2 H locs cells slots ls hk hZ hl
    | some u => exact xv_imageS1 hL hi C0 hB k h1 kp f b I F G J K G2 H locs cells slots ls u.1 u.2 hk hZ hl
  · exact xv_imageX hL hi C0 hB k (fun w hw => by
      obtain rfl | rfl : w = 0 ∨ w = 1 := by omega
      · exact h0
      · exact h1)
