/-! ===== from the entry ===== -/
theorem xv_arr {args : Array Value} {s : State} {ty : FieldType} (h : (Cond.arrayClass ty).before args s = true) : ∃ cA : ClassId, ArrOfT s cA ty ∧ s.vm.findClass ("[" ++ ty.toString) = some cA := by
  obtain ⟨cA, kA, comp, h1, h2, h3⟩ := Cond.arrayClass_spec h
  exact ⟨cA, fun n z => ⟨fun k h => (by cases h), kA, h2, comp, h3⟩, h1⟩
set_option maxHeartbeats 4000000 in
set_option maxRecDepth 100000 in
theorem xv_B {args : Array Value} {s : State} (hts0 : ∀ w ∈ lw_tbl, w.before args s = true) : ∃ (D : va_G) (cy : Nat → ClassId), xw_B D cy s ∧ va_AO "TagCarrier$Sentences" s := by
  obtain ⟨c0, i0, h0⟩ := u_known (C := RX0) (T := TX0) (N := 4) (n := 4) hts0 xl_wsX00 (hts0 _ (List.mem_of_getElem? (i := 239) (by decide +kernel)))
  obtain ⟨c1, i1, h1⟩ := u_known (C := RX1) (T := TX1) (N := 3) (n := 3) hts0 xl_wsX10 (hts0 _ (List.mem_of_getElem? (i := 66) (by decide +kernel)))
  obtain ⟨c2, i2, h2⟩ := u_known (C := RX2) (T := TX2) (N := 8) (n := 8) hts0 xl_wsX20 (hts0 _ (List.mem_of_getElem? (i := 201) (by decide +kernel)))
  obtain ⟨c3, i3, h3⟩ := u_known (C := RX3) (T := TX3) (N := 3) (n := 3) hts0 xl_wsX30 (hts0 _ (List.mem_of_getElem? (i := 150) (by decide +kernel)))
  obtain ⟨c4, i4, h4⟩ := u_known (C := RX4) (T := TX4) (N := 12) (n := 12) hts0 xl_wsX40 (hts0 _ (List.mem_of_getElem? (i := 72) (by decide +kernel)))
  obtain ⟨c5, i5, h5⟩ := u_known (C := RX5) (T := TX5) (N := 4) (n := 4) hts0 xl_wsX50 (hts0 _ (List.mem_of_getElem? (i := 175) (by decide +kernel)))
  obtain ⟨c6, i6, h6⟩ := u_known (C := RX6) (T := TX6) (N := 3) (n := 3) hts0 xl_wsX60 (hts0 _ (List.mem_of_getElem? (i := 261) (by decide +kernel)))
  obtain ⟨c7, i7, h7⟩ := u_known (C := RX7) (T := TX7) (N := 8) (n := 8) hts0 xl_wsX70 (hts0 _ (List.mem_of_getElem? (i := 58) (by decide +kernel)))
  obtain ⟨c8, i8, h8⟩ := u_known (C := RX8) (T := TX8) (N := 22) (n := 22) hts0 xl_wsX80 (hts0 _ (List.mem_of_getElem? (i := 567) (by decide +kernel)))
  obtain ⟨y0, g0, e0⟩ := xv_arr (ty := .int) (hts0 _ (List.mem_of_getElem? (i := 136) (by decide +kernel)))
  obtain ⟨y1, g1, e1⟩ := xv_arr (ty := .long) (hts0 _ (List.mem_of_getElem? (i := 237) (by decide +kernel)))
  obtain ⟨y2, g2, e2⟩ := xv_arr (ty := .boolean) (hts0 _ (List.mem_of_getElem? (i := 639) (by decide +kernel)))
  have hO : va_AO "TagCarrier$Sentences" s := va_AO.of (A := args) (hts0 _ (List.mem_of_getElem? (i := 173) (by decide +kernel)))
  obtain ⟨comp, y3, k3, f1, f2, f3, f4, f5⟩ := Cond.arrayOver_spec hO
  refine ⟨(fun k => if k = 0 then c0 else if k = 1 then c1 else if k = 2 then c2 else if k = 3 then c3 else if k = 4 then c4 else if k = 5 then c5 else if k = 6 then c6 else if k = 7 then c7 else c8, fun k => if k = 0 then i0 else if k = 1 then i1 else if k = 2 then i2 else if k = 3 then i3 else if k = 4 then i4 else if k = 5 then i5 else if k = 6 then i6 else if k = 7 then i7 else i8), fun k => if k = 0 then y0 else if k = 1 then y1 else if k = 2 then y2 else y3, ⟨⟨fun k q hq => ?_, fun k q hq => ?_⟩, fun k q hq => ?_⟩, hO⟩
  · match k, hq with
    | 0, hq => cases hq; exact h0
    | 1, hq => cases hq; exact h1
    | 2, hq => cases hq; exact h2
    | 3, hq => cases hq; exact h3
    | 4, hq => cases hq; exact h4
    | 5, hq => cases hq; exact h5
    | 6, hq => cases hq; exact h6
    | 7, hq => cases hq; exact h7
    | 8, hq => cases hq; exact h8
    | k + 9, hq => simp [vwCl] at hq
  · match k, hq with
    | 0, hq => cases hq; exact ⟨g0, e0⟩
    | 1, hq => cases hq; exact ⟨g1, e1⟩
    | 2, hq => cases hq; exact ⟨g2, e2⟩
    | 3, hq => cases hq; exact ⟨fun N z => ⟨fun k h => (by cases h), k3, f3, comp, f4⟩, k3, comp, f3, f4, f1, f5⟩
    | k + 4, hq => simp [xw_ty] at hq
  · match k, hq with
    | 0, hq => cases hq; exact va_any rfl (hts0 _ (List.mem_of_getElem? (i := 67) (by decide +kernel)))
    | 1, hq => cases hq; exact va_any rfl (hts0 _ (List.mem_of_getElem? (i := 73) (by decide +kernel)))
    | 2, hq => cases hq; exact va_any rfl (hts0 _ (List.mem_of_getElem? (i := 151) (by decide +kernel)))
    | 3, hq => cases hq; exact va_any rfl (hts0 _ (List.mem_of_getElem? (i := 156) (by decide +kernel)))
    | 4, hq => cases hq; exact va_any rfl (hts0 _ (List.mem_of_getElem? (i := 176) (by decide +kernel)))
    | 5, hq => cases hq; exact va_any rfl (hts0 _ (List.mem_of_getElem? (i := 202) (by decide +kernel)))
    | 6, hq => cases hq; exact va_any rfl (hts0 _ (List.mem_of_getElem? (i := 240) (by decide +kernel)))
    | 7, hq => cases hq; exact va_any rfl (hts0 _ (List.mem_of_getElem? (i := 262) (by decide +kernel)))
    | 8, hq => cases hq; exact va_any rfl (hts0 _ (List.mem_of_getElem? (i := 339) (by decide +kernel)))
    | 9, hq => cases hq; exact va_any rfl (hts0 _ (List.mem_of_getElem? (i := 383) (by decide +kernel)))
    | 10, hq => cases hq; exact va_any rfl (hts0 _ (List.mem_of_getElem? (i := 399) (by decide +kernel)))
    | 11, hq => cases hq; exact va_any rfl (hts0 _ (List.mem_of_getElem? (i := 408) (by decide +kernel)))
    | 12, hq => cases hq; exact va_any rfl (hts0 _ (List.mem_of_getElem? (i := 473) (by decide +kernel)))
    | k + 13, hq => simp [xw_nest] at hq
set_option maxHeartbeats 4000000 in
set_option maxRecDepth 100000 in
theorem whole_start {p : Program} {e : Env} {s : State} {m : MethodId} {below : List Frame} {meth : Method} {c : Code} (l : Launch) (hflags : l.flags = flags0) {b L : Nat} {xs : Nat → Int32} (hL : L ≤ 1536) (C0 : lw_At p s m meth c b L xs) : W p l e room_1 s m #[Value.ref b] below meth c s.heap [] 0 0 (lw_Z below #[Value.ref b] s) (entryFrame m ([Value.ref b] : List Value).toArray 4) := by
  obtain ⟨hx, hb, hr, hml, hown, hts0, hX, hbl, hlocks, hgv⟩ := id C0
  have hts : ∀ w ∈ wsL_law, w.before #[Value.ref b] s = true := fun w hw => hts0 w (xl_law w hw)
  have hown : s.vm.findClass RL = some m.cls := hown
  obtain ⟨D, cy, hB, hO⟩ := xv_B hts0
  have hA : ∀ q : Nat, s.heap.size ≤ q → (fun q : Nat => s.heap.size ≤ q) q := fun _ h => h
  have hS : va_S (fun q : Nat => s.heap.size ≤ q) s.heap s.heap [] := va_S.rf
  have hP : va_P D vwCl [] s.heap := xw_P0
  have hD : va_D (fun q : Nat => s.heap.size ≤ q) [] := xw_D0
  have hl := lv_entry ([.ref b]) (n := 4) (Nat.le_of_ble_eq_true rfl)
  rw [lg_entry_eq]
  generalize (lg_sl ([.ref b]) ++ List.replicate (4 - (lg_sl ([.ref b])).length) Slot.unset).toArray = ls at hl ⊢
  have hl : lv_has ls 4 [(0, .ref b)] := hl
  refine va_new (ci := 7) (fs := [.null, .null, .null, .null, .null, .null, .null, .int 0]) (C := RX7) (T := TX7) (N := 8) hx hb hts0 xl_wsX70 tyX7 tyX7_ok hown (hts0 _ (List.mem_of_getElem? (i := 57) (by decide +kernel))) (hts0 _ (List.mem_of_getElem? (i := 58) (by decide +kernel))) (hts0 _ (List.mem_of_getElem? (i := 46) (by decide +kernel))) hB.1 hP hD hS hA rfl (by decide +kernel) (Nat.le_of_ble_eq_true rfl) (Nat.le_of_ble_eq_true rfl) dL_law_0 (fun q0 H hP hD hS => ?_)
  have hP : va_P D vwCl [(q0, .inr (7, [.null, .null, .null, .null, .null, .null, .null, .int 0]))] H := hP
  have hD : va_D (fun q : Nat => s.heap.size ≤ q) [(q0, .inr (7, [.null, .null, .null, .null, .null, .null, .null, .int 0]))] := hD
  refine lv_dup hx hb dL_law_3 rfl ?_
  have hFc := va_free (wc := [(q0, .inr (7, [.null, .null, .null, .null, .null, .null, .null, .int 0]))]) hD hS hA [0] rfl
  refine va_callv (va_runI (rm := { frames := 3, cells := 39, slots := 3304, locals := 52 }) (As := []) (rest := [.ref q0]) ⟨hx, hb, hml, hown, hts⟩ (c_X7_init l D cy q0 H.size) (cwI 0 hts gL_law_X7_init rfl rfl rfl (hts0 _ (List.mem_of_getElem? (i := 46) (by decide +kernel))) (hts0 _ (List.mem_of_getElem? (i := 59) (by decide +kernel))) (hts0 _ (List.mem_of_getElem? (i := 60) (by decide +kernel))) rfl (by decide +kernel) ⟨Nat.le_of_ble_eq_true rfl, Nat.le_of_ble_eq_true rfl⟩) ⟨xw_blindO _, fun U hU hW => ⟨rfl, ⟨by rw [hU], by rw [hU]; exact hP, hB.warm hW, hD.weaken (fun _ _ _ _ => trivial)⟩, va_AO.moved hW.alike hO⟩⟩ rfl rfl hl.1 rfl (lv_room (Nat.le_of_ble_eq_true rfl)) dL_law_4 ⟨Nat.le_of_ble_eq_true rfl, Nat.le_of_ble_eq_true rfl⟩) hS (fun q _ h => hFc q h) hFc (fun a t H1 locs ht hvm hw hB1 hz1 hk1 hS => ?_)
  obtain ⟨hP1, hD1⟩ := hB1
  rw [ht] at hP1
  obtain ⟨hPj, hDj⟩ := va_join (wr := []) (w1 := xC_w cy a xC_I0 x0_F x0_G ++ [xC_im cy a (fun _ => none)]) hP hD [0] [] rfl rfl (by decide) (by decide) hk1 hFc hP1 hD1
  clear hFc hP1 hD1 hk1 hz1 ht hvm hP hD
  generalize H1 = H at hPj hS ⊢
  subst hw
  have hP : va_P D vwCl (xC_w cy a xC_I0 x0_F x0_G ++ [xC_im cy a (fun _ => none)]) H := hPj
  have hD : va_D (fun q : Nat => s.heap.size ≤ q) (xC_w cy a xC_I0 x0_F x0_G ++ [xC_im cy a (fun _ => none)]) := hDj
  refine lv_astore_n (x := a 0) (lv' := [(1, .ref (a 0)), (0, .ref b)]) hx hb dL_law_7 rfl hl (by decide) rfl (fun ls hl => ?_)
  refine va_new (ci := 8) (fs := [.int 0, .null, .null, .null, .null, .null, .int 0, .int 0, .null, .int 0, .null, .null, .null, .null, .null, .null, .long 0, .int 0, .null, .int 0, .null, .null]) (C := RX8) (T := TX8) (N := 22) hx hb hts0 xl_wsX80 tyX8 tyX8_ok hown (hts0 _ (List.mem_of_getElem? (i := 566) (by decide +kernel))) (hts0 _ (List.mem_of_getElem? (i := 567) (by decide +kernel))) (hts0 _ (List.mem_of_getElem? (i := 54) (by decide +kernel))) hB.1 hP hD hS hA rfl (by decide +kernel) (Nat.le_of_ble_eq_true rfl) (Nat.le_of_ble_eq_true rfl) dL_law_8 (fun q1 H hP hD hS => ?_)
  refine lv_dup hx hb dL_law_11 rfl ?_
  have hPs := xj_Psw hP
  have hDs := xj_Dsw hD
  have hFc : ∀ q, va_A [(q1, .inr (8, [.int 0, .null, .null, .null, .null, .null, .int 0, .int 0, .null, .int 0, .null, .null, .null, .null, .null, .null, .long 0, .int 0, .null, .int 0, .null, .null]))] H.size q → (fun q : Nat => s.heap.size ≤ q) q := fun q hq => by
    rcases hq with hq | hq
    · exact xj_Fr hDs q hq
    · exact Nat.le_trans hS.1 hq
  refine va_callv (va_runI (rm := { frames := 1, cells := 15, slots := 2785, locals := 12 }) (As := []) (rest := [.ref q1]) ⟨hx, hb, hml, hown, hts⟩ (c_X8_init l D cy q1 H.size _ xq_start) (cwI 0 hts gL_law_X8_init rfl rfl rfl (hts0 _ (List.mem_of_getElem? (i := 54) (by decide +kernel))) (hts0 _ (List.mem_of_getElem? (i := 568) (by decide +kernel))) (hts0 _ (List.mem_of_getElem? (i := 569) (by decide +kernel))) rfl (by decide +kernel) ⟨Nat.le_of_ble_eq_true rfl, Nat.le_of_ble_eq_true rfl⟩) ⟨xw_blindC _, fun U hU hW => ⟨rfl, by rw [hU], by rw [hU]; exact xj_Pl hPs, hB.warm hW, (xj_Dl hDs).weaken (fun _ _ _ _ => trivial)⟩⟩ rfl rfl hl.1 rfl (lv_room (Nat.le_of_ble_eq_true rfl)) dL_law_12 ⟨Nat.le_of_ble_eq_true rfl, Nat.le_of_ble_eq_true rfl⟩) hS (fun q _ h => hFc q h) hFc (fun u t H1 locs ht hvm hw hB1 hz1 hk1 hS => ?_)
  obtain ⟨d, J, K, G2⟩ := u
  obtain ⟨hP1, hD1⟩ := hB1
  rw [ht] at hP1
  obtain ⟨hq, hR⟩ := hw
  obtain ⟨hPj, hDj⟩ := xj_join hPs hDs (fun q h hlt => Or.elim h (fun z => z) (fun z => absurd z (Nat.not_le.mpr hlt))) hFc hk1 hP1 hD1
  have hq : q1 = d 0 := hq
  clear hFc hP1 hD1 hk1 hz1 ht hvm hP hD hPs hDs
  generalize H1 = H at hPj hS ⊢
  subst hq
  refine lv_astore_n (x := d 0) (lv' := [(2, .ref (d 0)), (1, .ref (a 0)), (0, .ref b)]) hx hb dL_law_15 rfl hl (by decide) rfl (fun ls hl => ?_)
  refine lv_iconst (v := 0) hx hb dL_law_16 (by decide) ?_
  refine lv_istore_n (lv' := [(3, .int 0), (2, .ref (d 0)), (1, .ref (a 0)), (0, .ref b)]) hx hb dL_law_17 rfl hl (by decide) rfl (fun ls hl => ?_)
  refine W.widen (k := 56) (n := 6119) (Nat.le_of_ble_eq_true rfl) (Nat.le_of_ble_eq_true rfl) ?_
  exact law_loop hL C0 hB (L + 1) 0 (Nat.zero_le L) (by omega) (fun _ => none) (fun _ => none) (fun _ _ => 0) xC_I0 x0_F x0_G J K G2 H locs 56 6119 ls ⟨hR, fun _ _ => rfl, xj_Psw hPj, xj_Dsw hDj, hS, by decide, by decide⟩ hl
