/-! ===== the two states side by side; the calls that place nothing ===== -/
def xa_n (A : xa_R) : Nat := A.1
/-- the class's 'now' holds A -/
def xe_N (I : xw_I) (F : xw_F) : xa_R → Prop
  | (n, ps, mb, mc, _, op, cl, hd, hb, mg, mr, _, _) => I 7 = nI n ∧ I 8 = nI ps ∧ I 9 = nI mb ∧ I 10 = nI mc ∧
    (∀ p, p < 5 → ps.testBit p = true → F 13 p = nI (op p) ∧ F 14 p = nI (cl p) ∧ F 15 p = nI (hd p) ∧ F 16 p = nI (hb p)) ∧
    (∀ m, m < 3 → mb.testBit m = true → F 17 m = nI (mg m)) ∧ (∀ i, i < mc → F 18 i = nI (mr i))
abbrev xc_T : Type := xw_I → xw_F → xa_R → Nat → (Nat → Nat) → Prop
/-- what was carried stays, where nothing of it is written -/
def xc_ok (Q : xc_T) : Prop := ∀ (I I1 : xw_I) (F F1 : xw_F) (A : xa_R) (T : Nat) (lk : Nat → Nat), (∀ j, 12 ≤ j → I1 j = I j) → (∀ j, 21 ≤ j → F1 j = F j) → Q I F A T lk → Q I1 F1 A T lk
def xl_ok (n T : Nat) (lk : Nat → Nat) : Prop := ∀ w, w < 12 → lk w < 2 ^ T ∧ (n ≤ w → lk w = 0)
def xr_R (Q : xc_T) (I : xw_I) (F : xw_F) (G : xw_G) (J : xw_I) (K : xw_F) : Prop := ∃ (A : xa_R) (T : Nat) (lk : Nat → Nat) (c : Nat) (sg : Nat → Nat),
  (xa_ok A ∧ T ≤ 8 ∧ xl_ok (xa_n A) T lk) ∧ (xe_N I F A ∧ I 12 = nI T ∧ ∀ w, w < 12 → F 20 w = nI (lk w)) ∧ (xe_M J K A ∧ J 2 = nI T ∧ ∀ w, w < 12 → K 6 w = nI (lk w)) ∧
  (c ≤ 30 ∧ I 1 = nI c ∧ J 3 = nI c ∧ ∀ i, i < c → F 10 i = nI (sg i) ∧ K 7 i = nI (sg i) ∧ sg i < 127) ∧ (∀ i, i < 81 → G 30 i = 0) ∧ (I 0 = 0 → Q I F A T lk)
/-- the images of the reference stay -/
def xr_im (K K1 : xw_F) : Prop := K1 14 = K 14 ∧ K1 15 = K 15
theorem xe_N.to {I I1 : xw_I} {F F1 : xw_F} {A : xa_R} (h : xe_N I F A) (hi : ∀ j, 7 ≤ j → j ≤ 10 → I1 j = I j) (hf : ∀ j, 13 ≤ j → j ≤ 18 → F1 j = F j) : xe_N I1 F1 A := by
  obtain ⟨n, ps, mb, mc, oc, op, cl, hd, hb, mg, mr, st, rk⟩ := A
  obtain ⟨h1, h2, h3, h4, h5, h6, h7⟩ := h
  refine ⟨?_, ?_, ?_, ?_, ?_, ?_, ?_⟩
  · rw [hi 7 (by omega) (by omega)]; exact h1
  · rw [hi 8 (by omega) (by omega)]; exact h2
  · rw [hi 9 (by omega) (by omega)]; exact h3
  · rw [hi 10 (by omega) (by omega)]; exact h4
  · intro p hp hb; rw [hf 13 (by omega) (by omega), hf 14 (by omega) (by omega), hf 15 (by omega) (by omega), hf 16 (by omega) (by omega)]; exact h5 p hp hb
  · intro m hm hb; rw [hf 17 (by omega) (by omega)]; exact h6 m hm hb
  · intro i hi2; rw [hf 18 (by omega) (by omega)]; exact h7 i hi2
theorem xe_M.to {I I1 : xw_I} {F F1 : xw_F} {A : xa_R} (h : xe_M I F A) (hi : ∀ j, j < 2 → I1 j = I j) (hf : ∀ j, 1 ≤ j → j ≤ 5 → F1 j = F j) : xe_M I1 F1 A := by
  obtain ⟨n, ps, mb, mc, oc, op, cl, hd, hb, mg, mr, st, rk⟩ := A
  obtain ⟨h1, h2, h3, h4, h5, h6, h7⟩ := h
  refine ⟨?_, ?_, ?_, ?_, ?_, ?_, ?_⟩
  · rw [hi 0 (by omega)]; exact h1
  · rw [hi 1 (by omega)]; exact h2
  · intro p hp hb; rw [hf 1 (by omega) (by omega), hf 2 (by omega) (by omega), hf 3 (by omega) (by omega)]; exact h3 p hp hb
  · intro p hp hb; rw [hf 1 (by omega) (by omega), hf 3 (by omega) (by omega)]; exact h4 p hp hb
  · intro m hm hb; rw [hf 4 (by omega) (by omega)]; exact h5 m hm hb
  · intro m hm hb; rw [hf 4 (by omega) (by omega)]; exact h6 m hm hb
  · intro i hi2; rw [hf 5 (by omega) (by omega)]; exact h7 i hi2
theorem xe_Nn {I : xw_I} {F : xw_F} {A : xa_R} (h : xe_N I F A) : I 7 = nI (xa_n A) := by
  obtain ⟨n, ps, mb, mc, oc, op, cl, hd, hb, mg, mr, st, rk⟩ := A
  exact h.1
theorem xe_Mn {I : xw_I} {F : xw_F} {A : xa_R} (h : xe_M I F A) : I 0 = nI (xa_n A) := by
  obtain ⟨n, ps, mb, mc, oc, op, cl, hd, hb, mg, mr, st, rk⟩ := A
  exact h.1
theorem xa_n_le {A : xa_R} (h : xa_ok A) : xa_n A ≤ 12 := by
  obtain ⟨n, ps, mb, mc, oc, op, cl, hd, hb, mg, mr, st, rk⟩ := A
  exact h.1
theorem xq_say {Q : xc_T} (hQ : xc_ok Q) {I : xw_I} {F : xw_F} {G : xw_G} {J : xw_I} {K : xw_F} {L : xw_G} (x : Int32) (h : xr_R Q I F G J K) : sm_X7_say x I F G (fun r I1 F1 G1 => sm_X8_say x J K L (fun r2 J1 K1 _ => r2 = r ∧ xr_R Q I1 F1 G1 J1 K1 ∧ xr_im K K1)) := by
  have hsame := h
  obtain ⟨A, T, lk, c, sg, ⟨a1, a2, a3⟩, ⟨n1, n2, n3⟩, ⟨m1, m2, m3⟩, ⟨c1, c2, c3, c4⟩, g1, q1⟩ := h
  unfold sm_X7_say sm_X8_say
  refine ⟨fun z => ?_, fun z => ⟨fun z2 => ?_, fun z2 => ?_⟩⟩
  · exact ⟨fun _ => ⟨fun y => absurd rfl y, fun _ => ⟨rfl, hsame, rfl, rfl⟩⟩, fun y => absurd z y⟩
  · have hs : ¬ x < 0 := fun y => z (Int32.lt_of_lt_of_le y (by decide))
    obtain ⟨s, hs31, rfl⟩ := nI_of hs
    have s1 : 33 ≤ s := Nat.not_lt.mp (fun y => z ((xn_lt (b := 33) (by omega) (by omega)).mpr y))
    have s2 : s ≤ 126 := (xn_le (b := 126) (by omega) (by omega)).mp z2
    have hin : ∀ post : Int32 → Prop, post 1 → sm_X8_in (nI s) 33 126 post := fun post hp => xs_in (a := 33) (b := 126) (by omega) (by omega) (by omega) (fun _ _ => hp) (fun y => absurd ⟨s1, s2⟩ y)
    unfold sm_X1_add
    rw [c2]
    refine ⟨fun y => ?_, fun y => ?_⟩
    · have y : c < 30 := (xn_lt (b := 30) (by omega) (by omega)).mp y
      refine ⟨vp_in_nI y (by omega), fun F1 eF1 I1 eI1 => ⟨fun w => absurd w (by decide), fun _ => ?_⟩⟩
      rw [nI_clamp (by omega)] at eF1
      rw [nI_1] at eI1
      apply hin
      refine ⟨fun _ => ⟨fun _ => ?_, fun w => ?_⟩, fun w => absurd w (by decide)⟩
      · rw [c3]
        refine ⟨vp_in_nI y (by omega), fun K1 eK1 J1 eJ1 => ⟨?_, ?_, ?_⟩⟩
        · rw [eJ1, xw_ups, eI1, xw_ups, nI_1]
        · rw [nI_clamp (by omega)] at eK1
          rw [nI_1] at eJ1
          refine ⟨A, T, lk, c + 1, xa_u sg c s, ⟨a1, a2, a3⟩, ⟨n1.to (fun j p q => by rw [eI1, xw_upn (by omega)]) (fun j p q => by rw [eF1, xw_upn (by omega)]), by rw [eI1, xw_upn (by decide)]; exact n2, fun w hw => by rw [eF1, xw_upn (by decide)]; exact n3 w hw⟩, ⟨m1.to (fun j p => by rw [eJ1, xw_upn (by omega)]) (fun j p q => by rw [eK1, xw_upn (by omega)]), by rw [eJ1, xw_upn (by decide)]; exact m2, fun w hw => by rw [eK1, xw_upn (by decide)]; exact m3 w hw⟩, ⟨by omega, by rw [eI1, xw_ups], by rw [eJ1, xw_ups], ?_⟩, g1, ?_⟩
          · intro i hi
            rw [eF1, xw_ups, xb_updi, eK1, xw_ups, xb_updi]
            by_cases hic : i = c
            · subst hic; rw [if_pos rfl, if_pos rfl, xa_us]; exact ⟨rfl, rfl, by omega⟩
            · rw [if_neg hic, if_neg hic, xa_un hic]; exact c4 i (by omega)
          · intro hz
            rw [eI1, xw_upn (by decide)] at hz
            exact hQ I I1 F F1 A T lk (fun j hj => by rw [eI1, xw_upn (by omega)]) (fun j hj => by rw [eF1, xw_upn (by omega)]) (q1 hz)
        · exact ⟨by rw [eK1, xw_upn (by decide)], by rw [eK1, xw_upn (by decide)]⟩
      · rw [c3] at w
        have := (xn_eq (b := 30) (by omega) (by omega)).mp w
        omega
    · have y : c = 30 := by
        have : ¬ c < 30 := fun w => y ((xn_lt (b := 30) (by omega) (by omega)).mpr w)
        omega
      refine ⟨fun _ => ?_, fun w => absurd rfl w⟩
      apply hin
      refine ⟨fun _ => ⟨fun w => ?_, fun _ => ⟨rfl, hsame, rfl, rfl⟩⟩, fun w => absurd w (by decide)⟩
      exact absurd (by rw [c3, y]; rfl) w
  · refine ⟨fun y => absurd y z, fun _ => ⟨fun _ => ⟨fun y => absurd rfl y, fun _ => ⟨rfl, hsame, rfl, rfl⟩⟩, fun y => ?_⟩⟩
    exact absurd (Int32.not_lt.mp y) z2
theorem xq_wipe {Q : xc_T} (hQ : xc_ok Q) {I : xw_I} {F : xw_F} {G : xw_G} {J : xw_I} {K : xw_F} {L : xw_G} (h : xr_R Q I F G J K) : sm_X7_wipe I F G (fun r I1 F1 G1 => sm_X8_wipe J K L (fun r2 J1 K1 _ => r2 = r ∧ xr_R Q I1 F1 G1 J1 K1 ∧ xr_im K K1)) := by
  obtain ⟨A, T, lk, c, sg, ⟨a1, a2, a3⟩, ⟨n1, n2, n3⟩, ⟨m1, m2, m3⟩, ⟨c1, c2, c3, c4⟩, g1, q1⟩ := h
  intro v ev I1 eI1 w ew J1 eJ1
  refine ⟨by rw [ev, ew, c2, c3], ⟨A, T, lk, 0, sg, ⟨a1, a2, a3⟩, ⟨n1.to (fun j p q => by rw [eI1, xw_upn (by omega)]) (fun _ _ _ => rfl), by rw [eI1, xw_upn (by decide)]; exact n2, n3⟩, ⟨m1.to (fun j p => by rw [eJ1, xw_upn (by omega)]) (fun _ _ _ => rfl), by rw [eJ1, xw_upn (by decide)]; exact m2, m3⟩, ⟨by omega, by rw [eI1, xw_ups]; rfl, by rw [eJ1, xw_ups]; rfl, fun i hi => by omega⟩, g1, fun hz => ?_⟩, rfl, rfl⟩
  rw [eI1, xw_upn (by decide)] at hz
  exact hQ I I1 F F A T lk (fun j hj => by rw [eI1, xw_upn (by omega)]) (fun _ _ => rfl) (q1 hz)
theorem xq_fault {Q : xc_T} (hQ : xc_ok Q) {I : xw_I} {F : xw_F} {G : xw_G} {J : xw_I} {K : xw_F} {L : xw_G} (h : xr_R Q I F G J K) : sm_X7_fault I F G (fun r I1 F1 G1 => sm_X8_fault J K L (fun r2 J1 K1 _ => r2 = r ∧ xr_R Q I1 F1 G1 J1 K1 ∧ xr_im K K1)) := by
  obtain ⟨A, T, lk, c, sg, ⟨a1, a2, a3⟩, ⟨n1, n2, n3⟩, ⟨m1, m2, m3⟩, ⟨c1, c2, c3, c4⟩, g1, q1⟩ := h
  unfold sm_X7_fault sm_X8_fault
  refine xs_read c1 c2 (fun i hi => (c4 i hi).1) (fun i hi => (c4 i hi).2.2) (fun I1 F1 hfr _ => ?_)
  refine xs_fault c1 c3 (fun i hi => (c4 i hi).2.1) (fun i hi => (c4 i hi).2.2) (fun K1 hK => ?_)
  refine ⟨rfl, ⟨A, T, lk, c, sg, ⟨a1, a2, a3⟩, ⟨n1.to (fun j p q => hfr.1 j (by omega)) (fun j p q => hfr.2 j (by omega)), (hfr.1 12 (by omega)).trans n2, fun w hw => by rw [hfr.2 20 (by omega)]; exact n3 w hw⟩, ⟨m1.to (fun _ _ => rfl) (fun j p q => hK j (by omega)), m2, fun w hw => by rw [hK 6 (by decide)]; exact m3 w hw⟩, ⟨c1, (hfr.1 1 (by omega)).trans c2, c3, fun i hi => by rw [hfr.2 10 (by omega), hK 7 (by decide)]; exact c4 i hi⟩, g1, fun hz => ?_⟩, hK 14 (by decide), hK 15 (by decide)⟩
  rw [hfr.1 0 (by omega)] at hz
  exact hQ I I1 F F1 A T lk (fun j hj => hfr.1 j (by omega)) (fun j hj => hfr.2 j (by omega)) (q1 hz)
theorem xs_copyC {I : xw_I} {F : xw_F} {G : xw_G} {post : xw_I → xw_F → xw_G → Prop} (h : ∀ I1 F1, I1 7 = I 2 → I1 8 = I 3 → I1 9 = I 4 → I1 10 = I 5 → (∀ j, j < 7 ∨ 11 < j → I1 j = I j) → (∀ p, p < 5 → F1 13 p = F 3 p ∧ F1 14 p = F 4 p ∧ F1 15 p = F 5 p ∧ F1 16 p = F 6 p) → (∀ m, m < 3 → F1 17 m = F 7 m ∧ F1 18 m = F 8 m) → (∀ j, j < 13 ∨ 19 < j → F1 j = F j) → post I1 F1 G) : sm_X4_copyC I F G post := by
  intro k42 k115 r42 r115
  unfold bd_X4_copyC_0
  intro I1 e1 I2 e2 I3 e3 I4 e4 I5 e5
  refine xl_up (fun i Fs => k42 (nI i) I5 Fs G) 5 (fun i Fs => (∀ p, p < i → Fs 13 p = F 3 p ∧ Fs 14 p = F 4 p ∧ Fs 15 p = F 5 p ∧ Fs 16 p = F 6 p) ∧ ∀ j, j < 13 ∨ 19 < j → Fs j = F j) ?_ ?_ 0 F (by omega) ⟨fun p hp => by omega, fun _ _ => rfl⟩
  · intro i Fs hi hv ih
    apply r42
    unfold bd_X4_copyC_42
    have hin := vp_in_nI hi (show 5 < 2 ^ 31 by omega)
    refine ⟨fun z => absurd ((xn_le (a := 5) (by omega) (by omega)).mp z) (by omega), fun _ => ⟨hin, fun v1 ev1 => ⟨hin, fun F1 f1 => ⟨hin, fun v2 ev2 => ⟨hin, fun F2 f2 => ⟨hin, fun v3 ev3 => ⟨hin, fun F3 f3 => ⟨hin, fun v4 ev4 => ⟨hin, fun F4 f4 => ⟨hin, fun v5 ev5 => ⟨hin, fun F5 f5 u eu => ?_⟩⟩⟩⟩⟩⟩⟩⟩⟩⟩⟩
    rw [nI_clamp (by omega)] at ev1 f1 ev2 f2 ev3 f3 ev4 f4 ev5 f5
    rw [eu, nI_1]
    rw [hv.2 3 (by omega)] at ev1
    rw [f1, xw_upn (by decide), hv.2 4 (by omega)] at ev2
    rw [f2, xw_upn (by decide), f1, xw_upn (by decide), hv.2 5 (by omega)] at ev3
    rw [f3, xw_upn (by decide), f2, xw_upn (by decide), f1, xw_upn (by decide), hv.2 6 (by omega)] at ev4
    refine ih F5 ⟨fun p hp => ?_, fun j hj => ?_⟩
    · rw [f5, xw_upn (by decide), xw_upn (by decide), xw_upn (by decide), xw_upn (by decide), f4, xw_upn (by decide), xw_upn (by decide), xw_upn (by decide), xw_ups, f3, xw_upn (by decide), xw_upn (by decide), xw_ups, f2, xw_upn (by decide), xw_ups, f1, xw_ups]
      by_cases hpi : p = i
      · subst hpi
        simp only [xb_updi, if_pos]
        exact ⟨ev1, ev2, ev3, ev4⟩
      · simp only [xb_updi, if_neg hpi]
        rw [xw_upn (by decide), xw_upn (by decide), xw_upn (by decide), xw_upn (by decide), xw_upn (by decide), xw_upn (by decide)]
        exact hv.1 p (by omega)
    · rw [f5, xw_upn (by omega), f4, xw_upn (by omega), f3, xw_upn (by omega), f2, xw_upn (by omega), f1, xw_upn (by omega)]; exact hv.2 j hj
  · intro Fs hv
    apply r42
    unfold bd_X4_copyC_42
    refine ⟨fun _ => ?_, fun z => absurd ((xn_le (a := 5) (b := 5) (by omega) (by omega)).mpr (by omega)) z⟩
    refine xl_up (fun i Ft => k115 (nI i) I5 Ft G) 3 (fun i Ft => (∀ p, p < 5 → Ft 13 p = F 3 p ∧ Ft 14 p = F 4 p ∧ Ft 15 p = F 5 p ∧ Ft 16 p = F 6 p) ∧ (∀ m, m < i → Ft 17 m = F 7 m ∧ Ft 18 m = F 8 m) ∧ ∀ j, j < 13 ∨ 19 < j → Ft j = F j) ?_ ?_ 0 Fs (by omega) ⟨hv.1, fun m hm => by omega, hv.2⟩
    · intro i Ft hi hw ih
      apply r115
      unfold bd_X4_copyC_115
      have hin := vp_in_nI hi (show 3 < 2 ^ 31 by omega)
      refine ⟨fun z => absurd ((xn_le (a := 3) (by omega) (by omega)).mp z) (by omega), fun _ => ⟨hin, fun v1 ev1 => ⟨hin, fun F1 f1 => ⟨hin, fun v2 ev2 => ⟨hin, fun F2 f2 u eu => ?_⟩⟩⟩⟩⟩
      rw [nI_clamp (by omega)] at ev1 f1 ev2 f2
      rw [eu, nI_1]
      rw [hw.2.2 7 (by omega)] at ev1
      rw [f1, xw_upn (by decide), hw.2.2 8 (by omega)] at ev2
      refine ih F2 ⟨fun p hp => ?_, fun m hm => ?_, fun j hj => ?_⟩
      · rw [f2, xw_upn (by decide), xw_upn (by decide), xw_upn (by decide), xw_upn (by decide), f1, xw_upn (by decide), xw_upn (by decide), xw_upn (by decide), xw_upn (by decide)]; exact hw.1 p hp
      · rw [f2, xw_upn (by decide), xw_ups, f1, xw_ups, xw_upn (by decide)]
        by_cases hmi : m = i
        · subst hmi; simp only [xb_updi, if_pos]; exact ⟨ev1, ev2⟩
        · simp only [xb_updi, if_neg hmi]; exact hw.2.1 m (by omega)
      · rw [f2, xw_upn (by omega), f1, xw_upn (by omega)]; exact hw.2.2 j hj
    · intro Ft hw
      apply r115
      unfold bd_X4_copyC_115
      refine ⟨fun _ => ?_, fun z => absurd ((xn_le (a := 3) (b := 3) (by omega) (by omega)).mpr (by omega)) z⟩
      refine h I5 Ft ?_ ?_ ?_ ?_ ?_ hw.1 hw.2.1 hw.2.2
      · rw [e5, xw_upn (by decide), e4, xw_upn (by decide), e3, xw_upn (by decide), e2, xw_upn (by decide), e1, xw_ups]
      · rw [e5, xw_upn (by decide), e4, xw_upn (by decide), e3, xw_upn (by decide), e2, xw_ups, e1, xw_upn (by decide)]
      · rw [e5, xw_upn (by decide), e4, xw_upn (by decide), e3, xw_ups, e2, xw_upn (by decide), e1, xw_upn (by decide)]
      · rw [e5, xw_upn (by decide), e4, xw_ups, e3, xw_upn (by decide), e2, xw_upn (by decide), e1, xw_upn (by decide)]
      · intro j hj; rw [e5, xw_upn (by omega), e4, xw_upn (by omega), e3, xw_upn (by omega), e2, xw_upn (by omega), e1, xw_upn (by omega)]
theorem xq_load {Q : xc_T} (hQ : xc_ok Q) {I : xw_I} {F : xw_F} {G : xw_G} {J : xw_I} {K : xw_F} {L : xw_G} (h : xr_R Q I F G J K) : sm_X7_load I F G (fun r I1 F1 G1 => sm_X8_load J K L (fun r2 J1 K1 _ => r2 = r ∧ xr_R Q I1 F1 G1 J1 K1 ∧ xr_im K K1)) := by
  obtain ⟨A, T, lk, c, sg, ⟨a1, a2, a3⟩, ⟨n1, n2, n3⟩, ⟨m1, m2, m3⟩, ⟨c1, c2, c3, c4⟩, g1, q1⟩ := h
  unfold sm_X7_load
  refine xs_read c1 c2 (fun i hi => (c4 i hi).1) (fun i hi => (c4 i hi).2.2) (fun I1 F1 hfr hA => ⟨fun hz => ?_, fun hz => ?_⟩)
  · refine xs_copyC (fun I2 F2 i7 i8 i9 i10 ij f5 f3 fj => ?_)
    refine xs_drop (fun F3 hz3 hj3 => ?_)
    intro I3 eI3 I4 eI4
    refine xs_mload c1 c3 (fun i hi => (c4 i hi).2.1) (fun i hi => (c4 i hi).2.2) (fun hno => absurd hz hno) (fun B hB hoc J1 K1 hM hl h3 hj hk => ?_)
    have hE := hA B hB
    have hokB := xa_go_ok c 0 xa_0 B xa_ok0 hB
    have hNB : xe_N I4 F3 B := by
      obtain ⟨n, ps, mb, mc, oc, op, cl, hd, hb, mg, mr, st, rk⟩ := B
      obtain ⟨e1, e2, e3, e4, e5, e6, e7, e8, e9⟩ := hE
      have hmc : mc ≤ 3 := by
        have := hokB.2.2.2.1
        have := xa_pop_le mb hokB.2.2.1
        omega
      refine ⟨?_, ?_, ?_, ?_, ?_, ?_, ?_⟩
      · rw [eI4, xw_upn (by decide), eI3, xw_upn (by decide), i7]; exact e1
      · rw [eI4, xw_upn (by decide), eI3, xw_upn (by decide), i8]; exact e2
      · rw [eI4, xw_upn (by decide), eI3, xw_upn (by decide), i9]; exact e3
      · rw [eI4, xw_upn (by decide), eI3, xw_upn (by decide), i10]; exact e4
      · intro p hp hpb
        obtain ⟨b1, b2, b3, b4⟩ := f5 p hp
        rw [hj3 13 (by decide), hj3 14 (by decide), hj3 15 (by decide), hj3 16 (by decide), b1, b2, b3, b4]; exact e6 p hp hpb
      · intro m hm hmb; rw [hj3 17 (by decide), (f3 m hm).1]; exact e7 m hm hmb
      · intro i hi; rw [hj3 18 (by decide), (f3 i (by omega)).2]; exact e8 i hi
    refine ⟨?_, ⟨B, T, fun _ => 0, 0, sg, ⟨hokB, a2, fun w _ => ⟨Nat.two_pow_pos T, fun _ => rfl⟩⟩, ⟨hNB, ?_, fun w hw => hz3 w hw⟩, ⟨hM, ?_, fun w hw => hl w hw⟩, ⟨by omega, ?_, h3, fun i hi => by omega⟩, g1, fun hz0 => ?_⟩, ?_, ?_⟩
    · rw [xe_Mn hM, xe_Nn hNB]
    · rw [eI4, xw_upn (by decide), eI3, xw_upn (by decide), ij 12 (by omega), hfr.1 12 (by omega)]; exact n2
    · rw [hj 2 (by decide) (by decide) (by decide)]; exact m2
    · rw [eI4, xw_upn (by decide), eI3, xw_ups]; rfl
    · rw [eI4, xw_ups] at hz0; exact absurd hz0 (by decide)
    · exact hk 14 (by omega)
    · exact hk 15 (by omega)
  · refine xs_mload c1 c3 (fun i hi => (c4 i hi).2.1) (fun i hi => (c4 i hi).2.2) (fun _ K1 hK => ?_) (fun B hB hoc J1 K1 hM hl h3 hj hk => ?_)
    · refine ⟨rfl, ⟨A, T, lk, c, sg, ⟨a1, a2, a3⟩, ⟨n1.to (fun j p q => hfr.1 j (by omega)) (fun j p q => hfr.2 j (by omega)), (hfr.1 12 (by omega)).trans n2, fun w hw => by rw [hfr.2 20 (by omega)]; exact n3 w hw⟩, ⟨m1.to (fun _ _ => rfl) (fun j p q => hK j (by omega)), m2, fun w hw => by rw [hK 6 (by decide)]; exact m3 w hw⟩, ⟨c1, (hfr.1 1 (by omega)).trans c2, c3, fun i hi => by rw [hfr.2 10 (by omega), hK 7 (by decide)]; exact c4 i hi⟩, g1, fun hz => ?_⟩, hK 14 (by decide), hK 15 (by decide)⟩
      rw [hfr.1 0 (by omega)] at hz
      exact hQ I I1 F F1 A T lk (fun j hj => hfr.1 j (by omega)) (fun j hj => hfr.2 j (by omega)) (q1 hz)
    · exfalso
      apply hz
      unfold xa_res
      rw [hB]
      dsimp only
      rw [if_pos hoc]
