/-! ===== target, link, told ===== -/
theorem xn_lit (k : Nat) : OfNat.ofNat k = nI k := rfl
theorem xq_target {Q : xc_T} {I : xw_I} {F : xw_F} {G : xw_G} {J : xw_I} {K : xw_F} {L : xw_G} (x : Int32) (h : xr_R Q I F G J K) : sm_X7_target x I F G (fun r I1 F1 G1 => sm_X8_target x J K L (fun r2 J1 K1 _ => r2 = r ∧ xr_R Q I1 F1 G1 J1 K1 ∧ xr_im K K1)) := by
  have hsame := h
  obtain ⟨A, T, lk, c, sg, ⟨a1, a2, a3⟩, ⟨n1, n2, n3⟩, ⟨m1, m2, m3⟩, ⟨c1, c2, c3, c4⟩, g1, q1⟩ := h
  unfold sm_X7_target sm_X8_target
  refine ⟨fun z => ?_, fun z => ⟨fun z2 => ?_, fun z2 => ?_⟩⟩
  · exact ⟨fun _ => ⟨fun y => absurd rfl y, fun _ => ⟨rfl, hsame, rfl, rfl⟩⟩, fun y => absurd z y⟩
  · obtain ⟨t, ht31, rfl⟩ := nI_of z
    have t8 : t ≤ 8 := (xn_le (b := 8) (by omega) (by omega)).mp z2
    intro v ev I1 eI1
    refine xs_drop (fun F1 hz hj => ?_)
    intro I2 eI2
    refine xs_in (a := 0) (b := 8) (by omega) (by omega) (by omega) (fun _ _ => ?_) (fun y => absurd ⟨Nat.zero_le _, t8⟩ y)
    refine ⟨fun _ => ?_, fun w => absurd w (by decide)⟩
    intro w ew J1 eJ1
    refine xs_unlink (fun K1 hz2 hj2 => ?_)
    refine ⟨by rw [ev, ew, n2, m2], ⟨A, t, fun _ => 0, c, sg, ⟨a1, t8, fun w _ => ⟨Nat.two_pow_pos t, fun _ => rfl⟩⟩, ⟨n1.to (fun j p q => by rw [eI2, xw_upn (by omega), eI1, xw_upn (by omega)]) (fun j p q => hj j (by omega)), by rw [eI2, xw_upn (by decide), eI1, xw_ups], fun w hw => hz w hw⟩, ⟨m1.to (fun j p => by rw [eJ1, xw_upn (by omega)]) (fun j p q => hj2 j (by omega)), by rw [eJ1, xw_ups], fun w hw => hz2 w hw⟩, ⟨c1, by rw [eI2, xw_upn (by decide), eI1, xw_upn (by decide)]; exact c2, by rw [eJ1, xw_upn (by decide)]; exact c3, fun i hi => by rw [hj 10 (by decide), hj2 7 (by decide)]; exact c4 i hi⟩, g1, fun hz0 => ?_⟩, hj2 14 (by decide), hj2 15 (by decide)⟩
    rw [eI2, xw_ups] at hz0; exact absurd hz0 (by decide)
  · refine ⟨fun y => absurd y z, fun _ => ⟨fun _ => ⟨fun y => absurd rfl y, fun _ => ⟨rfl, hsame, rfl, rfl⟩⟩, fun y => ?_⟩⟩
    exact absurd (Int32.not_lt.mp y) z2
/-- a number between 0 and one less than another -/
theorem xs_inp {x : Int32} {n : Nat} {post : Int32 → Prop} (hn : n < 2 ^ 30) (h1 : ∀ k, k < n → x = nI k → post 1) (h0 : (∀ k, k < n → x ≠ nI k) → post 0) : sm_X8_in x 0 (nI n - 1) post := by
  unfold sm_X8_in
  refine ⟨fun z => h0 (fun k hk e => ?_), fun z => ?_⟩
  · rw [e] at z; exact absurd z (nI_pos (by omega))
  · obtain ⟨k, hk, rfl⟩ := nI_of z
    by_cases hn0 : n = 0
    · subst hn0
      refine ⟨fun _ => h0 (fun j hj => by omega), fun y => absurd (show nI 0 - 1 < nI k from ?_) y⟩
      exact Int32.lt_of_lt_of_le (by decide : nI 0 - 1 < nI 0) ((xn_le (by omega) (by omega)).mpr (Nat.zero_le _))
    · rw [show (1 : Int32) = nI 1 from rfl, xn_sub (by omega)]
      refine ⟨fun y => h0 (fun j hj e => ?_), fun y => h1 k ?_ rfl⟩
      · have := (xn_lt (by omega) (by omega)).mp y
        have := (xn_eq (by omega) (by omega)).mp e
        omega
      · have : ¬ n - 1 < k := fun w => y ((xn_lt (by omega) (by omega)).mpr w)
        omega
theorem xq_link {Q : xc_T} {I : xw_I} {F : xw_F} {G : xw_G} {J : xw_I} {K : xw_F} {L : xw_G} (x y : Int32) (h : xr_R Q I F G J K) : sm_X7_link x y I F G (fun r I1 F1 G1 => sm_X8_link x y J K L (fun r2 J1 K1 _ => r2 = r ∧ xr_R Q I1 F1 G1 J1 K1 ∧ xr_im K K1)) := by
  have hsame := h
  obtain ⟨A, T, lk, c, sg, ⟨a1, a2, a3⟩, ⟨n1, n2, n3⟩, ⟨m1, m2, m3⟩, ⟨c1, c2, c3, c4⟩, g1, q1⟩ := h
  have hn12 := xa_n_le a1
  have hbad : (∀ i j, i < xa_n A → j < T → x = nI i → y = nI j → False) → sm_X8_link x y J K L (fun r2 J1 K1 _ => r2 = -1 ∧ xr_R Q I F G J1 K1 ∧ xr_im K K1) := by
    intro hno
    unfold sm_X8_link
    rw [xe_Mn m1]
    refine xs_inp (by omega) (fun i hi ei => ⟨fun z => absurd z (by decide), fun _ => ?_⟩) (fun _ => ⟨fun _ => ⟨rfl, hsame, rfl, rfl⟩, fun z => absurd rfl z⟩)
    rw [m2]
    exact xs_inp (by omega) (fun j hj ej => absurd (hno i j hi hj ei ej) id) (fun _ => ⟨fun z => absurd rfl z, fun _ => ⟨rfl, hsame, rfl, rfl⟩⟩)
  unfold sm_X7_link
  rw [xe_Nn n1, n2]
  refine ⟨fun z => hbad (fun i j hi hj ei ej => ?_), fun z => ?_⟩
  · rw [ei] at z; exact absurd z (nI_pos (by omega))
  · obtain ⟨i, hi31, rfl⟩ := nI_of z
    refine ⟨fun z2 => hbad (fun i2 j hi hj ei ej => ?_), fun z2 => ?_⟩
    · have := (xn_le (by omega) hi31).mp z2
      have := (xn_eq hi31 (by omega)).mp ei
      omega
    · have hi : i < xa_n A := Nat.not_le.mp (fun w => z2 ((xn_le (by omega) hi31).mpr w))
      refine ⟨fun z3 => hbad (fun i2 j hi hj ei ej => ?_), fun z3 => ?_⟩
      · rw [ej] at z3; exact absurd z3 (nI_pos (by omega))
      · obtain ⟨j, hj31, rfl⟩ := nI_of z3
        refine ⟨fun z4 => ?_, fun z4 => hbad (fun i2 j2 hi2 hj2 ei ej => ?_)⟩
        · have hj : j < T := (xn_lt hj31 (by omega)).mp z4
          have hin := vp_in_nI (show i < 12 by omega) (show 12 < 2 ^ 31 by omega)
          refine ⟨hin, fun v ev => ⟨hin, fun F1 eF1 I1 eI1 => ⟨hin, fun w ew => ?_⟩⟩⟩
          rw [nI_clamp hi31] at ev eF1 ew
          rw [n3 i (by omega)] at ev
          subst ev
          rw [xb_shl j (by omega), nx_xor] at eF1
          rw [eF1, xw_ups, xb_updi, if_pos rfl] at ew
          subst ew
          unfold sm_X8_link
          rw [xe_Mn m1]
          refine xs_inp (by omega) (fun i2 hi2 ei => ⟨fun z => absurd z (by decide), fun _ => ?_⟩) (fun w => absurd rfl (w i hi))
          rw [m2]
          refine xs_inp (by omega) (fun j2 hj2 ej => ⟨fun _ => ?_, fun z => absurd z (by decide)⟩) (fun w => absurd rfl (w j hj))
          refine ⟨hin, fun v ev => ⟨hin, fun K1 eK1 => ⟨hin, fun w ew => ?_⟩⟩⟩
          rw [nI_clamp hi31] at ev eK1 ew
          rw [m3 i (by omega)] at ev
          subst ev
          rw [xb_shl j (by omega), nx_xor] at eK1
          rw [eK1, xw_ups, xb_updi, if_pos rfl] at ew
          subst ew
          refine ⟨rfl, ⟨A, T, xa_u lk i (lk i ^^^ 2 ^ j), c, sg, ⟨a1, a2, fun w hw => ?_⟩, ⟨n1.to (fun j p q => by rw [eI1, xw_upn (by omega)]) (fun j p q => by rw [eF1, xw_upn (by omega)]), by rw [eI1, xw_upn (by decide)]; exact n2, fun w hw => ?_⟩, ⟨m1.to (fun _ _ => rfl) (fun j p q => by rw [eK1, xw_upn (by omega)]), m2, fun w hw => ?_⟩, ⟨c1, by rw [eI1, xw_upn (by decide)]; exact c2, c3, fun q hq => by rw [eF1, xw_upn (by decide), eK1, xw_upn (by decide)]; exact c4 q hq⟩, g1, fun hz0 => ?_⟩, by rw [eK1, xw_upn (by decide)], by rw [eK1, xw_upn (by decide)]⟩
          · by_cases hwi : w = i
            · subst hwi
              rw [xa_us]
              exact ⟨Nat.xor_lt_two_pow (a3 w hw).1 (Nat.pow_lt_pow_right (by decide) hj), fun z => by omega⟩
            · rw [xa_un hwi]; exact a3 w hw
          · rw [eF1, xw_ups, xb_updi]
            by_cases hwi : w = i
            · subst hwi; rw [if_pos rfl, xa_us]
            · rw [if_neg hwi, xa_un hwi]; exact n3 w hw
          · rw [eK1, xw_ups, xb_updi]
            by_cases hwi : w = i
            · subst hwi; rw [if_pos rfl, xa_us]
            · rw [if_neg hwi, xa_un hwi]; exact m3 w hw
          · rw [eI1, xw_ups] at hz0; exact absurd hz0 (by decide)
        · have := (xn_eq hj31 (by omega)).mp ej
          exact z4 ((xn_lt hj31 (by omega)).mpr (by omega))
theorem xq_told {Q : xc_T} {I : xw_I} {F : xw_F} {G : xw_G} {J : xw_I} {K : xw_F} {L : xw_G} (x : Int32) (h : xr_R Q I F G J K) : sm_X7_told x I F G (fun r => sm_X8_told x J K L (fun r2 => r2 = r)) := by
  obtain ⟨A, T, lk, c, sg, ⟨a1, a2, a3⟩, ⟨n1, n2, n3⟩, ⟨m1, m2, m3⟩, ⟨c1, c2, c3, c4⟩, g1, q1⟩ := h
  have hn12 := xa_n_le a1
  have e7 := xe_Nn n1
  have e0 := xe_Mn m1
  intro k hk
  have hrest : (x < 10 ∨ nI (10 + xa_n A) ≤ x) → k := by
    intro hx
    apply hk
    unfold bd_X7_told_36 sm_X8_told
    refine ⟨fun z => ⟨fun _ => by rw [c2, c3], fun w => absurd (z ▸ w) (by decide), fun w => absurd (z ▸ w) (by decide), fun w => absurd z w⟩, fun z => ⟨fun w => absurd (z ▸ w) (by decide), fun _ => by rw [e7, e0], fun w => absurd (z ▸ w) (by decide), fun _ w => absurd z w⟩, fun z => ⟨fun w => absurd (z ▸ w) (by decide), fun w => absurd (z ▸ w) (by decide), fun _ => by rw [n2, m2], fun _ _ w => absurd z w⟩, fun z0 z1 z2 => ⟨fun w => absurd w z0, fun w => absurd w z1, fun w => absurd w z2, fun _ _ _ => ?_⟩⟩
    rw [e0, show (9 : Int32) = nI 9 from rfl, nI_add]
    unfold sm_X8_in
    have hfin : ∀ p : Prop, p → ((0 : Int32) = 0 → p) ∧ (¬ (0 : Int32) = 0 → vp_in (x - 10) 12 ∧ ∀ v7 : Int32, v7 = K 6 (x - 10).toNatClampNeg → v7 = -2) := fun p hp => ⟨fun _ => hp, fun w => absurd rfl w⟩
    refine ⟨fun _ => ⟨fun _ => rfl, fun w => absurd rfl w⟩, fun z => ⟨fun _ => ⟨fun _ => rfl, fun w => absurd rfl w⟩, fun z9 => ?_⟩⟩
    exfalso
    rcases hx with hx | hx
    · exact z hx
    · apply z9
      exact Int32.lt_of_lt_of_le ((xn_lt (by omega) (by omega)).mpr (by omega)) hx
  unfold bd_X7_told_0
  rw [e7, show (10 : Int32) = nI 10 from rfl, nI_add]
  refine ⟨fun z => hrest (Or.inl z), fun z => ⟨fun z2 => hrest (Or.inr z2), fun z2 => ?_⟩⟩
  have hx0 : ¬ x < 0 := fun w => z (Int32.lt_of_lt_of_le w (by decide))
  obtain ⟨t, ht, rfl⟩ := nI_of hx0
  have t1 : 10 ≤ t := Nat.not_lt.mp (fun w => z ((xn_lt (by omega) (by omega)).mpr w))
  have t2 : t < 10 + xa_n A := Nat.not_le.mp (fun w => z2 ((xn_le (by omega) (by omega)).mpr w))
  rw [xn_sub t1]
  have hin := vp_in_nI (show t - 10 < 12 by omega) (show 12 < 2 ^ 31 by omega)
  refine ⟨hin, fun v ev => ?_⟩
  rw [nI_clamp (by omega), n3 _ (by omega)] at ev
  unfold sm_X8_told
  have hne : ∀ k : Nat, k < 3 → nI t ≠ nI k := fun k hk w => by have := (xn_eq (by omega) (by omega)).mp w; omega
  refine ⟨fun w => absurd w (hne 0 (by omega)), fun w => absurd w (hne 1 (by omega)), fun w => absurd w (hne 2 (by omega)), fun _ _ _ => ?_⟩
  rw [e0, show (9 : Int32) = nI 9 from rfl, nI_add, show (10 : Int32) = nI 10 from rfl, xn_sub t1]
  refine xs_in (by omega) (by omega) (by omega) (fun _ _ => ⟨fun w => absurd w (by decide), fun _ => ⟨hin, fun w ew => ?_⟩⟩) (fun w => absurd ⟨t1, by omega⟩ w)
  rw [ew, nI_clamp (by omega), m3 _ (by omega), ev]
