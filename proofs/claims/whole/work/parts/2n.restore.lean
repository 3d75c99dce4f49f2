/-! ===== images: pure, the rest ===== -/
theorem xs_mrestore {n : Nat} {J : xw_I} {K : xw_F} {L : xw_G} {post : Int32 → xw_I → xw_F → xw_G → Prop} (hn : n < 2) (h0 : K 15 n = 0 → post (-3) J K L)
    (h : K 15 n ≠ 0 → ∀ (J1 : xw_I) (K1 : xw_F), (∀ j, j < 3 → J1 j = K 14 (40 * n + 33 + j)) → (∀ j, 3 ≤ j → J1 j = J j) → (∀ q, q < 5 → K1 1 q = K 14 (40 * n + q) ∧ K1 2 q = K 14 (40 * n + 5 + q) ∧ K1 3 q = K 14 (40 * n + 10 + q)) → (∀ q, q < 3 → K1 4 q = K 14 (40 * n + 15 + q) ∧ K1 5 q = K 14 (40 * n + 18 + q)) → (∀ q, q < 12 → K1 6 q = K 14 (40 * n + 21 + q)) → (∀ j, 7 ≤ j → K1 j = K j) → post 1 J1 K1 L) : sm_X8_restore (nI n) J K L post := by
  intro k31 k91 k138 r31 r91 r138
  unfold bd_X8_restore_0
  refine xs_in (a := 0) (b := 1) (by omega) (by omega) (by omega) (fun _ _ => ⟨fun _ => ?_, fun y => absurd y (by decide)⟩) (fun y => absurd ⟨by omega, by omega⟩ y)
  refine ⟨vp_in_nI hn (by omega), fun v28 e28 => ⟨fun hz v30 e30 => ?_, fun hz => ?_⟩⟩
  rotate_left
  · rw [nI_clamp (by omega)] at e28
    exact h0 (e28.symm.trans hz)
  rw [nI_clamp (by omega)] at e28
  have h := h (fun y => hz (e28.trans y))
  rw [xn_40] at e30
  rw [e30]
  have l5 : (5 : Int32) = nI 5 := rfl
  have l10 : (10 : Int32) = nI 10 := rfl
  have l15 : (15 : Int32) = nI 15 := rfl
  have l18 : (18 : Int32) = nI 18 := rfl
  have l21 : (21 : Int32) = nI 21 := rfl
  have l33 : (33 : Int32) = nI 33 := rfl
  have l34 : (34 : Int32) = nI 34 := rfl
  have l35 : (35 : Int32) = nI 35 := rfl
  refine xl_up (fun i (F1 : xw_F) => k31 (nI (40 * n)) (nI i) J F1 L) 5 (fun i F1 => (∀ j, 7 ≤ j → F1 j = K j) ∧ ∀ q, q < i → F1 1 q = K 14 (40 * n + q) ∧ F1 2 q = K 14 (40 * n + 5 + q) ∧ F1 3 q = K 14 (40 * n + 10 + q)) ?_ ?_ 0 K (by omega) ⟨fun _ _ => rfl, fun q hq => by omega⟩
  · intro i F1 hi hV ih
    obtain ⟨hV1, hV2⟩ := hV
    have hin := vp_in_nI hi (show 5 < 2 ^ 31 by omega)
    have g14 : ∀ x, F1 14 x = K 14 x := fun x => congrFun (hV1 14 (by omega)) x
    apply r31
    unfold bd_X8_restore_31
    rw [l5, l10, nI_add, nI_add, nI_add, nI_add, nI_add, nI_clamp (n := i) (by omega), nI_clamp (by omega), nI_clamp (by omega), nI_clamp (by omega)]
    refine ⟨fun z => absurd ((xn_le (a := 5) (by omega) (by omega)).mp z) (by omega), fun _ => ⟨vp_in_nI (show _ < 80 by omega) (by omega), fun v32 e32 => ⟨hin, fun F33 e33 => ⟨vp_in_nI (show _ < 80 by omega) (by omega), fun v34 e34 => ⟨hin, fun F35 e35 => ⟨vp_in_nI (show _ < 80 by omega) (by omega), fun v36 e36 => ⟨hin, fun F37 e37 v38 e38 => ?_⟩⟩⟩⟩⟩⟩⟩
    rw [e38, nI_1]
    rw [g14] at e32
    rw [e33, xw_upn (by decide), g14] at e34
    rw [e35, xw_upn (by decide), e33, xw_upn (by decide), g14] at e36
    have f1 : F37 1 = upd (F1 1) i v32 := by rw [e37, xw_upn (by decide), e35, xw_upn (by decide), e33, xw_ups]
    have f2 : F37 2 = upd (F1 2) i v34 := by rw [e37, xw_upn (by decide), e35, xw_ups, e33, xw_upn (by decide)]
    have f3 : F37 3 = upd (F1 3) i v36 := by rw [e37, xw_ups, e35, xw_upn (by decide), e33, xw_upn (by decide)]
    refine ih F37 ⟨fun j hj => by rw [e37, xw_upn (by omega), e35, xw_upn (by omega), e33, xw_upn (by omega)]; exact hV1 j hj, fun q hq => ?_⟩
    rw [f1, f2, f3, xb_updi, xb_updi, xb_updi]
    by_cases hqi : q = i
    · rw [if_pos hqi, if_pos hqi, if_pos hqi, e32, e34, e36, hqi]; exact ⟨rfl, rfl, rfl⟩
    · rw [if_neg hqi, if_neg hqi, if_neg hqi]; exact hV2 q (by omega)
  · intro F1 hV
    obtain ⟨hV1, hV2⟩ := hV
    apply r31
    unfold bd_X8_restore_31
    refine ⟨fun _ => ?_, fun z => absurd ((xn_le (a := 5) (b := 5) (by omega) (by omega)).mpr (by omega)) z⟩
    refine xl_up (fun i (F2 : xw_F) => k91 (nI (40 * n)) (nI i) J F2 L) 3 (fun i F2 => (∀ j, 7 ≤ j → F2 j = K j) ∧ (∀ q, q < 5 → F2 1 q = K 14 (40 * n + q) ∧ F2 2 q = K 14 (40 * n + 5 + q) ∧ F2 3 q = K 14 (40 * n + 10 + q)) ∧ ∀ q, q < i → F2 4 q = K 14 (40 * n + 15 + q) ∧ F2 5 q = K 14 (40 * n + 18 + q)) ?_ ?_ 0 F1 (by omega) ⟨hV1, hV2, fun q hq => by omega⟩
    · intro i F2 hi hW ih
      obtain ⟨hW1, hW2, hW3⟩ := hW
      have hin := vp_in_nI hi (show 3 < 2 ^ 31 by omega)
      have g14 : ∀ x, F2 14 x = K 14 x := fun x => congrFun (hW1 14 (by omega)) x
      apply r91
      unfold bd_X8_restore_91
      rw [l15, l18, nI_add, nI_add, nI_add, nI_add, nI_clamp (n := i) (by omega), nI_clamp (by omega), nI_clamp (by omega)]
      refine ⟨fun z => absurd ((xn_le (a := 3) (by omega) (by omega)).mp z) (by omega), fun _ => ⟨vp_in_nI (show _ < 80 by omega) (by omega), fun v40 e40 => ⟨hin, fun F41 e41 => ⟨vp_in_nI (show _ < 80 by omega) (by omega), fun v42 e42 => ⟨hin, fun F43 e43 v44 e44 => ?_⟩⟩⟩⟩⟩
      rw [e44, nI_1]
      rw [g14] at e40
      rw [e41, xw_upn (by decide), g14] at e42
      have f4 : F43 4 = upd (F2 4) i v40 := by rw [e43, xw_upn (by decide), e41, xw_ups]
      have f5 : F43 5 = upd (F2 5) i v42 := by rw [e43, xw_ups, e41, xw_upn (by decide)]
      have fo : ∀ j, j ≠ 4 → j ≠ 5 → F43 j = F2 j := fun j a b => by rw [e43, xw_upn b, e41, xw_upn a]
      refine ih F43 ⟨fun j hj => by rw [fo j (by omega) (by omega)]; exact hW1 j hj, fun q hq => by rw [fo 1 (by omega) (by omega), fo 2 (by omega) (by omega), fo 3 (by omega) (by omega)]; exact hW2 q hq, fun q hq => ?_⟩
      rw [f4, f5, xb_updi, xb_updi]
      by_cases hqi : q = i
      · rw [if_pos hqi, if_pos hqi, e40, e42, hqi]; exact ⟨rfl, rfl⟩
      · rw [if_neg hqi, if_neg hqi]; exact hW3 q (by omega)
    · intro F2 hW
      obtain ⟨hW1, hW2, hW3⟩ := hW
      apply r91
      unfold bd_X8_restore_91
      refine ⟨fun _ => ?_, fun z => absurd ((xn_le (a := 3) (b := 3) (by omega) (by omega)).mpr (by omega)) z⟩
      refine xl_up (fun i (F3 : xw_F) => k138 (nI (40 * n)) (nI i) J F3 L) 12 (fun i F3 => (∀ j, 7 ≤ j → F3 j = K j) ∧ (∀ q, q < 5 → F3 1 q = K 14 (40 * n + q) ∧ F3 2 q = K 14 (40 * n + 5 + q) ∧ F3 3 q = K 14 (40 * n + 10 + q)) ∧ (∀ q, q < 3 → F3 4 q = K 14 (40 * n + 15 + q) ∧ F3 5 q = K 14 (40 * n + 18 + q)) ∧ ∀ q, q < i → F3 6 q = K 14 (40 * n + 21 + q)) ?_ ?_ 0 F2 (by omega) ⟨hW1, hW2, hW3, fun q hq => by omega⟩
      · intro i F3 hi hY ih
        obtain ⟨hY1, hY2, hY3, hY4⟩ := hY
        have hin := vp_in_nI hi (show 12 < 2 ^ 31 by omega)
        have g14 : ∀ x, F3 14 x = K 14 x := fun x => congrFun (hY1 14 (by omega)) x
        apply r138
        unfold bd_X8_restore_138
        refine ⟨fun z => absurd ((xn_le (a := 12) (by omega) (by omega)).mp z) (by omega), fun _ => ?_⟩
        rw [l21, nI_add, nI_add, nI_clamp (n := i) (by omega), nI_clamp (by omega)]
        refine ⟨vp_in_nI (show _ < 80 by omega) (by omega), fun v52 e52 => ⟨hin, fun F53 e53 v54 e54 => ?_⟩⟩
        rw [e54, nI_1]
        rw [g14] at e52
        have fo : ∀ j, j ≠ 6 → F53 j = F3 j := fun j a => by rw [e53, xw_upn a]
        refine ih F53 ⟨fun j hj => by rw [fo j (by omega)]; exact hY1 j hj, fun q hq => by rw [fo 1 (by omega), fo 2 (by omega), fo 3 (by omega)]; exact hY2 q hq, fun q hq => by rw [fo 4 (by omega), fo 5 (by omega)]; exact hY3 q hq, fun q hq => ?_⟩
        rw [e53, xw_ups, xb_updi]
        by_cases hqi : q = i
        · rw [if_pos hqi, e52, hqi]
        · rw [if_neg hqi]; exact hY4 q (by omega)
      · intro F3 hY
        obtain ⟨hY1, hY2, hY3, hY4⟩ := hY
        have g14 : ∀ x, F3 14 x = K 14 x := fun x => congrFun (hY1 14 (by omega)) x
        apply r138
        unfold bd_X8_restore_138
        refine ⟨fun _ => ?_, fun z => absurd ((xn_le (a := 12) (b := 12) (by omega) (by omega)).mpr (by omega)) z⟩
        rw [l33, l34, l35, nI_add, nI_add, nI_add, nI_clamp (n := 40 * n + 33) (by omega), nI_clamp (n := 40 * n + 34) (by omega), nI_clamp (n := 40 * n + 35) (by omega)]
        refine ⟨vp_in_nI (show _ < 80 by omega) (by omega), fun v46 e46 I47 e47 => ⟨vp_in_nI (show _ < 80 by omega) (by omega), fun v48 e48 I49 e49 => ⟨vp_in_nI (show _ < 80 by omega) (by omega), fun v50 e50 I51 e51 => ?_⟩⟩⟩
        refine h I51 F3 (fun j hj => ?_) (fun j hj => ?_) hY2 hY3 hY4 hY1
        · obtain rfl | rfl | rfl : j = 0 ∨ j = 1 ∨ j = 2 := by omega
          · rw [e51, xw_upn (by decide), e49, xw_upn (by decide), e47, xw_ups, e46, g14]
          · rw [e51, xw_upn (by decide), e49, xw_ups, e48, g14]
          · rw [e51, xw_ups, e50, g14]
        · rw [e51, xw_upn (by omega), e49, xw_upn (by omega), e47, xw_upn (by omega)]
/-- the whole relation: class and reference, and their images -/
def xr_A (I : xw_I) (F : xw_F) (G : xw_G) (kp : Nat → Option (xw_I × xw_F)) (J : xw_I) (K : xw_F) : Prop := xr_R xc_Q I F G J K ∧ ∀ m, m < 2 → xk_R (kp m) m K
theorem xr_A.to {I I1 : xw_I} {F F1 : xw_F} {G G1 : xw_G} {kp : Nat → Option (xw_I × xw_F)} {J J1 : xw_I} {K K1 : xw_F} (h : xr_A I F G kp J K) (h1 : xr_R xc_Q I1 F1 G1 J1 K1) (h2 : xr_im K K1) : xr_A I1 F1 G1 kp J1 K1 := ⟨h1, fun m hm => (h.2 m hm).to h2⟩
theorem xq_image {n : Nat} (hn : n < 2) {I : xw_I} {F : xw_F} {G : xw_G} {kp : Nat → Option (xw_I × xw_F)} {J : xw_I} {K : xw_F} {L : xw_G} {i1 : xw_I} {r1 : xw_F} (h : xr_A I F G kp J K) (he : xi_eq (fun k => I (7 + k)) i1 (fun k => F (13 + k)) r1) : sm_X8_image (nI n) J K L (fun r2 J1 K1 _ => r2 = 1 ∧ xr_A I F G (xw_up kp n (some (i1, r1))) J1 K1) := by
  obtain ⟨⟨A, T, lk, c, sg, ⟨a1, a2, a3⟩, ⟨n1, n2, n3⟩, ⟨m1, m2, m3⟩, ⟨c1, c2, c3, c4⟩, g1, q1⟩, hk⟩ := h
  refine xs_mimage hn (fun K1 hj h15 h15o h14o hJ hA hB hC => ⟨rfl, ⟨A, T, lk, c, sg, ⟨a1, a2, a3⟩, ⟨n1, n2, n3⟩, ⟨m1.el a1 (fun _ _ => rfl) (fun j x y q hq => by rw [hj j (by omega) (by omega)]) (fun q hq => by rw [hj 4 (by omega) (by omega), hj 5 (by omega) (by omega)]; exact ⟨rfl, rfl⟩), m2, fun w hw => by rw [hj 6 (by omega) (by omega)]; exact m3 w hw⟩, ⟨c1, c2, c3, fun i hi => by rw [hj 7 (by omega) (by omega)]; exact c4 i hi⟩, g1, q1⟩, fun m hm => ?_⟩)
  by_cases hmn : m = n
  · subst hmn
    rw [xw_ups]
    refine ⟨h15, A, T, lk, ⟨a1, a2, a3⟩, xi_of a1 n1 n2 n3 he, m1.el a1 (fun j hj2 => hJ j (by omega)) (fun j x y q hq => ?_) (fun q hq => hB q hq), (hJ 2 (by omega)).trans m2, fun w hw => (hC w hw).trans (m3 w hw)⟩
    obtain rfl | rfl | rfl : j = 1 ∨ j = 2 ∨ j = 3 := by omega
    · exact (hA q hq).1
    · exact (hA q hq).2.1
    · exact (hA q hq).2.2
  · rw [xw_upn hmn]
    exact (hk m hm).far (h15o m hmn) (fun x x1 x2 => h14o x (by omega))
theorem xq_restore0 {n : Nat} (hn : n < 2) {I : xw_I} {F : xw_F} {G : xw_G} {kp : Nat → Option (xw_I × xw_F)} {J : xw_I} {K : xw_F} {L : xw_G} (h : xr_A I F G kp J K) (he : kp n = none) : sm_X8_restore (nI n) J K L (fun r2 J1 K1 _ => r2 = -3 ∧ xr_A I F G kp J1 K1) := by
  have h2 := h.2 n hn
  rw [he] at h2
  exact xs_mrestore hn (fun _ => ⟨rfl, h⟩) (fun hno => absurd h2 hno)
theorem xq_restore {n : Nat} (hn : n < 2) {I I1 : xw_I} {F F1 : xw_F} {G : xw_G} {kp : Nat → Option (xw_I × xw_F)} {J : xw_I} {K : xw_F} {L : xw_G} {i : xw_I} {r : xw_F} (h : xr_A I F G kp J K) (he : kp n = some (i, r)) (h0 : I1 0 = 1) (hi1 : I1 1 = I 1) (hf10 : F1 10 = F 10) (hx : xi_eq i (fun k => I1 (7 + k)) r (fun k => F1 (13 + k))) : sm_X8_restore (nI n) J K L (fun r2 J1 K1 _ => r2 = 1 ∧ xr_A I1 F1 G kp J1 K1) := by
  have h2 := h.2 n hn
  rw [he] at h2
  obtain ⟨h3, A, T, lk, ⟨a1, a2, a3⟩, h5, h6, h7, h8⟩ := h2
  obtain ⟨⟨_, _, _, c, sg, _, _, _, ⟨c1, c2, c3, c4⟩, g1, _⟩, hk⟩ := h
  refine xs_mrestore hn (fun hz => absurd (h3.symm.trans hz) (by decide)) (fun _ J1 K1 hJ hJo hA hB hC hKo => ⟨rfl, ⟨A, T, lk, c, sg, ⟨a1, a2, a3⟩, xi_to a1 h5 hx, ⟨h6.el a1 (fun j hj => hJ j (by omega)) (fun j x y q hq => ?_) (fun q hq => hB q hq), (hJ 2 (by omega)).trans h7, fun w hw => (hC w hw).trans (h8 w hw)⟩, ⟨c1, hi1.trans c2, (hJo 3 (by omega)).trans c3, fun i hi => by rw [hf10, hKo 7 (by omega)]; exact c4 i hi⟩, g1, fun hz => absurd (h0.symm.trans hz) (by decide)⟩, fun m hm => (hk m hm).to ⟨hKo 14 (by omega), hKo 15 (by omega)⟩⟩)
  obtain rfl | rfl | rfl : j = 1 ∨ j = 2 ∨ j = 3 := by omega
  · exact (hA q hq).1
  · exact (hA q hq).2.1
  · exact (hA q hq).2.2
theorem xq_imagex {x : Int32} {J : xw_I} {K : xw_F} {L : xw_G} {post : Int32 → xw_I → xw_F → xw_G → Prop} (hx : ∀ w, w ≤ 1 → x ≠ nI w) (h : post (-2) J K L) : sm_X8_image x J K L post := by
  intro k19 k79 k126 r19 r79 r126
  unfold bd_X8_image_0
  exact xs_inx (b := 1) (by omega) hx ⟨fun y => absurd rfl y, fun _ => h⟩
theorem xq_restorex {x : Int32} {J : xw_I} {K : xw_F} {L : xw_G} {post : Int32 → xw_I → xw_F → xw_G → Prop} (hx : ∀ w, w ≤ 1 → x ≠ nI w) (h : post (-2) J K L) : sm_X8_restore x J K L post := by
  intro k31 k91 k138 r31 r91 r138
  unfold bd_X8_restore_0
  exact xs_inx (b := 1) (by omega) hx ⟨fun y => absurd rfl y, fun _ => h⟩
/-- a new one of each -/
theorem xq_start : sm_X8_init x0_I x0_F x0_G (fun J K _ => xr_A xC_I0 x0_F x0_G (fun _ => none) J K) := by
  intro k117 k138 r117 r138
  unfold bd_X8_init_0
  refine xl_up (fun i (F1 : xw_F) => k117 (nI i) x0_I F1 x0_G) 5 (fun i F1 => (∀ q, q < i → F1 1 q = -6) ∧ ∀ j, j ≠ 1 → F1 j = x0_F j) ?_ ?_ 0 x0_F (by omega) ⟨fun q hq => by omega, fun _ _ => rfl⟩
  · intro i F1 hi hV ih
    obtain ⟨hV1, hV2⟩ := hV
    apply r117
    unfold bd_X8_init_117
    rw [nI_clamp (by omega)]
    refine ⟨fun z => absurd ((xn_le (a := 5) (by omega) (by omega)).mp z) (by omega), fun _ => ⟨vp_in_nI hi (by omega), fun F8 e8 v9 e9 => ?_⟩⟩
    rw [e9, nI_1]
    refine ih F8 ⟨fun q hq => ?_, fun j hj => by rw [e8, xw_upn hj]; exact hV2 j hj⟩
    rw [e8, xw_ups, xb_updi]
    by_cases hqi : q = i
    · rw [if_pos hqi]
    · rw [if_neg hqi]; exact hV1 q (by omega)
  · intro F1 hV
    obtain ⟨hV1, hV2⟩ := hV
    apply r117
    unfold bd_X8_init_117
    refine ⟨fun _ => ?_, fun z => absurd ((xn_le (a := 5) (b := 5) (by omega) (by omega)).mpr (by omega)) z⟩
    refine xl_up (fun i (F2 : xw_F) => k138 (nI i) x0_I F2 x0_G) 3 (fun i F2 => (∀ q, q < i → F2 4 q = -6) ∧ (∀ q, q < 5 → F2 1 q = -6) ∧ ∀ j, j ≠ 1 → j ≠ 4 → F2 j = x0_F j) ?_ ?_ 0 F1 (by omega) ⟨fun q hq => by omega, hV1, fun j a _ => hV2 j a⟩
    · intro i F2 hi hW ih
      obtain ⟨hW1, hW2, hW3⟩ := hW
      apply r138
      unfold bd_X8_init_138
      rw [nI_clamp (by omega)]
      refine ⟨fun z => absurd ((xn_le (a := 3) (by omega) (by omega)).mp z) (by omega), fun _ => ⟨vp_in_nI hi (by omega), fun F11 e11 v12 e12 => ?_⟩⟩
      rw [e12, nI_1]
      refine ih F11 ⟨fun q hq => ?_, fun q hq => by rw [e11, xw_upn (by decide)]; exact hW2 q hq, fun j a b => by rw [e11, xw_upn b]; exact hW3 j a b⟩
      rw [e11, xw_ups, xb_updi]
      by_cases hqi : q = i
      · rw [if_pos hqi]
      · rw [if_neg hqi]; exact hW1 q (by omega)
    · intro F2 hW
      obtain ⟨hW1, hW2, hW3⟩ := hW
      apply r138
      unfold bd_X8_init_138
      refine ⟨fun _ => ?_, fun z => absurd ((xn_le (a := 3) (b := 3) (by omega) (by omega)).mpr (by omega)) z⟩
      refine ⟨⟨xa_0, 0, fun _ => 0, 0, fun _ => 0, ⟨xa_ok0, by omega, fun w _ => ⟨Nat.zero_lt_one, fun _ => rfl⟩⟩, ⟨⟨rfl, rfl, rfl, rfl, fun p _ hb => ?_, fun m _ hb => ?_, fun i hi => ?_⟩, rfl, fun w _ => rfl⟩, ⟨⟨rfl, rfl, fun p _ hb => ?_, fun p hp _ => ⟨hW2 p hp, ?_⟩, fun m _ hb => ?_, fun m hm _ => hW1 m hm, fun i hi => ?_⟩, rfl, fun w _ => ?_⟩, ⟨by omega, rfl, rfl, fun i hi => by omega⟩, fun i _ => rfl, fun hz => absurd hz (by decide)⟩, fun m hm => ?_⟩
      · rw [Nat.zero_testBit] at hb; exact absurd hb (by decide)
      · rw [Nat.zero_testBit] at hb; exact absurd hb (by decide)
      · exact absurd hi (by omega)
      · rw [Nat.zero_testBit] at hb; exact absurd hb (by decide)
      · rw [hW3 3 (by omega) (by omega)]; rfl
      · rw [Nat.zero_testBit] at hb; exact absurd hb (by decide)
      · exact absurd hi (by omega)
      · rw [hW3 6 (by omega) (by omega)]; rfl
      · show F2 15 m = 0
        rw [hW3 15 (by omega) (by omega)]; rfl
