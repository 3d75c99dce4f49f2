/-! ===== images, and the start: pure ===== -/
/-- one Sentences by itself: six ints, eight rows -/
def xi_N (i : xw_I) (r : xw_F) (A : xa_R) (T : Nat) (lk : Nat → Nat) : Prop := xe_N (fun j => i (j - 7)) (fun j => r (j - 13)) A ∧ i 5 = nI T ∧ ∀ w, w < 12 → r 7 w = nI (lk w)
def xi_eq (i i1 : xw_I) (r r1 : xw_F) : Prop := (∀ k, k < 6 → i1 k = i k) ∧ (∀ k, k < 4 → ∀ q, q < 5 → r1 k q = r k q) ∧ (∀ q, q < 3 → r1 4 q = r 4 q ∧ r1 5 q = r 5 q) ∧ ∀ q, q < 12 → r1 7 q = r 7 q
theorem xe_N.el {I I1 : xw_I} {F F1 : xw_F} {A : xa_R} (hok : xa_ok A) (h : xe_N I F A) (hi : ∀ j, 7 ≤ j → j ≤ 10 → I1 j = I j) (hf : ∀ j, 13 ≤ j → j ≤ 16 → ∀ q, q < 5 → F1 j q = F j q) (hm : ∀ q, q < 3 → F1 17 q = F 17 q ∧ F1 18 q = F 18 q) : xe_N I1 F1 A := by
  obtain ⟨n, ps, mb, mc, oc, op, cl, hd, hb, mg, mr, st, rk⟩ := A
  obtain ⟨h1, h2, h3, h4, h5, h6, h7⟩ := h
  have hmc := xa_mc3 hok.2.2.1 hok.2.2.2.1
  refine ⟨?_, ?_, ?_, ?_, ?_, ?_, ?_⟩
  · rw [hi 7 (by omega) (by omega)]; exact h1
  · rw [hi 8 (by omega) (by omega)]; exact h2
  · rw [hi 9 (by omega) (by omega)]; exact h3
  · rw [hi 10 (by omega) (by omega)]; exact h4
  · intro p hp hb; rw [hf 13 (by omega) (by omega) p hp, hf 14 (by omega) (by omega) p hp, hf 15 (by omega) (by omega) p hp, hf 16 (by omega) (by omega) p hp]; exact h5 p hp hb
  · intro m hm2 hb; rw [(hm m hm2).1]; exact h6 m hm2 hb
  · intro i hi2; rw [(hm i (by omega)).2]; exact h7 i hi2
theorem xe_M.el {I I1 : xw_I} {F F1 : xw_F} {A : xa_R} (hok : xa_ok A) (h : xe_M I F A) (hi : ∀ j, j < 2 → I1 j = I j) (hf : ∀ j, 1 ≤ j → j ≤ 3 → ∀ q, q < 5 → F1 j q = F j q) (hm : ∀ q, q < 3 → F1 4 q = F 4 q ∧ F1 5 q = F 5 q) : xe_M I1 F1 A := by
  obtain ⟨n, ps, mb, mc, oc, op, cl, hd, hb, mg, mr, st, rk⟩ := A
  obtain ⟨h1, h2, h3, h4, h5, h6, h7⟩ := h
  have hmc := xa_mc3 hok.2.2.1 hok.2.2.2.1
  refine ⟨?_, ?_, ?_, ?_, ?_, ?_, ?_⟩
  · rw [hi 0 (by omega)]; exact h1
  · rw [hi 1 (by omega)]; exact h2
  · intro p hp hb; rw [hf 1 (by omega) (by omega) p hp, hf 2 (by omega) (by omega) p hp, hf 3 (by omega) (by omega) p hp]; exact h3 p hp hb
  · intro p hp hb; rw [hf 1 (by omega) (by omega) p hp, hf 3 (by omega) (by omega) p hp]; exact h4 p hp hb
  · intro m hm2 hb; rw [(hm m hm2).1]; exact h5 m hm2 hb
  · intro m hm2 hb; rw [(hm m hm2).1]; exact h6 m hm2 hb
  · intro i hi2; rw [(hm i (by omega)).2]; exact h7 i hi2
theorem xi_of {I : xw_I} {F : xw_F} {i : xw_I} {r : xw_F} {A : xa_R} {T : Nat} {lk : Nat → Nat} (hok : xa_ok A) (h : xe_N I F A) (hT : I 12 = nI T) (hl : ∀ w, w < 12 → F 20 w = nI (lk w)) (he : xi_eq (fun k => I (7 + k)) i (fun k => F (13 + k)) r) : xi_N i r A T lk := by
  obtain ⟨e1, e2, e3, e4⟩ := he
  refine ⟨h.el hok (fun j a b => ?_) (fun j a b q hq => ?_) (fun q hq => ?_), ?_, fun w hw => ?_⟩
  · rw [e1 (j - 7) (by omega)]; show I (7 + (j - 7)) = I j; rw [show 7 + (j - 7) = j by omega]
  · rw [e2 (j - 13) (by omega) q hq]; show F (13 + (j - 13)) q = F j q; rw [show 13 + (j - 13) = j by omega]
  · exact e3 q hq
  · rw [e1 5 (by omega)]; exact hT
  · rw [e4 w hw]; exact hl w hw
theorem xi_to {I : xw_I} {F : xw_F} {i : xw_I} {r : xw_F} {A : xa_R} {T : Nat} {lk : Nat → Nat} (hok : xa_ok A) (h : xi_N i r A T lk) (he : xi_eq i (fun k => I (7 + k)) r (fun k => F (13 + k))) : xe_N I F A ∧ I 12 = nI T ∧ ∀ w, w < 12 → F 20 w = nI (lk w) := by
  obtain ⟨e1, e2, e3, e4⟩ := he
  obtain ⟨h1, h2, h3⟩ := h
  refine ⟨h1.el hok (fun j a b => ?_) (fun j a b q hq => ?_) (fun q hq => ?_), ?_, fun w hw => ?_⟩
  · have := e1 (j - 7) (by omega); dsimp only at this; rw [show 7 + (j - 7) = j by omega] at this; exact this
  · have := e2 (j - 13) (by omega) q hq; dsimp only at this; rw [show 13 + (j - 13) = j by omega] at this; exact this
  · exact e3 q hq
  · have := e1 5 (by omega); exact this.trans h2
  · have := e4 w hw; exact this.trans (h3 w hw)
theorem xs_copyT {I : xw_I} {F : xw_F} {G : xw_G} {post : xw_I → xw_F → xw_G → Prop} (h : ∀ I1 F1, xi_eq (fun k => I (6 + k)) I1 (fun k => F (12 + k)) (fun k => F1 (2 + k)) → (∀ j, 6 ≤ j → I1 j = I j) → (∀ j, 10 ≤ j → F1 j = F j) → post I1 F1 G) : sm_X3_copyT I F G post := by
  intro k21 r21
  unfold bd_X3_copyT_0
  intro k42 k115 r42 r115 I19 e19 I20 e20 I21 e21 I22 e22 I23 e23
  have hI : ∀ j, I23 j = if j < 5 then I (6 + j) else I j := by
    intro j
    subst e19 e20 e21 e22 e23
    simp only [xw_upi]
    by_cases h0 : j = 4
    · subst h0; simp
    by_cases h1 : j = 3
    · subst h1; simp
    by_cases h2 : j = 2
    · subst h2; simp
    by_cases h3 : j = 1
    · subst h3; simp
    by_cases h4 : j = 0
    · subst h4; simp
    rw [if_neg h0, if_neg h1, if_neg h2, if_neg h3, if_neg h4, if_neg (by omega)]
  clear e19 e20 e21 e22 e23
  refine xl_up (fun i (F1 : xw_F) => k42 (nI i) I23 F1 G) 5 (fun i F1 => (∀ q, q < i → F1 2 q = F 12 q ∧ F1 3 q = F 13 q ∧ F1 4 q = F 14 q ∧ F1 5 q = F 15 q) ∧ ∀ j, 10 ≤ j → F1 j = F j) ?_ ?_ 0 F (by omega) ⟨fun q hq => by omega, fun _ _ => rfl⟩
  · intro i F1 hi hV ih
    obtain ⟨hV1, hV2⟩ := hV
    have hin := vp_in_nI hi (show 5 < 2 ^ 31 by omega)
    apply r42
    unfold bd_X4_copyT_42
    rw [nI_clamp (by omega)]
    refine ⟨fun z => absurd ((xn_le (a := 5) (by omega) (by omega)).mp z) (by omega), fun _ => ⟨hin, fun v25 e25 => ⟨hin, fun F26 e26 => ⟨hin, fun v27 e27 => ⟨hin, fun F28 e28 => ⟨hin, fun v29 e29 => ⟨hin, fun F30 e30 => ⟨hin, fun v31 e31 => ⟨hin, fun F32 e32 => ⟨hin, fun v33 e33 => ⟨hin, fun F34 e34 v35 e35 => ?_⟩⟩⟩⟩⟩⟩⟩⟩⟩⟩⟩
    rw [e35, nI_1]
    have g12 := congrFun (hV2 12 (by omega)) i
    have g13 := congrFun (hV2 13 (by omega)) i
    have g14 := congrFun (hV2 14 (by omega)) i
    have g15 := congrFun (hV2 15 (by omega)) i
    subst e26
    rw [xw_upn (by decide)] at e27
    subst e28
    rw [xw_upn (by decide), xw_upn (by decide)] at e29
    subst e30
    rw [xw_upn (by decide), xw_upn (by decide), xw_upn (by decide)] at e31
    subst e32
    refine ih F34 ⟨fun q hq => ?_, fun j hj => ?_⟩
    · subst e34
      simp only [xw_upi, xb_updi, Nat.reduceEqDiff, ↓reduceIte]
      by_cases hqi : q = i
      · rw [if_pos hqi, if_pos hqi, if_pos hqi, if_pos hqi, e25, e27, e29, e31, hqi]
        exact ⟨g12, g13, g14, g15⟩
      · rw [if_neg hqi, if_neg hqi, if_neg hqi, if_neg hqi]
        exact hV1 q (by omega)
    · subst e34
      rw [xw_upn (by omega), xw_upn (by omega), xw_upn (by omega), xw_upn (by omega), xw_upn (by omega)]
      exact hV2 j hj
  · intro F1 hV
    obtain ⟨hV1, hV2⟩ := hV
    apply r42
    unfold bd_X4_copyT_42
    refine ⟨fun _ => ?_, fun z => absurd ((xn_le (a := 5) (b := 5) (by omega) (by omega)).mpr (by omega)) z⟩
    refine xl_up (fun i (F2 : xw_F) => k115 (nI i) I23 F2 G) 3 (fun i F2 => (∀ q, q < i → F2 6 q = F 16 q ∧ F2 7 q = F 17 q) ∧ (∀ q, q < 5 → F2 2 q = F 12 q ∧ F2 3 q = F 13 q ∧ F2 4 q = F 14 q ∧ F2 5 q = F 15 q) ∧ ∀ j, 10 ≤ j → F2 j = F j) ?_ ?_ 0 F1 (by omega) ⟨fun q hq => by omega, hV1, hV2⟩
    · intro i F2 hi hW ih
      obtain ⟨hW1, hW2, hW3⟩ := hW
      have hin := vp_in_nI hi (show 3 < 2 ^ 31 by omega)
      apply r115
      unfold bd_X4_copyT_115
      rw [nI_clamp (by omega)]
      refine ⟨fun z => absurd ((xn_le (a := 3) (by omega) (by omega)).mp z) (by omega), fun _ => ⟨hin, fun v37 e37 => ⟨hin, fun F38 e38 => ⟨hin, fun v39 e39 => ⟨hin, fun F40 e40 v41 e41 => ?_⟩⟩⟩⟩⟩
      rw [e41, nI_1]
      have g16 := congrFun (hW3 16 (by omega)) i
      have g17 := congrFun (hW3 17 (by omega)) i
      subst e38
      rw [xw_upn (by decide)] at e39
      subst e40
      refine ih _ ⟨fun q hq => ?_, fun q hq => ?_, fun j hj => ?_⟩
      · rw [xw_upn (by decide), xw_ups, xw_ups, xw_upn (by decide), xb_updi, xb_updi]
        by_cases hqi : q = i
        · rw [if_pos hqi, if_pos hqi, e37, e39, hqi]
          exact ⟨g16, g17⟩
        · rw [if_neg hqi, if_neg hqi]
          exact hW1 q (by omega)
      · rw [xw_upn (by decide), xw_upn (by decide), xw_upn (by decide), xw_upn (by decide), xw_upn (by decide), xw_upn (by decide), xw_upn (by decide), xw_upn (by decide)]
        exact hW2 q hq
      · rw [xw_upn (by omega), xw_upn (by omega)]
        exact hW3 j hj
    · intro F2 hW
      obtain ⟨hW1, hW2, hW3⟩ := hW
      apply r115
      unfold bd_X4_copyT_115
      refine ⟨fun _ I6 e6 => ?_, fun z => absurd ((xn_le (a := 3) (b := 3) (by omega) (by omega)).mpr (by omega)) z⟩
      have hI6 : ∀ j, I6 j = if j < 6 then I (6 + j) else I j := by
        intro j
        rw [e6, xw_upi, hI, hI]
        by_cases h5 : j = 5
        · subst h5; rw [if_pos rfl, if_neg (by omega), if_pos (by omega)]
        · rw [if_neg h5]
          by_cases h6 : j < 5
          · rw [if_pos h6, if_pos (by omega)]
          · rw [if_neg h6, if_neg (by omega)]
      refine xl_up (fun i (F3 : xw_F) => k21 (nI i) I6 F3 G) 12 (fun i F3 => (∀ q, q < i → F3 9 q = F 19 q) ∧ (∀ q, q < 3 → F3 6 q = F 16 q ∧ F3 7 q = F 17 q) ∧ (∀ q, q < 5 → F3 2 q = F 12 q ∧ F3 3 q = F 13 q ∧ F3 4 q = F 14 q ∧ F3 5 q = F 15 q) ∧ ∀ j, 10 ≤ j → F3 j = F j) ?_ ?_ 0 F2 (by omega) ⟨fun q hq => by omega, hW1, hW2, hW3⟩
      · intro i F3 hi hY ih
        obtain ⟨hY1, hY2, hY3, hY4⟩ := hY
        have hin := vp_in_nI hi (show 12 < 2 ^ 31 by omega)
        apply r21
        unfold bd_X3_copyT_21
        rw [nI_clamp (by omega)]
        refine ⟨fun z => absurd ((xn_le (a := 12) (by omega) (by omega)).mp z) (by omega), fun _ => ⟨hin, fun v8 e8 => ⟨hin, fun F9 e9 v10 e10 => ?_⟩⟩⟩
        rw [e10, nI_1]
        have g19 := congrFun (hY4 19 (by omega)) i
        subst e9
        refine ih _ ⟨fun q hq => ?_, fun q hq => ?_, fun q hq => ?_, fun j hj => ?_⟩
        · rw [xw_ups, xb_updi]
          by_cases hqi : q = i
          · rw [if_pos hqi, e8, hqi]; exact g19
          · rw [if_neg hqi]; exact hY1 q (by omega)
        · rw [xw_upn (by decide), xw_upn (by decide)]; exact hY2 q hq
        · rw [xw_upn (by decide), xw_upn (by decide), xw_upn (by decide), xw_upn (by decide)]; exact hY3 q hq
        · rw [xw_upn (by omega)]; exact hY4 j hj
      · intro F3 hY
        obtain ⟨hY1, hY2, hY3, hY4⟩ := hY
        apply r21
        unfold bd_X3_copyT_21
        refine ⟨fun _ => h I6 F3 ⟨fun k hk => by rw [hI6, if_pos hk], fun k hk q hq => ?_, fun q hq => hY2 q hq, fun q hq => hY1 q hq⟩ (fun j hj => by rw [hI6, if_neg (by omega)]) hY4, fun z => absurd ((xn_le (a := 12) (b := 12) (by omega) (by omega)).mpr (by omega)) z⟩
        obtain ⟨y1, y2, y3, y4⟩ := hY3 q hq
        obtain rfl | rfl | rfl | rfl : k = 0 ∨ k = 1 ∨ k = 2 ∨ k = 3 := by omega
        · exact y1
        · exact y2
        · exact y3
        · exact y4
/-- where the reference keeps -/
def xj_o (j : Nat) : Nat := if j = 1 then 0 else if j = 2 then 5 else if j = 3 then 10 else if j = 4 then 15 else if j = 5 then 18 else 21
def xj_I (n : Nat) (k : Nat → Int32) : xw_I := fun j => k (40 * n + 33 + j)
def xj_F (n : Nat) (k : Nat → Int32) : xw_F := fun j q => k (40 * n + xj_o j + q)
def xk_R (kp : Option (xw_I × xw_F)) (n : Nat) (K : xw_F) : Prop := match kp with
  | none => K 15 n = 0
  | some u => K 15 n = 1 ∧ ∃ (A : xa_R) (T : Nat) (lk : Nat → Nat), (xa_ok A ∧ T ≤ 8 ∧ xl_ok (xa_n A) T lk) ∧ xi_N u.1 u.2 A T lk ∧ xe_M (xj_I n (K 14)) (xj_F n (K 14)) A ∧ xj_I n (K 14) 2 = nI T ∧ ∀ w, w < 12 → xj_F n (K 14) 6 w = nI (lk w)
theorem xk_R.to {kp : Option (xw_I × xw_F)} {n : Nat} {K K1 : xw_F} (h : xk_R kp n K) (h2 : xr_im K K1) : xk_R kp n K1 := by
  unfold xk_R at h ⊢
  rw [h2.1, h2.2]; exact h
theorem xk_R.far {kp : Option (xw_I × xw_F)} {n : Nat} {K K1 : xw_F} (h : xk_R kp n K) (h1 : K1 15 n = K 15 n) (h2 : ∀ x, 40 * n ≤ x → x < 40 * n + 36 → K1 14 x = K 14 x) : xk_R kp n K1 := by
  unfold xk_R at h ⊢
  cases kp with
  | none => exact h1.trans h
  | some u =>
    obtain ⟨h3, A, T, lk, h4, h5, h6, h7, h8⟩ := h
    refine ⟨h1.trans h3, A, T, lk, h4, h5, h6.el h4.1 (fun j hj => h2 _ (by omega) (by omega)) (fun j a b q hq => ?_) (fun q hq => ⟨?_, ?_⟩), (h2 _ (by omega) (by omega)).trans h7, fun w hw => ?_⟩
    · obtain rfl | rfl | rfl : j = 1 ∨ j = 2 ∨ j = 3 := by omega
      · exact h2 _ (by show 40 * n ≤ 40 * n + 0 + q; omega) (by show 40 * n + 0 + q < _; omega)
      · exact h2 _ (by show 40 * n ≤ 40 * n + 5 + q; omega) (by show 40 * n + 5 + q < _; omega)
      · exact h2 _ (by show 40 * n ≤ 40 * n + 10 + q; omega) (by show 40 * n + 10 + q < _; omega)
    · exact h2 _ (by show 40 * n ≤ 40 * n + 15 + q; omega) (by show 40 * n + 15 + q < _; omega)
    · exact h2 _ (by show 40 * n ≤ 40 * n + 18 + q; omega) (by show 40 * n + 18 + q < _; omega)
    · exact (h2 _ (by show 40 * n ≤ 40 * n + 21 + w; omega) (by show 40 * n + 21 + w < _; omega)).trans (h8 w hw)
theorem xn_40 (n : Nat) : (40 : Int32) * nI n = nI (40 * n) := by rw [show (40 : Int32) = nI 40 from rfl, xn_mul]
theorem xn_at2 (a b : Nat) : nI a + nI b = nI (a + b) := nI_add a b
theorem xs_mimage {n : Nat} {J : xw_I} {K : xw_F} {L : xw_G} {post : Int32 → xw_I → xw_F → xw_G → Prop} (hn : n < 2)
    (h : ∀ K1 : xw_F, (∀ j, j ≠ 14 → j ≠ 15 → K1 j = K j) → K1 15 n = 1 → (∀ q, q ≠ n → K1 15 q = K 15 q) → (∀ x, x < 40 * n ∨ 40 * n + 36 ≤ x → K1 14 x = K 14 x) → (∀ j, j < 3 → K1 14 (40 * n + 33 + j) = J j) → (∀ q, q < 5 → K1 14 (40 * n + q) = K 1 q ∧ K1 14 (40 * n + 5 + q) = K 2 q ∧ K1 14 (40 * n + 10 + q) = K 3 q) → (∀ q, q < 3 → K1 14 (40 * n + 15 + q) = K 4 q ∧ K1 14 (40 * n + 18 + q) = K 5 q) → (∀ q, q < 12 → K1 14 (40 * n + 21 + q) = K 6 q) → post 1 J K1 L) : sm_X8_image (nI n) J K L post := by
  intro k19 k79 k126 r19 r79 r126
  unfold bd_X8_image_0
  refine xs_in (a := 0) (b := 1) (by omega) (by omega) (by omega) (fun _ _ => ⟨fun _ v27 e27 => ?_, fun y => absurd y (by decide)⟩) (fun y => absurd ⟨by omega, by omega⟩ y)
  rw [xn_40] at e27
  rw [e27]
  have l5 : (5 : Int32) = nI 5 := rfl
  have l10 : (10 : Int32) = nI 10 := rfl
  have l15 : (15 : Int32) = nI 15 := rfl
  have l18 : (18 : Int32) = nI 18 := rfl
  have l21 : (21 : Int32) = nI 21 := rfl
  have l33 : (33 : Int32) = nI 33 := rfl
  have l34 : (34 : Int32) = nI 34 := rfl
  have l35 : (35 : Int32) = nI 35 := rfl
  refine xl_up (fun i (F1 : xw_F) => k19 (nI (40 * n)) (nI i) J F1 L) 5 (fun i F1 => (∀ j, j ≠ 14 → F1 j = K j) ∧ (∀ x, x < 40 * n ∨ 40 * n + 36 ≤ x → F1 14 x = K 14 x) ∧ ∀ q, q < i → F1 14 (40 * n + q) = K 1 q ∧ F1 14 (40 * n + 5 + q) = K 2 q ∧ F1 14 (40 * n + 10 + q) = K 3 q) ?_ ?_ 0 K (by omega) ⟨fun _ _ => rfl, fun _ _ => rfl, fun q hq => by omega⟩
  · intro i F1 hi hV ih
    obtain ⟨hV1, hV2, hV3⟩ := hV
    have hin := vp_in_nI hi (show 5 < 2 ^ 31 by omega)
    apply r19
    unfold bd_X8_image_19
    rw [l5, l10, nI_add, nI_add, nI_add, nI_add, nI_add, nI_clamp (n := i) (by omega), nI_clamp (by omega), nI_clamp (by omega), nI_clamp (by omega)]
    refine ⟨fun z => absurd ((xn_le (a := 5) (by omega) (by omega)).mp z) (by omega), fun _ => ⟨hin, fun v29 e29 => ⟨vp_in_nI (show _ < 80 by omega) (by omega), fun F30 e30 => ⟨hin, fun v31 e31 => ⟨vp_in_nI (show _ < 80 by omega) (by omega), fun F32 e32 => ⟨hin, fun v33 e33 => ⟨vp_in_nI (show _ < 80 by omega) (by omega), fun F34 e34 v35 e35 => ?_⟩⟩⟩⟩⟩⟩⟩
    rw [e35, nI_1]
    rw [e30, xw_upn (by decide), congrFun (hV1 2 (by decide)) i] at e31
    rw [e32, xw_upn (by decide), e30, xw_upn (by decide), congrFun (hV1 3 (by decide)) i] at e33
    rw [congrFun (hV1 1 (by decide)) i] at e29
    have hx : ∀ x, F34 14 x = if x = 40 * n + 10 + i then K 3 i else if x = 40 * n + 5 + i then K 2 i else if x = 40 * n + i then K 1 i else F1 14 x := by
      intro x
      rw [e34, xw_ups, xb_updi, e32, xw_ups, xb_updi, e30, xw_ups, xb_updi, e33, e31, e29]
    refine ih F34 ⟨fun j hj => by rw [e34, xw_upn hj, e32, xw_upn hj, e30, xw_upn hj]; exact hV1 j hj, fun x hxx => ?_, fun q hq => ?_⟩
    · rw [hx, if_neg (by omega), if_neg (by omega), if_neg (by omega)]; exact hV2 x hxx
    · rw [hx, hx, hx]
      by_cases hqi : q = i
      · subst hqi
        rw [if_neg (by omega), if_neg (by omega), if_pos rfl, if_neg (by omega), if_pos rfl, if_pos rfl]
        exact ⟨rfl, rfl, rfl⟩
      · rw [if_neg (by omega), if_neg (by omega), if_neg (by omega), if_neg (by omega), if_neg (by omega), if_neg (by omega), if_neg (by omega), if_neg (by omega), if_neg (by omega)]
        exact hV3 q (by omega)
  · intro F1 hV
    obtain ⟨hV1, hV2, hV3⟩ := hV
    apply r19
    unfold bd_X8_image_19
    refine ⟨fun _ => ?_, fun z => absurd ((xn_le (a := 5) (b := 5) (by omega) (by omega)).mpr (by omega)) z⟩
    refine xl_up (fun i (F1 : xw_F) => k79 (nI (40 * n)) (nI i) J F1 L) 3 (fun i F1 => (∀ j, j ≠ 14 → F1 j = K j) ∧ (∀ x, x < 40 * n ∨ 40 * n + 36 ≤ x → F1 14 x = K 14 x) ∧ (∀ q, q < 5 → F1 14 (40 * n + q) = K 1 q ∧ F1 14 (40 * n + 5 + q) = K 2 q ∧ F1 14 (40 * n + 10 + q) = K 3 q) ∧ ∀ q, q < i → F1 14 (40 * n + 15 + q) = K 4 q ∧ F1 14 (40 * n + 18 + q) = K 5 q) ?_ ?_ 0 F1 (by omega) ⟨hV1, hV2, hV3, fun q hq => by omega⟩
    · intro i F1 hi hV ih
      obtain ⟨hV1, hV2, hV3, hV4⟩ := hV
      have hin := vp_in_nI hi (show 3 < 2 ^ 31 by omega)
      apply r79
      unfold bd_X8_image_79
      rw [l15, l18, nI_add, nI_add, nI_add, nI_add, nI_clamp (n := i) (by omega), nI_clamp (by omega), nI_clamp (by omega)]
      refine ⟨fun z => absurd ((xn_le (a := 3) (by omega) (by omega)).mp z) (by omega), fun _ => ⟨hin, fun v37 e37 => ⟨vp_in_nI (show _ < 80 by omega) (by omega), fun F38 e38 => ⟨hin, fun v39 e39 => ⟨vp_in_nI (show _ < 80 by omega) (by omega), fun F40 e40 v41 e41 => ?_⟩⟩⟩⟩⟩
      rw [e41, nI_1]
      rw [e38, xw_upn (by decide), congrFun (hV1 5 (by decide)) i] at e39
      rw [congrFun (hV1 4 (by decide)) i] at e37
      have hx : ∀ x, F40 14 x = if x = 40 * n + 18 + i then K 5 i else if x = 40 * n + 15 + i then K 4 i else F1 14 x := by
        intro x
        rw [e40, xw_ups, xb_updi, e38, xw_ups, xb_updi, e39, e37]
      refine ih F40 ⟨fun j hj => by rw [e40, xw_upn hj, e38, xw_upn hj]; exact hV1 j hj, fun x hxx => ?_, fun q hq => ?_, fun q hq => ?_⟩
      · rw [hx, if_neg (by omega), if_neg (by omega)]; exact hV2 x hxx
      · rw [hx, hx, hx, if_neg (by omega), if_neg (by omega), if_neg (by omega), if_neg (by omega), if_neg (by omega), if_neg (by omega)]
        exact hV3 q hq
      · rw [hx, hx]
        by_cases hqi : q = i
        · subst hqi
          rw [if_neg (by omega), if_pos rfl, if_pos rfl]
          exact ⟨rfl, rfl⟩
        · rw [if_neg (by omega), if_neg (by omega), if_neg (by omega), if_neg (by omega)]
          exact hV4 q (by omega)
    · intro F1 hV
      obtain ⟨hV1, hV2, hV3, hV4⟩ := hV
      apply r79
      unfold bd_X8_image_79
      refine ⟨fun _ => ?_, fun z => absurd ((xn_le (a := 3) (b := 3) (by omega) (by omega)).mpr (by omega)) z⟩
      refine xl_up (fun i (F1 : xw_F) => k126 (nI (40 * n)) (nI i) J F1 L) 12 (fun i F1 => (∀ j, j ≠ 14 → F1 j = K j) ∧ (∀ x, x < 40 * n ∨ 40 * n + 36 ≤ x → F1 14 x = K 14 x) ∧ (∀ q, q < 5 → F1 14 (40 * n + q) = K 1 q ∧ F1 14 (40 * n + 5 + q) = K 2 q ∧ F1 14 (40 * n + 10 + q) = K 3 q) ∧ (∀ q, q < 3 → F1 14 (40 * n + 15 + q) = K 4 q ∧ F1 14 (40 * n + 18 + q) = K 5 q) ∧ ∀ q, q < i → F1 14 (40 * n + 21 + q) = K 6 q) ?_ ?_ 0 F1 (by omega) ⟨hV1, hV2, hV3, hV4, fun q hq => by omega⟩
      · intro i F1 hi hV ih
        obtain ⟨hV1, hV2, hV3, hV4, hV5⟩ := hV
        have hin := vp_in_nI hi (show 12 < 2 ^ 31 by omega)
        apply r126
        unfold bd_X8_image_126
        refine ⟨fun z => absurd ((xn_le (a := 12) (by omega) (by omega)).mp z) (by omega), fun _ => ⟨hin, fun v47 e47 => ?_⟩⟩
        rw [l21, nI_add, nI_add, nI_clamp (by omega)]
        rw [nI_clamp (by omega), congrFun (hV1 6 (by decide)) i] at e47
        refine ⟨vp_in_nI (show _ < 80 by omega) (by omega), fun F48 e48 v49 e49 => ?_⟩
        rw [e49, nI_1]
        have hx : ∀ x, F48 14 x = if x = 40 * n + 21 + i then K 6 i else F1 14 x := by
          intro x
          rw [e48, xw_ups, xb_updi, e47]
        refine ih F48 ⟨fun j hj => by rw [e48, xw_upn hj]; exact hV1 j hj, fun x hxx => ?_, fun q hq => ?_, fun q hq => ?_, fun q hq => ?_⟩
        · rw [hx, if_neg (by omega)]; exact hV2 x hxx
        · rw [hx, hx, hx, if_neg (by omega), if_neg (by omega), if_neg (by omega)]; exact hV3 q hq
        · rw [hx, hx, if_neg (by omega), if_neg (by omega)]; exact hV4 q hq
        · rw [hx]
          by_cases hqi : q = i
          · subst hqi; rw [if_pos rfl]
          · rw [if_neg (by omega)]; exact hV5 q (by omega)
      · intro F1 hV
        obtain ⟨hV1, hV2, hV3, hV4, hV5⟩ := hV
        apply r126
        unfold bd_X8_image_126
        refine ⟨fun _ => ?_, fun z => absurd ((xn_le (a := 12) (b := 12) (by omega) (by omega)).mpr (by omega)) z⟩
        rw [l33, l34, l35, nI_add, nI_add, nI_add, nI_clamp (n := 40 * n + 33) (by omega), nI_clamp (n := 40 * n + 34) (by omega), nI_clamp (n := 40 * n + 35) (by omega), nI_clamp (n := n) (by omega)]
        refine ⟨vp_in_nI (show _ < 80 by omega) (by omega), fun F43 e43 => ⟨vp_in_nI (show _ < 80 by omega) (by omega), fun F44 e44 => ⟨vp_in_nI (show _ < 80 by omega) (by omega), fun F45 e45 => ⟨vp_in_nI hn (by omega), fun F46 e46 => ?_⟩⟩⟩⟩
        have hx : ∀ x, F46 14 x = if x = 40 * n + 35 then J 2 else if x = 40 * n + 34 then J 1 else if x = 40 * n + 33 then J 0 else F1 14 x := by
          intro x
          rw [e46, xw_upn (by decide), e45, xw_ups, xb_updi, e44, xw_ups, xb_updi, e43, xw_ups, xb_updi]
        have h15 : ∀ q, F46 15 q = if q = n then 1 else K 15 q := by
          intro q
          rw [e46, xw_ups, xb_updi, e45, xw_upn (by decide), e44, xw_upn (by decide), e43, xw_upn (by decide), hV1 15 (by decide)]
        refine h F46 (fun j a b => by rw [e46, xw_upn b, e45, xw_upn a, e44, xw_upn a, e43, xw_upn a]; exact hV1 j a) (by rw [h15, if_pos rfl]) (fun q hq => by rw [h15, if_neg hq]) (fun x hxx => by rw [hx, if_neg (by omega), if_neg (by omega), if_neg (by omega)]; exact hV2 x hxx) (fun j hj => ?_) (fun q hq => ?_) (fun q hq => ?_) (fun q hq => ?_)
        · obtain rfl | rfl | rfl : j = 0 ∨ j = 1 ∨ j = 2 := by omega
          · rw [hx, if_neg (by omega), if_neg (by omega), if_pos (by omega)]
          · rw [hx, if_neg (by omega), if_pos (by omega)]
          · rw [hx, if_pos (by omega)]
        · rw [hx, hx, hx, if_neg (by omega), if_neg (by omega), if_neg (by omega), if_neg (by omega), if_neg (by omega), if_neg (by omega), if_neg (by omega), if_neg (by omega), if_neg (by omega)]; exact hV3 q hq
        · rw [hx, hx, if_neg (by omega), if_neg (by omega), if_neg (by omega), if_neg (by omega), if_neg (by omega), if_neg (by omega)]; exact hV4 q hq
        · rw [hx, if_neg (by omega), if_neg (by omega), if_neg (by omega)]; exact hV5 q hq
