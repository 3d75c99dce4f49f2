theorem xn_sh40 {w : Nat} (h : w < 2 ^ 62) : ((lN w) >>> ((40 : Int32).toInt64 &&& 63)).toInt32 = nI (w / 2 ^ 40) := by
  rw [show ((40 : Int32).toInt64 &&& 63) = ((nI 40).toInt64 &&& 63) from rfl, pf_shr (xc_c63 40 (by omega)) h, xn_l2i]
theorem xq_total {I : xw_I} {F : xw_F} {G : xw_G} {J : xw_I} {K : xw_F} {L : xw_G} (x1 : Int32) (h : xr_R xc_Q I F G J K) : sm_X7_total x1 I F G (fun r I1 F1 G1 => sm_X8_total x1 J K L (fun r2 J1 K1 _ => r2 = r ∧ xr_R xc_Q I1 F1 G1 J1 K1 ∧ xr_im K K1)) := by
  unfold sm_X7_total
  refine xq_car h (fun n ps mb mc oc op cl hd hb mg mr st rk T lk C mv ch I1 F1 G1 hok hT hlk hN hM hfo hC hpl hk hma htx hR => ?_)
  obtain ⟨o1, o2, o3, o4, o5, o6, o7, o8, o9, o10, o11, o12, o13, o14⟩ := id hok
  obtain ⟨⟨w1, w2, w3, w4, w5, w6, w7⟩, wT, wl⟩ := hN
  obtain ⟨⟨v1, v2, v3, v4, v5, v6, v7⟩, vT, vl⟩ := id hM
  obtain ⟨f1, f2, f3⟩ := hfo
  have hlt : ∀ w, w < 12 → lk w < 2 ^ T := fun w hw => (hlk w hw).1
  have hmc3 := xa_mc3 o3 o4
  have hE : xe_MP ps op cl hd K := ⟨fun p hp hb => ⟨(v3 p hp hb).1, (v3 p hp hb).2.1, (v3 p hp hb).2.2, (o8 p hp hb).1, by have := (o8 p hp hb).2.1; omega⟩, v4⟩
  rw [w2]
  refine ⟨fun zx => ?_, fun zx => ?_, fun zx => ?_, fun zx => ?_, fun zx => ?_, fun zx => xs_clinks hT hlt wl ?_, fun zx => xs_ccross (a := fun p => xg_wf lk (op p) (cl p)) (b := fun p => xg_wt lk (op p) (cl p)) o2 (fun p hp hb => ⟨(f2 p hp hb).1, (f2 p hp hb).2, (xg_w8 _ _ _).1, (xg_w8 _ _ _).2⟩) ?_, fun zx => xs_cholds (ps := ps) (hd := hd) o2 w2 (fun p hp hb => ⟨(w5 p hp hb).2.2.1, (o8 p hp hb).2.2.1⟩) ?_, fun z0 z1 z2 z3 z4 z5 z6 z7 => ?_⟩
  · subst zx
    intro k85 k126 k155 k185 k193 k250 r85 r126 r155 r185 r193 r250
    unfold bd_X8_total_0
    refine xs_in (s := 0) (a := 0) (b := 7) (by omega) (by omega) (by omega) (fun _ _ => ⟨fun _ => xs_mall hok hT hlt hM.1 vT vl hC hk (fun J1 K1 L1 e1 e2 e3 e4 e5 e6 e7 => ?_), fun y => absurd y (by decide)⟩) (fun y => absurd ⟨by omega, by omega⟩ y)
    have hR1 := hR J1 K1 (fun j hj => e6 j (by omega)) (fun j hj => e7 j (by omega))
    have hK1 := e7 1 (by decide)
    have hK2 := e7 2 (by decide)
    have hK3 := e7 3 (by decide)
    have hK6 := e7 6 (by decide)
    have hJ2 := e6 2 (by decide)
    have hE1 : xe_MP ps op cl hd K1 := ⟨fun p hp hb => by rw [hK1, hK2, hK3]; exact hE.1 p hp hb, fun p hp hb => by rw [hK1, hK3]; exact hE.2 p hp hb⟩
    refine ⟨fun _ => ?_, fun z => absurd z (by decide), fun z => absurd z (by decide), fun z => absurd z (by decide), fun z => absurd z (by decide), fun z => absurd z (by decide), fun z => absurd z (by decide), fun z0 z1 z2 z3 z4 z5 z6 => absurd rfl z0⟩
    refine ⟨?_, hR1⟩
    rw [e1, xn_sh40 e2]; exact hpl.1.symm
  · subst zx
    intro k85 k126 k155 k185 k193 k250 r85 r126 r155 r185 r193 r250
    unfold bd_X8_total_0
    refine xs_in (s := 1) (a := 0) (b := 7) (by omega) (by omega) (by omega) (fun _ _ => ⟨fun _ => xs_mall hok hT hlt hM.1 vT vl hC hk (fun J1 K1 L1 e1 e2 e3 e4 e5 e6 e7 => ?_), fun y => absurd y (by decide)⟩) (fun y => absurd ⟨by omega, by omega⟩ y)
    have hR1 := hR J1 K1 (fun j hj => e6 j (by omega)) (fun j hj => e7 j (by omega))
    have hK1 := e7 1 (by decide)
    have hK2 := e7 2 (by decide)
    have hK3 := e7 3 (by decide)
    have hK6 := e7 6 (by decide)
    have hJ2 := e6 2 (by decide)
    have hE1 : xe_MP ps op cl hd K1 := ⟨fun p hp hb => by rw [hK1, hK2, hK3]; exact hE.1 p hp hb, fun p hp hb => by rw [hK1, hK3]; exact hE.2 p hp hb⟩
    refine ⟨fun z => absurd z (by decide), fun _ => ?_, fun z => absurd z (by decide), fun z => absurd z (by decide), fun z => absurd z (by decide), fun z => absurd z (by decide), fun z => absurd z (by decide), fun z0 z1 z2 z3 z4 z5 z6 => absurd rfl z1⟩
    refine ⟨?_, hR1⟩
    rw [e3]; exact hma.1.symm
  · subst zx
    intro k85 k126 k155 k185 k193 k250 r85 r126 r155 r185 r193 r250
    unfold bd_X8_total_0
    refine xs_in (s := 2) (a := 0) (b := 7) (by omega) (by omega) (by omega) (fun _ _ => ⟨fun _ => xs_mall hok hT hlt hM.1 vT vl hC hk (fun J1 K1 L1 e1 e2 e3 e4 e5 e6 e7 => ?_), fun y => absurd y (by decide)⟩) (fun y => absurd ⟨by omega, by omega⟩ y)
    have hR1 := hR J1 K1 (fun j hj => e6 j (by omega)) (fun j hj => e7 j (by omega))
    have hK1 := e7 1 (by decide)
    have hK2 := e7 2 (by decide)
    have hK3 := e7 3 (by decide)
    have hK6 := e7 6 (by decide)
    have hJ2 := e6 2 (by decide)
    have hE1 : xe_MP ps op cl hd K1 := ⟨fun p hp hb => by rw [hK1, hK2, hK3]; exact hE.1 p hp hb, fun p hp hb => by rw [hK1, hK3]; exact hE.2 p hp hb⟩
    refine ⟨fun z => absurd z (by decide), fun z => absurd z (by decide), fun _ => ?_, fun z => absurd z (by decide), fun z => absurd z (by decide), fun z => absurd z (by decide), fun z => absurd z (by decide), fun z0 z1 z2 z3 z4 z5 z6 => absurd rfl z2⟩
    exact xs_there o2 hE1 ⟨rfl, hR1⟩
  · subst zx
    intro k85 k126 k155 k185 k193 k250 r85 r126 r155 r185 r193 r250
    unfold bd_X8_total_0
    refine xs_in (s := 3) (a := 0) (b := 7) (by omega) (by omega) (by omega) (fun _ _ => ⟨fun _ => xs_mall hok hT hlt hM.1 vT vl hC hk (fun J1 K1 L1 e1 e2 e3 e4 e5 e6 e7 => ?_), fun y => absurd y (by decide)⟩) (fun y => absurd ⟨by omega, by omega⟩ y)
    have hR1 := hR J1 K1 (fun j hj => e6 j (by omega)) (fun j hj => e7 j (by omega))
    have hK1 := e7 1 (by decide)
    have hK2 := e7 2 (by decide)
    have hK3 := e7 3 (by decide)
    have hK6 := e7 6 (by decide)
    have hJ2 := e6 2 (by decide)
    have hE1 : xe_MP ps op cl hd K1 := ⟨fun p hp hb => by rw [hK1, hK2, hK3]; exact hE.1 p hp hb, fun p hp hb => by rw [hK1, hK3]; exact hE.2 p hp hb⟩
    refine ⟨fun z => absurd z (by decide), fun z => absurd z (by decide), fun z => absurd z (by decide), fun _ => ?_, fun z => absurd z (by decide), fun z => absurd z (by decide), fun z => absurd z (by decide), fun z0 z1 z2 z3 z4 z5 z6 => absurd rfl z3⟩
    refine xl_up (fun i (_ : Unit) => k85 (nI (xg_ms lk ps op cl i)) (nI i) J1 K1 L1) 5 (fun _ _ => True) ?_ ?_ 0 () (by omega) trivial
    · intro i _ hi _ ih
      have ih := ih () trivial
      rw [xg_ms] at ih
      apply r85
      unfold bd_X8_total_85
      refine ⟨fun z => absurd ((xn_le (a := 5) (by omega) (by omega)).mp z) (by omega), fun _ => xs_isThere hE1 hi (fun e => ⟨fun z => absurd z (by decide), fun _ => ?_⟩) (fun e => ⟨fun _ va ea vb eb => ?_, fun z => absurd rfl z⟩)⟩
      · obtain ⟨b1, b2, b3, b4, b5⟩ := hE1.1 i hi e
        have hun := xg_256 (xg_un_lt (a := op i) hlt (cl i) b5) hT
        refine xs_linksOf (fun w hw => by rw [hK6]; exact vl w hw) hi b1 b2 b4 b5 ⟨fun y va ea vb eb => ?_, fun y va ea vb eb => ?_⟩
        · rw [if_neg (fun x => y (by rw [x.2]; rfl))] at ih
          rw [xn_or0] at ea
          rw [nI_1] at eb
          rw [ea, eb]; exact ih
        · rw [if_pos ⟨e, (xn_eq (b := 0) (by omega) (by omega)).mp y⟩] at ih
          rw [xn_or2 _ (by omega)] at ea
          rw [nI_1] at eb
          rw [ea, eb]; exact ih
      · rw [if_neg (fun x => by rw [e] at x; cases x.1)] at ih
        rw [xn_or0] at ea
        rw [nI_1] at eb
        rw [ea, eb]; exact ih
    · intro _ _
      apply r85
      unfold bd_X8_total_85
      exact ⟨fun _ => ⟨f1.symm, hR1⟩, fun z => absurd ((xn_le (a := 5) (b := 5) (by omega) (by omega)).mpr (by omega)) z⟩
  · subst zx
    intro k85 k126 k155 k185 k193 k250 r85 r126 r155 r185 r193 r250
    unfold bd_X8_total_0
    refine xs_in (s := 4) (a := 0) (b := 7) (by omega) (by omega) (by omega) (fun _ _ => ⟨fun _ => xs_mall hok hT hlt hM.1 vT vl hC hk (fun J1 K1 L1 e1 e2 e3 e4 e5 e6 e7 => ?_), fun y => absurd y (by decide)⟩) (fun y => absurd ⟨by omega, by omega⟩ y)
    have hR1 := hR J1 K1 (fun j hj => e6 j (by omega)) (fun j hj => e7 j (by omega))
    have hK1 := e7 1 (by decide)
    have hK2 := e7 2 (by decide)
    have hK3 := e7 3 (by decide)
    have hK6 := e7 6 (by decide)
    have hJ2 := e6 2 (by decide)
    have hE1 : xe_MP ps op cl hd K1 := ⟨fun p hp hb => by rw [hK1, hK2, hK3]; exact hE.1 p hp hb, fun p hp hb => by rw [hK1, hK3]; exact hE.2 p hp hb⟩
    refine ⟨fun z => absurd z (by decide), fun z => absurd z (by decide), fun z => absurd z (by decide), fun z => absurd z (by decide), fun _ => ?_, fun z => absurd z (by decide), fun z => absurd z (by decide), fun z0 z1 z2 z3 z4 z5 z6 => absurd rfl z4⟩
    have hom := xa_om_mb (mr := mr) (mc := mc) o3 o12 (fun m hm hb => (o14 m hm hb).2)
    refine xl_up (fun i (_ : Unit) => k126 (nI (xa_om mr i)) (nI i) J1 K1 L1) mc (fun _ _ => True) ?_ ?_ 0 () (by omega) trivial
    · intro i _ hi _ ih
      have ih := ih () trivial
      rw [xa_om] at ih
      have hm3 := (o12 i hi).1
      apply r126
      unfold bd_X8_total_126
      rw [e6 1 (by decide), v2]
      refine ⟨fun z => absurd ((xn_le (by omega) (by omega)).mp z) (by omega), fun _ => ⟨vp_in_nI (show i < 3 by omega) (by omega), fun v58 e58 va ea vb eb => ?_⟩⟩
      rw [nI_clamp (by omega), e7 5 (by decide), v7 i hi] at e58
      subst e58
      rw [xn_or2 _ (by omega)] at ea
      rw [nI_1] at eb
      rw [ea, eb]; exact ih
    · intro _ _
      apply r126
      unfold bd_X8_total_126
      rw [e6 1 (by decide), v2]
      exact ⟨fun _ => ⟨by rw [w3, hom], hR1⟩, fun z => absurd ((xn_le (by omega) (by omega)).mpr (by omega)) z⟩
  · subst zx
    intro k85 k126 k155 k185 k193 k250 r85 r126 r155 r185 r193 r250
    unfold bd_X8_total_0
    refine xs_in (s := 5) (a := 0) (b := 7) (by omega) (by omega) (by omega) (fun _ _ => ⟨fun _ => xs_mall hok hT hlt hM.1 vT vl hC hk (fun J1 K1 L1 e1 e2 e3 e4 e5 e6 e7 => ?_), fun y => absurd y (by decide)⟩) (fun y => absurd ⟨by omega, by omega⟩ y)
    have hR1 := hR J1 K1 (fun j hj => e6 j (by omega)) (fun j hj => e7 j (by omega))
    have hK1 := e7 1 (by decide)
    have hK2 := e7 2 (by decide)
    have hK3 := e7 3 (by decide)
    have hK6 := e7 6 (by decide)
    have hJ2 := e6 2 (by decide)
    have hE1 : xe_MP ps op cl hd K1 := ⟨fun p hp hb => by rw [hK1, hK2, hK3]; exact hE.1 p hp hb, fun p hp hb => by rw [hK1, hK3]; exact hE.2 p hp hb⟩
    refine ⟨fun z => absurd z (by decide), fun z => absurd z (by decide), fun z => absurd z (by decide), fun z => absurd z (by decide), fun z => absurd z (by decide), fun _ => ?_, fun z => absurd z (by decide), fun z0 z1 z2 z3 z4 z5 z6 => absurd rfl z5⟩
    have hsx := xt_sum_ext (f := fun w => xt_bc (lk w) 12) (n := n) 12 o1 (fun w h1 h2 => by show xt_bc (lk w) 12 = 0; rw [(hlk w h2).2 h1, xt_bc0])
    refine xl_up (fun i (_ : Unit) => k155 (nI (xt_sum (fun w => xt_bc (lk w) 12) i)) (nI i) J1 K1 L1) n (fun _ _ => True) ?_ ?_ 0 () (by omega) trivial
    · intro i _ hi _ ih
      have ih := ih () trivial
      apply r155
      unfold bd_X8_total_155
      rw [e6 0 (by decide), v1]
      have h256 := xg_256 (hlt i (by omega)) hT
      refine ⟨fun z => absurd ((xn_le (by omega) (by omega)).mp z) (by omega), fun _ => ⟨vp_in_nI (show i < 12 by omega) (by omega), fun v62 e62 => ?_⟩⟩
      rw [nI_clamp (by omega), hK6, vl i (by omega)] at e62
      subst e62
      refine xs_mbits (by omega) (fun va ea vb eb => ?_)
      rw [nI_add] at ea
      rw [nI_1] at eb
      rw [ea, eb]; exact ih
    · intro _ _
      apply r155
      unfold bd_X8_total_155
      rw [e6 0 (by decide), v1]
      exact ⟨fun _ => ⟨by rw [hsx], hR1⟩, fun z => absurd ((xn_le (by omega) (by omega)).mpr (by omega)) z⟩
  · subst zx
    intro k85 k126 k155 k185 k193 k250 r85 r126 r155 r185 r193 r250
    unfold bd_X8_total_0
    refine xs_in (s := 6) (a := 0) (b := 7) (by omega) (by omega) (by omega) (fun _ _ => ⟨fun _ => xs_mall hok hT hlt hM.1 vT vl hC hk (fun J1 K1 L1 e1 e2 e3 e4 e5 e6 e7 => ?_), fun y => absurd y (by decide)⟩) (fun y => absurd ⟨by omega, by omega⟩ y)
    have hR1 := hR J1 K1 (fun j hj => e6 j (by omega)) (fun j hj => e7 j (by omega))
    have hK1 := e7 1 (by decide)
    have hK2 := e7 2 (by decide)
    have hK3 := e7 3 (by decide)
    have hK6 := e7 6 (by decide)
    have hJ2 := e6 2 (by decide)
    have hE1 : xe_MP ps op cl hd K1 := ⟨fun p hp hb => by rw [hK1, hK2, hK3]; exact hE.1 p hp hb, fun p hp hb => by rw [hK1, hK3]; exact hE.2 p hp hb⟩
    refine ⟨fun z => absurd z (by decide), fun z => absurd z (by decide), fun z => absurd z (by decide), fun z => absurd z (by decide), fun z => absurd z (by decide), fun z => absurd z (by decide), fun _ => ?_, fun z0 z1 z2 z3 z4 z5 z6 => absurd rfl z6⟩
    obtain ⟨Y, hY⟩ : ∃ Y, Y = xt_y ps (fun p => xg_wf lk (op p) (cl p)) (fun p => xg_wt lk (op p) (cl p)) := ⟨_, rfl⟩
    refine xl_up (fun i (_ : Unit) => k185 (nI (xt_sum (fun p => xt_sum (Y p) p) i)) (nI i) J1 K1 L1) 5 (fun _ _ => True) ?_ ?_ 0 () (by omega) trivial
    · intro p _ hp _ ih
      have ih := ih () trivial
      obtain ⟨s, hs⟩ : ∃ s, s = xt_sum (fun p => xt_sum (Y p) p) p := ⟨_, rfl⟩
      rw [xt_sum, ← hs] at ih
      rw [← hs]
      apply r185
      unfold bd_X8_total_185
      refine ⟨fun z => absurd ((xn_le (a := 5) (by omega) (by omega)).mp z) (by omega), fun _ => ?_⟩
      refine xl_up (fun q (_ : Unit) => k193 (nI (s + xt_sum (Y p) q)) (nI p) (nI q) J1 K1 L1) p (fun _ _ => True) ?_ ?_ 0 () (by omega) trivial
      · intro q _ hq _ ihq
        have ihq := ihq () trivial
        rw [xt_sum] at ihq
        have hYq : Y p q = (ps.testBit p && (ps.testBit q && xt_x (fun p => xg_wf lk (op p) (cl p)) (fun p => xg_wt lk (op p) (cl p)) p q)).toNat := by rw [hY]; rfl
        rw [hYq] at ihq
        apply r193
        unfold bd_X8_total_193
        refine ⟨fun z => absurd ((xn_le (by omega) (by omega)).mp z) (by omega), fun _ => xs_isThere hE1 hp (fun e => ⟨fun z => absurd z (by decide), fun _ => xs_isThere hE1 (show q < 5 by omega) (fun ee => ⟨fun z => absurd z (by decide), fun _ => xs_mcross (by rw [hJ2]; exact vT) (fun w hw => by rw [hK6]; exact vl w hw) hT hlt hE1 hp (by omega) e ee (fun e3 => ⟨fun z => absurd z (by decide), fun _ va ea vb eb => ?_⟩) (fun e3 => ⟨fun _ va ea vb eb => ?_, fun z => absurd rfl z⟩)⟩) (fun ee => ⟨fun _ va ea vb eb => ?_, fun z => absurd rfl z⟩)⟩) (fun e => ⟨fun _ va ea vb eb => ?_, fun z => absurd rfl z⟩)⟩
        · rw [e, ee, e3] at ihq
          rw [nI_1] at ea eb
          rw [ea, eb]; exact ihq
        · rw [e3, Bool.and_false, Bool.and_false] at ihq
          rw [xn_lit0, nI_add] at ea
          rw [nI_1] at eb
          rw [ea, eb]; exact ihq
        · rw [ee, Bool.false_and, Bool.and_false] at ihq
          rw [xn_lit0, nI_add] at ea
          rw [nI_1] at eb
          rw [ea, eb]; exact ihq
        · rw [e, Bool.false_and] at ihq
          rw [xn_lit0, nI_add] at ea
          rw [nI_1] at eb
          rw [ea, eb]; exact ihq
      · intro _ _
        apply r193
        unfold bd_X8_total_193
        refine ⟨fun _ v ev => ?_, fun z => absurd ((xn_le (by omega) (by omega)).mpr (by omega)) z⟩
        rw [ev, nI_1]; exact ih
    · intro _ _
      apply r185
      unfold bd_X8_total_185
      exact ⟨fun _ => ⟨by rw [xt_ysum, hY], hR1⟩, fun z => absurd ((xn_le (a := 5) (b := 5) (by omega) (by omega)).mpr (by omega)) z⟩
  · subst zx
    intro k85 k126 k155 k185 k193 k250 r85 r126 r155 r185 r193 r250
    unfold bd_X8_total_0
    refine xs_in (s := 7) (a := 0) (b := 7) (by omega) (by omega) (by omega) (fun _ _ => ⟨fun _ => xs_mall hok hT hlt hM.1 vT vl hC hk (fun J1 K1 L1 e1 e2 e3 e4 e5 e6 e7 => ?_), fun y => absurd y (by decide)⟩) (fun y => absurd ⟨by omega, by omega⟩ y)
    have hR1 := hR J1 K1 (fun j hj => e6 j (by omega)) (fun j hj => e7 j (by omega))
    have hK1 := e7 1 (by decide)
    have hK2 := e7 2 (by decide)
    have hK3 := e7 3 (by decide)
    have hK6 := e7 6 (by decide)
    have hJ2 := e6 2 (by decide)
    have hE1 : xe_MP ps op cl hd K1 := ⟨fun p hp hb => by rw [hK1, hK2, hK3]; exact hE.1 p hp hb, fun p hp hb => by rw [hK1, hK3]; exact hE.2 p hp hb⟩
    refine ⟨fun z => absurd z (by decide), fun z => absurd z (by decide), fun z => absurd z (by decide), fun z => absurd z (by decide), fun z => absurd z (by decide), fun z => absurd z (by decide), fun z => absurd z (by decide), fun _ _ _ _ _ _ _ => ?_⟩
    refine xl_up (fun i (_ : Unit) => k250 (nI (xt_sum (xt_hs ps hd) i)) (nI i) J1 K1 L1) 5 (fun _ _ => True) ?_ ?_ 0 () (by omega) trivial
    · intro i _ hi _ ih
      have ih := ih () trivial
      rw [xt_sum, xt_hs] at ih
      apply r250
      unfold bd_X8_total_250
      refine ⟨fun z => absurd ((xn_le (a := 5) (by omega) (by omega)).mp z) (by omega), fun _ => xs_isThere hE1 hi (fun e => ⟨fun z => absurd z (by decide), fun _ => ⟨vp_in_nI hi (by omega), fun v88 e88 => ?_⟩⟩) (fun e => ⟨fun _ va ea vb eb => ?_, fun z => absurd rfl z⟩)⟩
      · rw [nI_clamp (by omega), (hE1.1 i hi e).2.2.1] at e88
        subst e88
        have := (o8 i hi e).2.2.1
        refine xs_mbits (by omega) (fun va ea vb eb => ?_)
        rw [if_pos e] at ih
        rw [nI_add] at ea
        rw [nI_1] at eb
        rw [ea, eb]; exact ih
      · rw [if_neg (by rw [e]; decide)] at ih
        rw [xn_lit0, nI_add] at ea
        rw [nI_1] at eb
        rw [ea, eb]; exact ih
    · intro _ _
      apply r250
      unfold bd_X8_total_250
      exact ⟨fun _ => ⟨rfl, hR1⟩, fun z => absurd ((xn_le (a := 5) (b := 5) (by omega) (by omega)).mpr (by omega)) z⟩
  · intro k85 k126 k155 k185 k193 k250 r85 r126 r155 r185 r193 r250
    unfold bd_X8_total_0
    have hbad : ∀ w : Nat, w ≤ 7 → x1 ≠ nI w := by
      intro w hw he
      obtain rfl | rfl | rfl | rfl | rfl | rfl | rfl | rfl : w = 0 ∨ w = 1 ∨ w = 2 ∨ w = 3 ∨ w = 4 ∨ w = 5 ∨ w = 6 ∨ w = 7 := by omega
      · exact z0 he
      · exact z1 he
      · exact z2 he
      · exact z3 he
      · exact z4 he
      · exact z5 he
      · exact z6 he
      · exact z7 he
    exact xs_inx (b := 7) (by omega) hbad ⟨fun y => absurd rfl y, fun _ => ⟨rfl, hR J K (fun _ _ => rfl) (fun _ _ => rfl)⟩⟩
