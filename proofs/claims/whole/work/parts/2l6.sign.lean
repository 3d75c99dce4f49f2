theorem xq_sign {I : xw_I} {F : xw_F} {G : xw_G} {J : xw_I} {K : xw_F} {L : xw_G} (x1 : Int32) (h : xr_R xc_Q I F G J K) : sm_X7_sign x1 I F G (fun r I1 F1 G1 => sm_X8_sign x1 J K L (fun r2 J1 K1 _ => r2 = r ∧ xr_R xc_Q I1 F1 G1 J1 K1 ∧ xr_im K K1)) := by
  unfold sm_X7_sign
  refine xq_car h (fun n ps mb mc oc op cl hd hb mg mr st rk T lk C mv ch I1 F1 G1 hok hT hlk hN hM hfo hC hpl hk hma htx hR => ?_)
  obtain ⟨o1, o2, o3, o4, o5, o6, o7, o8, o9, o10, o11, o12, o13, o14⟩ := id hok
  obtain ⟨⟨v1, v2, v3, v4, v5, v6, v7⟩, vT, vl⟩ := id hM
  have hlt : ∀ w, w < 12 → lk w < 2 ^ T := fun w hw => (hlk w hw).1
  have hmc3 := xa_mc3 o3 o4
  have hsp := xd_span o2 (fun p q hp hq a b => (o9 p q hp hq a b).2) hC (xd_cM hT) xd_big ps o2 (Nat.and_self ps) _ 0 T rfl (by omega) (Nat.le_refl _)
  obtain ⟨hP, hH, -⟩ := xc_P hok hT hsp (xk_gq_rise hk).1
  have hlen := xt_len (ps := ps) (T := T) (mc := mc) (hd := hd) (hb := hb) (fr := xd_fr (C ps 0 T)) (to := xd_to (C ps 0 T)) (mr := mr) (mt := xk_gq ch) hT hmc3
  obtain ⟨l, hl⟩ : ∃ l, l = xt_cat (xt_all ps T mc hd hb (xd_fr (C ps 0 T)) (xd_to (C ps 0 T)) mr (xk_gq ch)) (T + 1) := ⟨_, rfl⟩
  rw [← hl] at hlen htx
  have hgo : ∀ r : Int32, (∀ (J2 : xw_I) (K2 : xw_F) (P : Int32 → Prop), xt_L (J2 5) (K2 13) l → P r → (¬ x1 = (-1 : Int32) → sm_X8_in x1 (0 : Int32) ((J2 5) - (1 : Int32)) (fun r19 => ((r19 = 0 → P (-6 : Int32)) ∧ (¬ (r19 = 0) → vp_in x1 30 ∧ ∀ v21 : Int32, v21 = K2 13 x1.toNatClampNeg → P v21)))) ∧ (x1 = (-1 : Int32) → P (J2 5))) → sm_X8_sign x1 J K L (fun r2 J1 K1 _ => r2 = r ∧ xr_R xc_Q I1 F1 G1 J1 K1 ∧ xr_im K K1) := by
    intro r hr k11 k32 r11 r32
    unfold bd_X8_sign_0
    refine xs_mall hok hT hlt hM.1 vT vl hC hk (fun J1 K1 L1 e1 e2 e3 e4 e5 e6 e7 J2 eJ2 => ?_)
    have hJ2 : ∀ j, j ≠ 5 → J2 j = J1 j := fun j hj => by rw [eJ2, xw_upn hj]
    have hY : xt_Y ps T mc op cl hd (xd_fr (C ps 0 T)) (xd_to (C ps 0 T)) mr (xk_gq ch) J2 K1 := by
      refine ⟨⟨fun p hp hb => ?_, fun p hp hb => ?_⟩, ⟨?_, ?_⟩, fun p hp hb => e4 p hp, fun i hi => ⟨?_, e5 i hi⟩⟩
      · rw [e7 1 (by decide), e7 2 (by decide), e7 3 (by decide)]
        exact ⟨(v3 p hp hb).1, (v3 p hp hb).2.1, (v3 p hp hb).2.2, (o8 p hp hb).1, by have := (o8 p hp hb).2.1; omega⟩
      · rw [e7 1 (by decide), e7 3 (by decide)]; exact v4 p hp hb
      · rw [hJ2 1 (by decide), e6 1 (by decide)]; exact v2
      · rw [hJ2 2 (by decide), e6 2 (by decide)]; exact vT
      · rw [e7 5 (by decide)]; exact v7 i hi
    refine xs_msign hP hH hY k11 k32 r11 r32 (by rw [eJ2, xw_ups]) (fun J3 K3 hL hf => ?_)
    rw [← hl] at hL
    have hR1 := hR J3 K3 (fun j hj => by rw [hf.1 j (by omega), hJ2 j (by omega), e6 j (by omega)]) (fun j hj => by rw [hf.2 j (by omega), e7 j (by omega)])
    exact hr J3 K3 (fun r2 => r2 = r ∧ xr_R xc_Q I1 F1 G1 J3 K3 ∧ xr_im K K3) hL ⟨rfl, hR1⟩
  refine ⟨fun zx => ⟨fun z => hgo _ (fun J2 K2 P hL hP => ⟨fun _ => ⟨fun _ => ⟨fun _ => hP, fun y => absurd rfl y⟩, fun y => absurd z y⟩, fun y => absurd y zx⟩), fun z => ?_⟩, fun zx => hgo _ (fun J2 K2 P hL hP => ⟨fun y => absurd zx y, fun _ => by rw [hL.1, ← htx.1]; exact hP⟩)⟩
  obtain ⟨i, hi, rfl⟩ := nI_of z
  rw [htx.1]
  refine ⟨fun y => ?_, fun y => ?_⟩
  · have y : i < l.length := (xn_lt hi (by omega)).mp y
    refine ⟨vp_in_nI (show i < 21 by omega) (by omega), fun v ev => ?_⟩
    rw [nI_clamp hi, htx.2 i _ (List.getElem?_eq_getElem y)] at ev
    subst ev
    refine hgo _ (fun J2 K2 P hL hP => ⟨fun _ => ?_, fun w => absurd w zx⟩)
    rw [hL.1, show (1 : Int32) = nI 1 from rfl, xn_sub (by omega)]
    refine xs_in (a := 0) hi (by omega) (by omega) (fun _ _ => ⟨fun w => absurd w (by decide), fun _ => ⟨vp_in_nI (show i < 30 by omega) (by omega), fun v21 e21 => ?_⟩⟩) (fun w => absurd ⟨by omega, by omega⟩ w)
    rw [nI_clamp hi, hL.2 i _ (List.getElem?_eq_getElem y)] at e21
    rw [e21]; exact hP
  · have y : ¬ i < l.length := fun w => y ((xn_lt hi (by omega)).mpr w)
    refine hgo _ (fun J2 K2 P hL hP => ⟨fun _ => ?_, fun w => absurd w zx⟩)
    rw [hL.1]
    by_cases h0 : l.length = 0
    · rw [h0]
      unfold sm_X8_in
      refine ⟨fun w => absurd w (nI_pos hi), fun _ => ⟨fun _ => ⟨fun _ => hP, fun u => absurd rfl u⟩, fun w => ?_⟩⟩
      exact absurd (Int32.lt_of_lt_of_le (show nI 0 - 1 < 0 by decide) ((xn_le (a := 0) (by omega) hi).mpr (by omega))) w
    · rw [show (1 : Int32) = nI 1 from rfl, xn_sub (by omega)]
      exact xs_in (a := 0) hi (by omega) (by omega) (fun _ w => absurd w (by omega)) (fun _ => ⟨fun _ => hP, fun u => absurd rfl u⟩)
