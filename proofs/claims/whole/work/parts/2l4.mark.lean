theorem xq_mark {I : xw_I} {F : xw_F} {G : xw_G} {J : xw_I} {K : xw_F} {L : xw_G} (x1 x2 : Int32) (h : xr_R xc_Q I F G J K) : sm_X7_mark x1 x2 I F G (fun r I1 F1 G1 => sm_X8_mark x1 x2 J K L (fun r2 J1 K1 _ => r2 = r ∧ xr_R xc_Q I1 F1 G1 J1 K1 ∧ xr_im K K1)) := by
  have hout : x1 < 0 ∨ 2 < x1 → sm_X8_mark x1 x2 J K L (fun r2 J1 K1 _ => r2 = -1 ∧ xr_R xc_Q I F G J1 K1 ∧ xr_im K K1) := by
    intro hx
    unfold sm_X8_mark sm_X8_in
    refine ⟨fun _ => ⟨fun _ => ⟨rfl, h, rfl, rfl⟩, fun y => absurd rfl y⟩, fun y => ⟨fun _ => ⟨fun _ => ⟨rfl, h, rfl, rfl⟩, fun y => absurd rfl y⟩, fun w => ?_⟩⟩
    rcases hx with hx | hx
    · exact absurd hx y
    · exact absurd hx w
  unfold sm_X7_mark
  refine ⟨fun z => hout (Or.inl z), fun z => ⟨fun z2 => hout (Or.inr (Int32.lt_of_lt_of_le (by decide) z2)), fun z2 => ?_⟩⟩
  obtain ⟨p, hp31, rfl⟩ := nI_of z
  have hp : p < 3 := Nat.not_le.mp (fun y => z2 ((xn_le (a := 3) (by omega) hp31).mpr y))
  obtain ⟨A, T0, lk0, c, sg, ⟨a1, a2, a3⟩, ⟨n1, n2, n3⟩, ⟨m1, m2, m3⟩, hrest⟩ := id h
  obtain ⟨n0, ps0, mb0, mc0, oc0, op0, cl0, hd0, hb0, mg0, mr0, st0, rk0⟩ := A
  obtain ⟨w1, w2, w3, w4, w5, w6, w7⟩ := n1
  obtain ⟨v1, v2, v3, v4, v5, v6, v7⟩ := m1
  have hmb0 := a1.2.2.1
  have hv3 := vp_in_nI hp (show 3 < 2 ^ 31 by omega)
  have hcl3 : (nI p).toNatClampNeg = p := nI_clamp (by omega)
  rw [w3]
  refine xs_has (by omega) (by omega) (fun e => ⟨fun y => absurd rfl y, fun _ => ?_⟩) (fun e => ⟨fun _ => xq_car h (fun n ps mb mc oc op cl hd hb mg mr st rk T lk C mv ch I1 F1 G1 hok hT hlk hN hM hfo hC hpl hk hma htx hR => ?_), fun y => absurd y (by decide)⟩)
  · unfold sm_X8_mark
    refine xs_in (a := 0) (b := 2) (by omega) (by omega) (by omega) (fun _ _ => ⟨fun y => absurd y (by decide), fun _ => ⟨hv3, fun v ev => ?_⟩⟩) (fun y => absurd ⟨by omega, by omega⟩ y)
    rw [hcl3, v6 p hp e] at ev
    subst ev
    exact ⟨fun y => absurd y (by decide), fun _ => ⟨rfl, h, rfl, rfl⟩⟩
  have hmb : mb.testBit p = true := by
    have q1 := hM.1.2.2.2.2.2.1
    cases hz : mb.testBit p
    · have q2 := q1 p hp hz
      rw [v5 p hp e] at q2
      have q3 := (a1.2.2.2.2.2.2.2.2.2.2.2.2.2 p hp e).1
      have q4 := a1.1
      exact absurd (show nI (mg0 p) < 0 by rw [q2]; decide) (nI_pos (by omega))
    · rfl
  clear hrest w1 w2 w3 w4 w5 w6 w7 v1 v2 v3 v4 v5 v6 v7 e a1
  obtain ⟨o1, o2, o3, o4, o5, o6, o7, o8, o9, o10, o11, o12, o13, o14⟩ := id hok
  obtain ⟨⟨w1, w2, w3, w4, w5, w6, w7⟩, wT, wl⟩ := hN
  obtain ⟨⟨v1, v2, v3, v4, v5, v6, v7⟩, vT, vl⟩ := id hM
  obtain ⟨f1, f2, f3⟩ := hfo
  have hlt : ∀ w, w < 12 → lk w < 2 ^ T := fun w hw => (hlk w hw).1
  obtain ⟨hmg, i, hi, hmi⟩ := o14 p hp hmb
  have hmc12 : mg p ≤ 12 := by omega
  have hat : F1 33 p = nI (xk_gq ch i) := by rw [← hmi]; exact hma.2 i hi
  rw [hcl3]
  refine ⟨fun zx => ⟨hv3, fun v ev => ?_⟩, fun zx => ⟨hv3, fun v ev => ?_⟩, fun zx => ⟨hv3, fun v ev => ?_⟩, fun z0 z1 z2 => ?_⟩
  · subst zx
    rw [w6 p hp hmb] at ev
    subst ev
    unfold sm_X8_mark
    refine xs_in (a := 0) (b := 2) (by omega) (by omega) (by omega) (fun _ _ => ⟨fun y => absurd y (by decide), fun _ => ⟨hv3, fun v12 e12 => ?_⟩⟩) (fun y => absurd ⟨by omega, by omega⟩ y)
    rw [hcl3, v5 p hp hmb] at e12
    subst e12
    refine ⟨fun _ => xs_in (s := 0) (a := 0) (b := 2) (by omega) (by omega) (by omega) (fun _ _ => ⟨fun _ => xs_mall hok hT hlt hM.1 vT vl hC hk (fun J1 K1 L1 e1 e2 e3 e4 e5 e6 e7 => ?_), fun y => absurd y (by decide)⟩) (fun y => absurd ⟨by omega, by omega⟩ y), fun y => absurd ((xn_le (a := 0) (by omega) (by omega)).mpr (by omega)) y⟩
    have hR1 := hR J1 K1 (fun j hj => e6 j (by omega)) (fun j hj => e7 j (by omega))
    rw [hcl3]
    refine ⟨fun y => absurd rfl y, fun _ => ⟨hv3, fun v ev => ⟨?_, hR1⟩⟩⟩
    rw [ev, e7 4 (by decide)]; exact v5 p hp hmb
  · subst zx
    rw [f3 p hp hmb] at ev
    subst ev
    unfold sm_X8_mark
    refine xs_in (a := 0) (b := 2) (by omega) (by omega) (by omega) (fun _ _ => ⟨fun y => absurd y (by decide), fun _ => ⟨hv3, fun v12 e12 => ?_⟩⟩) (fun y => absurd ⟨by omega, by omega⟩ y)
    rw [hcl3, v5 p hp hmb] at e12
    subst e12
    refine ⟨fun _ => xs_in (s := 1) (a := 0) (b := 2) (by omega) (by omega) (by omega) (fun _ _ => ⟨fun _ => xs_mall hok hT hlt hM.1 vT vl hC hk (fun J1 K1 L1 e1 e2 e3 e4 e5 e6 e7 => ?_), fun y => absurd y (by decide)⟩) (fun y => absurd ⟨by omega, by omega⟩ y), fun y => absurd ((xn_le (a := 0) (by omega) (by omega)).mpr (by omega)) y⟩
    have hR1 := hR J1 K1 (fun j hj => e6 j (by omega)) (fun j hj => e7 j (by omega))
    rw [hcl3]
    refine ⟨fun _ => ⟨fun y => absurd rfl y, fun _ => ⟨hv3, fun v ev => ?_⟩⟩, fun y => absurd y (by decide)⟩
    rw [e7 4 (by decide), v5 p hp hmb] at ev
    subst ev
    exact xs_manchor (by rw [e6 2 (by decide)]; exact vT) (fun w hw => by rw [e7 6 (by decide)]; exact vl w hw) hT hlt hmc12 ⟨rfl, hR1⟩
  · subst zx
    rw [hat] at ev
    subst ev
    unfold sm_X8_mark
    refine xs_in (a := 0) (b := 2) (by omega) (by omega) (by omega) (fun _ _ => ⟨fun y => absurd y (by decide), fun _ => ⟨hv3, fun v12 e12 => ?_⟩⟩) (fun y => absurd ⟨by omega, by omega⟩ y)
    rw [hcl3, v5 p hp hmb] at e12
    subst e12
    refine ⟨fun _ => xs_in (s := 2) (a := 0) (b := 2) (by omega) (by omega) (by omega) (fun _ _ => ⟨fun _ => xs_mall hok hT hlt hM.1 vT vl hC hk (fun J1 K1 L1 e1 e2 e3 e4 e5 e6 e7 => ?_), fun y => absurd y (by decide)⟩) (fun y => absurd ⟨by omega, by omega⟩ y), fun y => absurd ((xn_le (a := 0) (by omega) (by omega)).mpr (by omega)) y⟩
    have hR1 := hR J1 K1 (fun j hj => e6 j (by omega)) (fun j hj => e7 j (by omega))
    rw [hcl3]
    refine ⟨fun _ => ⟨fun _ => ⟨hv3, fun v ev => ⟨?_, hR1⟩⟩, fun y => absurd y (by decide)⟩, fun y => absurd y (by decide)⟩
    rw [ev, ← hmi]; exact e5 i hi
  · unfold sm_X8_mark
    refine xs_in (a := 0) (b := 2) (by omega) (by omega) (by omega) (fun _ _ => ⟨fun y => absurd y (by decide), fun _ => ⟨hv3, fun v12 e12 => ?_⟩⟩) (fun y => absurd ⟨by omega, by omega⟩ y)
    rw [hcl3, v5 p hp hmb] at e12
    subst e12
    have hbad : ∀ w : Nat, w ≤ 2 → x2 ≠ nI w := by
      intro w hw he
      obtain rfl | rfl | rfl : w = 0 ∨ w = 1 ∨ w = 2 := by omega
      · exact z0 he
      · exact z1 he
      · exact z2 he
    exact ⟨fun _ => xs_inx (b := 2) (by omega) hbad ⟨fun y => absurd rfl y, fun _ => ⟨rfl, hR J K (fun _ _ => rfl) (fun _ _ => rfl)⟩⟩, fun y => absurd ((xn_le (a := 0) (by omega) (by omega)).mpr (by omega)) y⟩
