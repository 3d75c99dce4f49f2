theorem xs_inx {x : Int32} {b : Nat} {post : Int32 → Prop} (hb : b < 2 ^ 31) (h : ∀ w, w ≤ b → x ≠ nI w) (h0 : post 0) : sm_X8_in x 0 (nI b) post := by
  refine ⟨fun _ => h0, fun y => ⟨fun _ => h0, fun w => ?_⟩⟩
  obtain ⟨v, hv, rfl⟩ := nI_of y
  exact absurd rfl (h v (Nat.not_lt.mp (fun u => w ((xn_lt hb hv).mpr u))))
theorem xq_pair {I : xw_I} {F : xw_F} {G : xw_G} {J : xw_I} {K : xw_F} {L : xw_G} (x1 x2 : Int32) (h : xr_R xc_Q I F G J K) : sm_X7_pair x1 x2 I F G (fun r I1 F1 G1 => sm_X8_pair x1 x2 J K L (fun r2 J1 K1 _ => r2 = r ∧ xr_R xc_Q I1 F1 G1 J1 K1 ∧ xr_im K K1)) := by
  have hout : x1 < 0 ∨ 4 < x1 → sm_X8_pair x1 x2 J K L (fun r2 J1 K1 _ => r2 = -1 ∧ xr_R xc_Q I F G J1 K1 ∧ xr_im K K1) := by
    intro hx
    unfold sm_X8_pair sm_X8_isThere sm_X8_in
    refine ⟨fun _ => ⟨fun _ => ⟨fun y => absurd rfl y, fun _ => ⟨rfl, h, rfl, rfl⟩⟩, fun y => absurd rfl y⟩, fun y => ⟨fun _ => ⟨fun _ => ⟨fun y => absurd rfl y, fun _ => ⟨rfl, h, rfl, rfl⟩⟩, fun y => absurd rfl y⟩, fun w => ?_⟩⟩
    rcases hx with hx | hx
    · exact absurd hx y
    · exact absurd hx w
  unfold sm_X7_pair
  refine ⟨fun z => hout (Or.inl z), fun z => ⟨fun z2 => hout (Or.inr (Int32.lt_of_lt_of_le (by decide) z2)), fun z2 => ?_⟩⟩
  obtain ⟨p, hp31, rfl⟩ := nI_of z
  have hp : p < 5 := Nat.not_le.mp (fun y => z2 ((xn_le (a := 5) (by omega) hp31).mpr y))
  obtain ⟨A, T0, lk0, c, sg, ⟨a1, a2, a3⟩, ⟨n1, n2, n3⟩, ⟨m1, m2, m3⟩, hrest⟩ := id h
  obtain ⟨n0, ps0, mb0, mc0, oc0, op0, cl0, hd0, hb0, mg0, mr0, st0, rk0⟩ := A
  obtain ⟨w1, w2, w3, w4, w5, w6, w7⟩ := n1
  obtain ⟨v1, v2, v3, v4, v5, v6, v7⟩ := m1
  have hps0 := a1.2.1
  have hE0 : xe_MP ps0 op0 cl0 hd0 K := ⟨fun p hp hb => ⟨(v3 p hp hb).1, (v3 p hp hb).2.1, (v3 p hp hb).2.2, (a1.2.2.2.2.2.2.2.1 p hp hb).1, by have := (a1.2.2.2.2.2.2.2.1 p hp hb).2.1; have := a1.1; omega⟩, v4⟩
  rw [w2]
  refine xs_has (by omega) (by omega) (fun e => ⟨fun y => absurd rfl y, fun _ => ?_⟩) (fun e => ⟨fun _ => xq_car h (fun n ps mb mc oc op cl hd hb mg mr st rk T lk C mv ch I1 F1 G1 hok hT hlk hN hM hfo hC hpl hk hma htx hR => ?_), fun y => absurd y (by decide)⟩)
  · unfold sm_X8_pair
    exact xs_isThere hE0 hp (fun y => by rw [e] at y; cases y) (fun _ => ⟨fun y => absurd rfl y, fun _ => ⟨rfl, h, rfl, rfl⟩⟩)
  clear hrest w1 w2 w3 w4 w5 w6 w7 v1 v2 v5 v6 v7
  have hps : ps.testBit p = true := by
    have q1 := hM.1.2.2.2.1
    cases hz : ps.testBit p
    · have q2 := (q1 p hp hz).1
      rw [(v3 p hp e).1] at q2
      have q3 := (a1.2.2.2.2.2.2.2.1 p hp e)
      have q4 := a1.1
      exact absurd (show nI (op0 p) < 0 by rw [q2]; decide) (nI_pos (by omega))
    · rfl
  clear v3 v4 hE0 e a1
  obtain ⟨o1, o2, o3, o4, o5, o6, o7, o8, o9, o10, o11, o12, o13, o14⟩ := id hok
  obtain ⟨⟨w1, w2, w3, w4, w5, w6, w7⟩, wT, wl⟩ := hN
  obtain ⟨⟨v1, v2, v3, v4, v5, v6, v7⟩, vT, vl⟩ := id hM
  obtain ⟨f1, f2, f3⟩ := hfo
  have hlt : ∀ w, w < 12 → lk w < 2 ^ T := fun w hw => (hlk w hw).1
  have ho8 := o8 p hp hps
  have hcl : cl p ≤ 12 := by omega
  have hE : xe_MP ps op cl hd K := ⟨fun p hp hb => ⟨(v3 p hp hb).1, (v3 p hp hb).2.1, (v3 p hp hb).2.2, (o8 p hp hb).1, by have := (o8 p hp hb).2.1; omega⟩, v4⟩
  obtain ⟨u1, u2, u3, u4⟩ := w5 p hp hps
  obtain ⟨t1, t2, t3⟩ := v3 p hp hps
  obtain ⟨s1, s2⟩ := f2 p hp hps
  obtain ⟨r1, r2, r3⟩ := hpl.2 p hp hps
  have hv5 := vp_in_nI hp (show 5 < 2 ^ 31 by omega)
  have hcl5 : (nI p).toNatClampNeg = p := nI_clamp (by omega)
  have hms := xg_ms_lt lk ps op cl 5 (by omega)
  have hsp := xd_span o2 (fun p q hp hq a b => (o9 p q hp hq a b).2) hC (xd_cM hT) xd_big ps o2 (Nat.and_self ps) _ 0 T rfl (by omega) (Nat.le_refl _)
  have hdg := xd_dig hT hsp hp hps
  have hHB := (xc_P (mt := fun _ => 0) hok hT hsp (fun _ _ => by omega)).2.1
  rw [hcl5]
  rw [f1, xb_bit (by omega) (by omega), xg_ms_bit, decide_eq_true hp, hps, Bool.true_and, Bool.true_and]
  refine ⟨fun zx => ⟨hv5, fun v ev => ?_⟩, fun zx => ⟨hv5, fun v ev => ?_⟩, fun zx => xt_depth hp u4 ho8.2.2.2.1 ?_, fun zx => ⟨hv5, fun v ev => ?_⟩, fun zx => ⟨hv5, fun v ev => ?_⟩, fun zx => ⟨hv5, fun v ev => ?_⟩, fun zx => ⟨hv5, fun v ev => ?_⟩, fun zx => ⟨hv5, fun v ev => ?_⟩, fun zx => ⟨hv5, fun v ev => ?_⟩, fun zx => ?_, fun z0 z1 z2 z3 z4 z5 z6 z7 z8 z9 => ?_⟩
  · subst zx
    rw [u1] at ev
    subst ev
    unfold sm_X8_pair
    refine xs_isThere hE hp (fun _ => ⟨fun _ => xs_in (s := 0) (a := 0) (b := 9) (by omega) (by omega) (by omega) (fun _ _ => ⟨fun _ => xs_mall hok hT hlt hM.1 vT vl hC hk (fun J1 K1 L1 e1 e2 e3 e4 e5 e6 e7 => ?_), fun y => absurd y (by decide)⟩) (fun y => absurd ⟨by omega, by omega⟩ y), fun y => absurd y (by decide)⟩) (fun y => by rw [hps] at y; cases y)
    have hR1 := hR J1 K1 (fun j hj => e6 j (by omega)) (fun j hj => e7 j (by omega))
    rw [hcl5]
    have hK1 := e7 1 (by decide)
    have hK2 := e7 2 (by decide)
    have hK3 := e7 3 (by decide)
    have hK6 := e7 6 (by decide)
    have hJ2 := e6 2 (by decide)
    refine ⟨fun _ => ⟨hv5, fun v ev => ⟨?_, hR1⟩⟩, fun z => absurd z (by decide), fun z => absurd z (by decide), fun z => absurd z (by decide), fun z => absurd z (by decide), fun z => absurd z (by decide), fun z => absurd z (by decide), fun z => absurd z (by decide), fun z => absurd z (by decide), fun z0 z1 z2 z3 z4 z5 z6 z7 z8 => absurd rfl z0⟩
    rw [ev, hK1]; exact t1
  · subst zx
    rw [u2] at ev
    subst ev
    unfold sm_X8_pair
    refine xs_isThere hE hp (fun _ => ⟨fun _ => xs_in (s := 1) (a := 0) (b := 9) (by omega) (by omega) (by omega) (fun _ _ => ⟨fun _ => xs_mall hok hT hlt hM.1 vT vl hC hk (fun J1 K1 L1 e1 e2 e3 e4 e5 e6 e7 => ?_), fun y => absurd y (by decide)⟩) (fun y => absurd ⟨by omega, by omega⟩ y), fun y => absurd y (by decide)⟩) (fun y => by rw [hps] at y; cases y)
    have hR1 := hR J1 K1 (fun j hj => e6 j (by omega)) (fun j hj => e7 j (by omega))
    rw [hcl5]
    have hK1 := e7 1 (by decide)
    have hK2 := e7 2 (by decide)
    have hK3 := e7 3 (by decide)
    have hK6 := e7 6 (by decide)
    have hJ2 := e6 2 (by decide)
    refine ⟨fun z => absurd z (by decide), fun _ => ⟨hv5, fun v ev => ⟨?_, hR1⟩⟩, fun z => absurd z (by decide), fun z => absurd z (by decide), fun z => absurd z (by decide), fun z => absurd z (by decide), fun z => absurd z (by decide), fun z => absurd z (by decide), fun z => absurd z (by decide), fun z0 z1 z2 z3 z4 z5 z6 z7 z8 => absurd rfl z1⟩
    rw [ev, hK2]; exact t2
  · subst zx
    unfold sm_X8_pair
    refine xs_isThere hE hp (fun _ => ⟨fun _ => xs_in (s := 2) (a := 0) (b := 9) (by omega) (by omega) (by omega) (fun _ _ => ⟨fun _ => xs_mall hok hT hlt hM.1 vT vl hC hk (fun J1 K1 L1 e1 e2 e3 e4 e5 e6 e7 => ?_), fun y => absurd y (by decide)⟩) (fun y => absurd ⟨by omega, by omega⟩ y), fun y => absurd y (by decide)⟩) (fun y => by rw [hps] at y; cases y)
    have hR1 := hR J1 K1 (fun j hj => e6 j (by omega)) (fun j hj => e7 j (by omega))
    rw [hcl5]
    have hK1 := e7 1 (by decide)
    have hK2 := e7 2 (by decide)
    have hK3 := e7 3 (by decide)
    have hK6 := e7 6 (by decide)
    have hJ2 := e6 2 (by decide)
    refine ⟨fun z => absurd z (by decide), fun z => absurd z (by decide), fun _ => xt_mdepth (ps := ps) (op := op) (cl := cl) (hd := hd) (hb := hb) ⟨fun p hp hb => ?_, fun p hp hb => ?_⟩ hHB (fun p hp hb => (o8 p hp hb).2.2.1) hp hps ho8.2.2.2.1 ⟨rfl, hR1⟩, fun z => absurd z (by decide), fun z => absurd z (by decide), fun z => absurd z (by decide), fun z => absurd z (by decide), fun z => absurd z (by decide), fun z => absurd z (by decide), fun z0 z1 z2 z3 z4 z5 z6 z7 z8 => absurd rfl z2⟩
    · rw [hK1, hK2, hK3]; exact hE.1 p hp hb
    · rw [hK1, hK3]; exact hE.2 p hp hb
  · subst zx
    rw [u3] at ev
    subst ev
    unfold sm_X8_pair
    refine xs_isThere hE hp (fun _ => ⟨fun _ => xs_in (s := 3) (a := 0) (b := 9) (by omega) (by omega) (by omega) (fun _ _ => ⟨fun _ => xs_mall hok hT hlt hM.1 vT vl hC hk (fun J1 K1 L1 e1 e2 e3 e4 e5 e6 e7 => ?_), fun y => absurd y (by decide)⟩) (fun y => absurd ⟨by omega, by omega⟩ y), fun y => absurd y (by decide)⟩) (fun y => by rw [hps] at y; cases y)
    have hR1 := hR J1 K1 (fun j hj => e6 j (by omega)) (fun j hj => e7 j (by omega))
    rw [hcl5]
    have hK1 := e7 1 (by decide)
    have hK2 := e7 2 (by decide)
    have hK3 := e7 3 (by decide)
    have hK6 := e7 6 (by decide)
    have hJ2 := e6 2 (by decide)
    refine ⟨fun z => absurd z (by decide), fun z => absurd z (by decide), fun z => absurd z (by decide), fun _ => ⟨hv5, fun v ev => ⟨?_, hR1⟩⟩, fun z => absurd z (by decide), fun z => absurd z (by decide), fun z => absurd z (by decide), fun z => absurd z (by decide), fun z => absurd z (by decide), fun z0 z1 z2 z3 z4 z5 z6 z7 z8 => absurd rfl z3⟩
    rw [ev, hK3]; exact t3
  · subst zx
    rw [s1] at ev
    subst ev
    unfold sm_X8_pair
    refine xs_isThere hE hp (fun _ => ⟨fun _ => xs_in (s := 4) (a := 0) (b := 9) (by omega) (by omega) (by omega) (fun _ _ => ⟨fun _ => xs_mall hok hT hlt hM.1 vT vl hC hk (fun J1 K1 L1 e1 e2 e3 e4 e5 e6 e7 => ?_), fun y => absurd y (by decide)⟩) (fun y => absurd ⟨by omega, by omega⟩ y), fun y => absurd y (by decide)⟩) (fun y => by rw [hps] at y; cases y)
    have hR1 := hR J1 K1 (fun j hj => e6 j (by omega)) (fun j hj => e7 j (by omega))
    rw [hcl5]
    have hK1 := e7 1 (by decide)
    have hK2 := e7 2 (by decide)
    have hK3 := e7 3 (by decide)
    have hK6 := e7 6 (by decide)
    have hJ2 := e6 2 (by decide)
    exact ⟨fun z => absurd z (by decide), fun z => absurd z (by decide), fun z => absurd z (by decide), fun z => absurd z (by decide), fun _ => xs_mwf (by rw [hJ2]; exact vT) (fun w hw => by rw [hK6]; exact vl w hw) hT hlt hp (by rw [hK1]; exact t1) (by rw [hK2]; exact t2) ho8.1 hcl ⟨rfl, hR1⟩, fun z => absurd z (by decide), fun z => absurd z (by decide), fun z => absurd z (by decide), fun z => absurd z (by decide), fun z0 z1 z2 z3 z4 z5 z6 z7 z8 => absurd rfl z4⟩
  · subst zx
    rw [s2] at ev
    subst ev
    unfold sm_X8_pair
    refine xs_isThere hE hp (fun _ => ⟨fun _ => xs_in (s := 5) (a := 0) (b := 9) (by omega) (by omega) (by omega) (fun _ _ => ⟨fun _ => xs_mall hok hT hlt hM.1 vT vl hC hk (fun J1 K1 L1 e1 e2 e3 e4 e5 e6 e7 => ?_), fun y => absurd y (by decide)⟩) (fun y => absurd ⟨by omega, by omega⟩ y), fun y => absurd y (by decide)⟩) (fun y => by rw [hps] at y; cases y)
    have hR1 := hR J1 K1 (fun j hj => e6 j (by omega)) (fun j hj => e7 j (by omega))
    rw [hcl5]
    have hK1 := e7 1 (by decide)
    have hK2 := e7 2 (by decide)
    have hK3 := e7 3 (by decide)
    have hK6 := e7 6 (by decide)
    have hJ2 := e6 2 (by decide)
    exact ⟨fun z => absurd z (by decide), fun z => absurd z (by decide), fun z => absurd z (by decide), fun z => absurd z (by decide), fun z => absurd z (by decide), fun _ => xs_mwt (by rw [hJ2]; exact vT) (fun w hw => by rw [hK6]; exact vl w hw) hT hlt hp (by rw [hK1]; exact t1) (by rw [hK2]; exact t2) ho8.1 hcl ⟨rfl, hR1⟩, fun z => absurd z (by decide), fun z => absurd z (by decide), fun z => absurd z (by decide), fun z0 z1 z2 z3 z4 z5 z6 z7 z8 => absurd rfl z5⟩
  · subst zx
    rw [r1] at ev
    subst ev
    unfold sm_X8_pair
    refine xs_isThere hE hp (fun _ => ⟨fun _ => xs_in (s := 6) (a := 0) (b := 9) (by omega) (by omega) (by omega) (fun _ _ => ⟨fun _ => xs_mall hok hT hlt hM.1 vT vl hC hk (fun J1 K1 L1 e1 e2 e3 e4 e5 e6 e7 => ?_), fun y => absurd y (by decide)⟩) (fun y => absurd ⟨by omega, by omega⟩ y), fun y => absurd y (by decide)⟩) (fun y => by rw [hps] at y; cases y)
    have hR1 := hR J1 K1 (fun j hj => e6 j (by omega)) (fun j hj => e7 j (by omega))
    rw [hcl5]
    have hK1 := e7 1 (by decide)
    have hK2 := e7 2 (by decide)
    have hK3 := e7 3 (by decide)
    have hK6 := e7 6 (by decide)
    have hJ2 := e6 2 (by decide)
    refine ⟨fun z => absurd z (by decide), fun z => absurd z (by decide), fun z => absurd z (by decide), fun z => absurd z (by decide), fun z => absurd z (by decide), fun z => absurd z (by decide), fun _ => ⟨hv5, fun v ev => ⟨?_, hR1⟩⟩, fun z => absurd z (by decide), fun z => absurd z (by decide), fun z0 z1 z2 z3 z4 z5 z6 z7 z8 => absurd rfl z6⟩
    rw [ev]; exact (e4 p hp).1
  · subst zx
    rw [r2] at ev
    subst ev
    unfold sm_X8_pair
    refine xs_isThere hE hp (fun _ => ⟨fun _ => xs_in (s := 7) (a := 0) (b := 9) (by omega) (by omega) (by omega) (fun _ _ => ⟨fun _ => xs_mall hok hT hlt hM.1 vT vl hC hk (fun J1 K1 L1 e1 e2 e3 e4 e5 e6 e7 => ?_), fun y => absurd y (by decide)⟩) (fun y => absurd ⟨by omega, by omega⟩ y), fun y => absurd y (by decide)⟩) (fun y => by rw [hps] at y; cases y)
    have hR1 := hR J1 K1 (fun j hj => e6 j (by omega)) (fun j hj => e7 j (by omega))
    rw [hcl5]
    have hK1 := e7 1 (by decide)
    have hK2 := e7 2 (by decide)
    have hK3 := e7 3 (by decide)
    have hK6 := e7 6 (by decide)
    have hJ2 := e6 2 (by decide)
    refine ⟨fun z => absurd z (by decide), fun z => absurd z (by decide), fun z => absurd z (by decide), fun z => absurd z (by decide), fun z => absurd z (by decide), fun z => absurd z (by decide), fun z => absurd z (by decide), fun _ => ⟨hv5, fun v ev => ⟨?_, hR1⟩⟩, fun z => absurd z (by decide), fun z0 z1 z2 z3 z4 z5 z6 z7 z8 => absurd rfl z7⟩
    rw [ev]; exact (e4 p hp).2
  · subst zx
    rw [r3] at ev
    subst ev
    unfold sm_X8_pair
    refine xs_isThere hE hp (fun _ => ⟨fun _ => xs_in (s := 8) (a := 0) (b := 9) (by omega) (by omega) (by omega) (fun _ _ => ⟨fun _ => xs_mall hok hT hlt hM.1 vT vl hC hk (fun J1 K1 L1 e1 e2 e3 e4 e5 e6 e7 => ?_), fun y => absurd y (by decide)⟩) (fun y => absurd ⟨by omega, by omega⟩ y), fun y => absurd y (by decide)⟩) (fun y => by rw [hps] at y; cases y)
    have hR1 := hR J1 K1 (fun j hj => e6 j (by omega)) (fun j hj => e7 j (by omega))
    rw [hcl5]
    have hK1 := e7 1 (by decide)
    have hK2 := e7 2 (by decide)
    have hK3 := e7 3 (by decide)
    have hK6 := e7 6 (by decide)
    have hJ2 := e6 2 (by decide)
    rw [(e4 p hp).1, (e4 p hp).2]
    refine ⟨fun z => absurd z (by decide), fun z => absurd z (by decide), fun z => absurd z (by decide), fun z => absurd z (by decide), fun z => absurd z (by decide), fun z => absurd z (by decide), fun z => absurd z (by decide), fun z => absurd z (by decide), fun _ => ⟨hv5, fun v ev => ⟨hv5, fun v2 ev2 => ?_⟩⟩, fun z0 z1 z2 z3 z4 z5 z6 z7 z8 => absurd rfl z8⟩
    rw [ev, ev2]
    exact xs_mcost (by rw [hJ2]; exact vT) (fun w hw => by rw [hK6]; exact vl w hw) hT hlt hp (by rw [hK1]; exact t1) (by rw [hK2]; exact t2) ho8.1 hcl (by omega) (by omega) ⟨rfl, hR1⟩
  · subst zx
    unfold sm_X8_pair
    refine xs_isThere hE hp (fun _ => ⟨fun _ => xs_in (s := 9) (a := 0) (b := 9) (by omega) (by omega) (by omega) (fun _ _ => ⟨fun _ => xs_mall hok hT hlt hM.1 vT vl hC hk (fun J1 K1 L1 e1 e2 e3 e4 e5 e6 e7 => ?_), fun y => absurd y (by decide)⟩) (fun y => absurd ⟨by omega, by omega⟩ y), fun y => absurd y (by decide)⟩) (fun y => by rw [hps] at y; cases y)
    have hR1 := hR J1 K1 (fun j hj => e6 j (by omega)) (fun j hj => e7 j (by omega))
    rw [hcl5]
    have hK1 := e7 1 (by decide)
    have hK2 := e7 2 (by decide)
    have hK3 := e7 3 (by decide)
    have hK6 := e7 6 (by decide)
    have hJ2 := e6 2 (by decide)
    refine ⟨fun z => absurd z (by decide), fun z => absurd z (by decide), fun z => absurd z (by decide), fun z => absurd z (by decide), fun z => absurd z (by decide), fun z => absurd z (by decide), fun z => absurd z (by decide), fun z => absurd z (by decide), fun z => absurd z (by decide), fun _ _ _ _ _ _ _ _ _ => xs_linksOf (fun w hw => by rw [hK6]; exact vl w hw) hp (by rw [hK1]; exact t1) (by rw [hK2]; exact t2) ho8.1 hcl ⟨fun y => ⟨?_, hR1⟩, fun y => ⟨?_, hR1⟩⟩⟩
    · rw [decide_eq_false (fun w => y (by rw [w]; rfl))]; rfl
    · rw [decide_eq_true ((xn_eq (b := 0) (by have := xg_256 (xg_un_lt (a := op p) hlt (cl p) hcl) hT; omega) (by omega)).mp y)]; rfl
  · unfold sm_X8_pair
    refine xs_isThere hE hp (fun _ => ⟨fun _ => ?_, fun y => absurd y (by decide)⟩) (fun y => by rw [hps] at y; cases y)
    have hbad : ∀ w : Nat, w ≤ 9 → x2 ≠ nI w := by
      intro w hw he
      obtain rfl | rfl | rfl | rfl | rfl | rfl | rfl | rfl | rfl | rfl : w = 0 ∨ w = 1 ∨ w = 2 ∨ w = 3 ∨ w = 4 ∨ w = 5 ∨ w = 6 ∨ w = 7 ∨ w = 8 ∨ w = 9 := by omega
      · exact z0 he
      · exact z1 he
      · exact z2 he
      · exact z3 he
      · exact z4 he
      · exact z5 he
      · exact z6 he
      · exact z7 he
      · exact z8 he
      · exact z9 he
    exact xs_inx (b := 9) (by omega) hbad ⟨fun y => absurd rfl y, fun _ => ⟨rfl, hR J K (fun _ _ => rfl) (fun _ _ => rfl)⟩⟩
