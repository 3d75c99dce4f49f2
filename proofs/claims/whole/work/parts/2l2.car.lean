theorem xq_car {I : xw_I} {F : xw_F} {G : xw_G} {J : xw_I} {K : xw_F} {post : xw_I → xw_F → xw_G → Prop} (h : xr_R xc_Q I F G J K)
    (h2 : ∀ (n ps mb mc oc : Nat) (op cl hd hb mg mr st rk : Nat → Nat) (T : Nat) (lk : Nat → Nat) (C : Nat → Nat → Nat → Nat) (mv ch : Nat → Nat → Nat) (I1 : xw_I) (F1 : xw_F) (G1 : xw_G), xa_ok (n, ps, mb, mc, oc, op, cl, hd, hb, mg, mr, st, rk) → T ≤ 8 → xl_ok n T lk → (xe_N I1 F1 (n, ps, mb, mc, oc, op, cl, hd, hb, mg, mr, st, rk) ∧ I1 12 = nI T ∧ ∀ w, w < 12 → F1 20 w = nI (lk w)) → (xe_M J K (n, ps, mb, mc, oc, op, cl, hd, hb, mg, mr, st, rk) ∧ J 2 = nI T ∧ ∀ w, w < 12 → K 6 w = nI (lk w)) → xw_found lk I1 F1 (n, ps, mb, mc, oc, op, cl, hd, hb, mg, mr, st, rk) →
      xd_hC hd (xd_code (fun p => xg_wf lk (op p) (cl p)) (fun p => xg_wt lk (op p) (cl p))) ps T (2 ^ 60) C → xw_placed (fun p => xg_wf lk (op p) (cl p)) (fun p => xg_wt lk (op p) (cl p)) (C ps 0 T) ps I1 F1 → xk_tab (fun i => xg_an lk (mg (mr i))) mc T mv ch → xw_marked mc mr mv ch I1 F1 → xt_L (I1 17) (F1 37) (xt_cat (xt_all ps T mc hd hb (xd_fr (C ps 0 T)) (xd_to (C ps 0 T)) mr (xk_gq ch)) (T + 1)) →
      (∀ J1 K1, (∀ j, j < 4 → J1 j = J j) → (∀ j, j < 10 ∨ 13 < j → K1 j = K j) → xr_R xc_Q I1 F1 G1 J1 K1 ∧ xr_im K K1) → post I1 F1 G1) : sm_X7_carry I F G post := by
  obtain ⟨A, T, lk, c, sg, ⟨a1, a2, a3⟩, ⟨n1, n2, n3⟩, ⟨m1, m2, m3⟩, ⟨c1, c2, c3, c4⟩, g1, q1⟩ := h
  refine xs_carry a1 a2 a3 n1 n2 n3 g1 q1 (fun I1 F1 G1 hQ hi hf hg => ?_)
  obtain ⟨n, ps, mb, mc, oc, op, cl, hd, hb, mg, mr, st, rk⟩ := A
  have hQ0 := hQ
  obtain ⟨f1, C, k1, k2, mv, ch, k3, k4, k5⟩ := hQ
  have n1' := n1.to (I1 := I1) (F1 := F1) (fun j p q => hi j (by omega) (by omega)) (fun j p q => hf j (by omega))
  have n2' : I1 12 = nI T := by rw [hi 12 (by decide) (by decide)]; exact n2
  have n3' : ∀ w, w < 12 → F1 20 w = nI (lk w) := fun w hw => by rw [hf 20 (by decide)]; exact n3 w hw
  refine h2 n ps mb mc oc op cl hd hb mg mr st rk T lk C mv ch I1 F1 G1 a1 a2 a3 ⟨n1', n2', n3'⟩ ⟨m1, m2, m3⟩ f1 k1 k2 k3 k4 k5 (fun J1 K1 hJ hK => ⟨⟨_, T, lk, c, sg, ⟨a1, a2, a3⟩, ⟨n1', n2', n3'⟩, ⟨m1.to (fun j p => hJ j (by omega)) (fun j p q => hK j (by omega)), by rw [hJ 2 (by decide)]; exact m2, fun w hw => by rw [hK 6 (by decide)]; exact m3 w hw⟩, ⟨c1, by rw [hi 1 (by decide) (by decide)]; exact c2, by rw [hJ 3 (by decide)]; exact c3, fun i hi2 => by rw [hf 10 (by decide), hK 7 (by decide)]; exact c4 i hi2⟩, hg, fun _ => hQ0⟩, hK 14 (by decide), hK 15 (by decide)⟩)
