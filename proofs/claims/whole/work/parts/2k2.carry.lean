/-! ===== what is carried ===== -/
def xc_Q : xc_T := fun I F A T lk => match A with
  | (n, ps, mb, mc, oc, op, cl, hd, hb, mg, mr, st, rk) => xw_found lk I F (n, ps, mb, mc, oc, op, cl, hd, hb, mg, mr, st, rk) ∧
    ∃ C, xd_hC hd (xd_code (fun p => xg_wf lk (op p) (cl p)) (fun p => xg_wt lk (op p) (cl p))) ps T (2 ^ 60) C ∧ xw_placed (fun p => xg_wf lk (op p) (cl p)) (fun p => xg_wt lk (op p) (cl p)) (C ps 0 T) ps I F ∧
    ∃ mv ch, xk_tab (fun i => xg_an lk (mg (mr i))) mc T mv ch ∧ xw_marked mc mr mv ch I F ∧ xt_L (I 17) (F 37) (xt_cat (xt_all ps T mc hd hb (xd_fr (C ps 0 T)) (xd_to (C ps 0 T)) mr (xk_gq ch)) (T + 1))
theorem xc_Q_ok : xc_ok xc_Q := by
  intro I I1 F F1 A T lk hI hF h
  obtain ⟨n, ps, mb, mc, oc, op, cl, hd, hb, mg, mr, st, rk⟩ := A
  obtain ⟨⟨f1, f2, f3⟩, C, c1, ⟨c2, c3⟩, mv, ch, m1, ⟨m2, m3⟩, t⟩ := h
  refine ⟨⟨by rw [hI 13 (by decide)]; exact f1, fun p hp hb => by rw [hF 22 (by decide), hF 23 (by decide)]; exact f2 p hp hb, fun m hm hb => by rw [hF 24 (by decide)]; exact f3 m hm hb⟩, C, c1, ⟨by rw [hI 14 (by decide)]; exact c2, fun p hp hb => by rw [hF 26 (by decide), hF 27 (by decide), hF 28 (by decide)]; exact c3 p hp hb⟩, mv, ch, m1, ⟨by rw [hI 16 (by decide)]; exact m2, fun i hi => by rw [hF 33 (by decide)]; exact m3 i hi⟩, ?_⟩
  rw [hI 17 (by decide), hF 37 (by decide)]; exact t
theorem xd_cM {lk op cl : Nat → Nat} {T : Nat} (hT : T ≤ 8) : ∀ p a b, p < 5 → a ≤ b → b ≤ T → xd_code (fun p => xg_wf lk (op p) (cl p)) (fun p => xg_wt lk (op p) (cl p)) p a b ≤ 33 * 2 ^ 40 := by
  intro p a b hp hab hb
  have h1 := xg_w8 lk (op p) (cl p)
  exact (xd_code_le (wf := fun p => xg_wf lk (op p) (cl p)) (wt := fun p => xg_wt lk (op p) (cl p)) hp h1.1 h1.2 (by omega) (by omega)).2
theorem xa_mc3 {mb mc : Nat} (h : mb < 8) (h2 : mc = xa_pop mb) : mc ≤ 3 := by have := xa_pop_le mb h; omega
/-- all that the writers need, from what is told -/
theorem xc_P {n ps mb mc oc T w : Nat} {op cl hd hb mg mr st rk mt : Nat → Nat} (hok : xa_ok (n, ps, mb, mc, oc, op, cl, hd, hb, mg, mr, st, rk)) (hT : T ≤ 8) (hw : xd_sp ps 0 T w) (hm : ∀ i, i < mc → mt i ≤ T) : xt_P ps T mc hd hb (xd_fr w) (xd_to w) mr mt ∧ xt_HB ps hd hb ∧ xd_K ps hd hb rk := by
  obtain ⟨o1, o2, o3, o4, o5, o6, o7, o8, o9, o10, o11, o12, o13, o14⟩ := hok
  refine ⟨⟨⟨o2, hT, xa_mc3 o3 o4⟩, fun p hp hb => ⟨(o8 p hp hb).2.2.1, (o8 p hp hb).2.2.2.1, xd_dig hT hw hp hb⟩, fun i hi => ⟨(o12 i hi).1, hm i hi⟩⟩, fun p q hp hq hpp => ?_, o2, fun p hp hb => ⟨(o8 p hp hb).2.2.1, (o8 p hp hb).2.2.2.1⟩, o11, fun p q hp hq a b => (o9 p q hp hq a b).2⟩
  cases hz : ps.testBit q
  · rw [Bool.false_and]
    cases hy : (hb p).testBit q
    · rfl
    · have := o10 p q hp hq hpp hy; rw [hz] at this; cases this
  · rw [Bool.true_and, o11 p q hp hq hpp hz]
theorem xa_pop4 : ∀ s, s < 32 → ∀ p, p < 5 → s.testBit p = false → xa_pop s ≤ 4 := by decide +kernel
theorem xs_carry {A : xa_R} {T : Nat} {lk : Nat → Nat} {I : xw_I} {F : xw_F} {G : xw_G} {post : xw_I → xw_F → xw_G → Prop} (hok : xa_ok A) (hT : T ≤ 8) (hlk : xl_ok (xa_n A) T lk) (hN : xe_N I F A) (hI : I 12 = nI T) (hl : ∀ w, w < 12 → F 20 w = nI (lk w)) (hG : ∀ i, i < 81 → G 30 i = 0) (hQ : I 0 = 0 → xc_Q I F A T lk)
    (h : ∀ I1 F1 G1, xc_Q I1 F1 A T lk → (∀ j, j ≠ 0 → j < 13 → I1 j = I j) → (∀ j, j < 22 → F1 j = F j) → (∀ i, i < 81 → G1 30 i = 0) → post I1 F1 G1) : sm_X7_carry I F G post := by
  unfold sm_X7_carry
  refine ⟨fun _ => ?_, fun z => h I F G (hQ z) (fun _ _ _ => rfl) (fun _ _ => rfl) hG⟩
  have hlt : ∀ w, w < 12 → lk w < 2 ^ T := fun w hw => (hlk w hw).1
  refine xs_find hok hN hl hT hlt (fun I3 F3 hf i3 f3 => ?_)
  obtain ⟨n, ps, mb, mc, oc, op, cl, hd, hb, mg, mr, st, rk⟩ := A
  have hok0 := hok
  obtain ⟨o1, o2, o3, o4, o5, o6, o7, o8, o9, o10, o11, o12, o13, o14⟩ := hok
  obtain ⟨n1, n2, n3, n4, n5, n6, n7⟩ := hN
  obtain ⟨w1, w2, w3⟩ := hf
  have hmc3 := xa_mc3 o3 o4
  rw [i3 12 (by decide), hI]
  have hW : ∀ p, p < 5 → ps.testBit p = true → xg_wf lk (op p) (cl p) ≤ xg_wt lk (op p) (cl p) ∧ xg_wt lk (op p) (cl p) ≤ T := fun p hp hb => xg_w_le hlt hT (by have := o8 p hp hb; omega) (by have := o8 p hp hb; omega)
  refine xs_place (ps := ps) (T := T) (hd := hd) (hb := hb) (rk := rk) (wf := fun p => xg_wf lk (op p) (cl p)) (wt := fun p => xg_wt lk (op p) (cl p)) ⟨o2, fun p hp hb => ⟨(o8 p hp hb).2.2.1, (o8 p hp hb).2.2.2.1⟩, o11, fun p q hp hq a b => (o9 p q hp hq a b).2⟩ (by rw [i3 8 (by decide)]; exact n2) (fun p hp hb => by rw [f3 15 (by decide), f3 16 (by decide)]; exact (n5 p hp hb).2.2) hT (fun p hp hb => ⟨(w2 p hp hb).1, (w2 p hp hb).2, hW p hp hb⟩) hG (fun C I4 F4 G4 hC hpl i4 f4 g4 => ?_)
  have hM : ∀ p a b, p < 5 → a ≤ b → b ≤ T → xd_code (fun p => xg_wf lk (op p) (cl p)) (fun p => xg_wt lk (op p) (cl p)) p a b ≤ 33 * 2 ^ 40 := xd_cM hT
  have hsp := xd_span o2 (fun p q hp hq a b => (o9 p q hp hq a b).2) hC hM xd_big ps o2 (Nat.and_self ps) _ 0 T rfl (by omega) (Nat.le_refl _)
  rw [i4 12 (by decide) (by decide), i3 12 (by decide), hI]
  refine xs_cmarks (mc := mc) (T := T) (mr := mr) (wn := fun i => xg_an lk (mg (mr i))) hmc3 hT (by rw [i4 10 (by decide) (by decide), i3 10 (by decide)]; exact n4) (fun i hi => ⟨by rw [f4 18 (by decide), f3 18 (by decide)]; exact n7 i hi, (o12 i hi).1, by rw [f4 24 (by decide)]; exact w3 _ (o12 i hi).1 (o12 i hi).2, xg_bg_le _ 8⟩) o13 (fun mv ch I5 F5 hk hm i5 f5 => ?_)
  have hrise := xk_gq_rise hk
  obtain ⟨hP, hH, hK⟩ := xc_P hok0 hT hsp hrise.1
  have hX : xt_X ps T mc hd hb (xd_fr (C ps 0 T)) (xd_to (C ps 0 T)) mr (xk_gq ch) I5 F5 := by
    refine ⟨⟨?_, ?_, ?_⟩, fun p hp hb => ⟨?_, ?_, ?_, ?_⟩, fun i hi => ⟨?_, hm.2 i hi⟩⟩
    · rw [i5 8 (by decide), i4 8 (by decide) (by decide), i3 8 (by decide)]; exact n2
    · rw [i5 10 (by decide), i4 10 (by decide) (by decide), i3 10 (by decide)]; exact n4
    · rw [i5 12 (by decide), i4 12 (by decide) (by decide), i3 12 (by decide)]; exact hI
    · rw [f5 15 (by decide), f4 15 (by decide), f3 15 (by decide)]; exact (n5 p hp hb).2.2.1
    · rw [f5 16 (by decide), f4 16 (by decide), f3 16 (by decide)]; exact (n5 p hp hb).2.2.2
    · rw [f5 26 (by decide)]; exact (hpl.2 p hp hb).1
    · rw [f5 27 (by decide)]; exact (hpl.2 p hp hb).2.1
    · rw [f5 18 (by decide), f4 18 (by decide), f3 18 (by decide)]; exact n7 i hi
  have hd4 : ∀ p, p < 5 → ps.testBit p = true → xa_pop (hb p) ≤ 4 := by
    intro p hp hbp
    refine xa_pop4 (hb p) (o8 p hp hbp).2.2.2.1 p hp ?_
    rw [← o11 p p hp hp hbp hbp]
    cases hz : (hd p).testBit p
    · rfl
    · exact absurd (o9 p p hp hp hbp hz).2 (Nat.lt_irrefl _)
  refine xs_write hP hd4 hX (xt_len hT hmc3) (fun I6 F6 ht f6 I7 e7 => ?_)
  have hI7 : ∀ j, j ≠ 0 → I7 j = I6 j := fun j hj => by rw [e7, xw_upn hj]
  refine h I7 F6 G4 ⟨⟨?_, fun p hp hb => ?_, fun m hmm hb => ?_⟩, C, hC, ⟨?_, fun p hp hb => ?_⟩, mv, ch, hk, ⟨?_, fun i hi => ?_⟩, ?_⟩ (fun j hj hj2 => ?_) (fun j hj => ?_) g4
  · rw [hI7 13 (by decide), f6.1 13 (by decide), i5 13 (by decide), i4 13 (by decide) (by decide)]; exact w1
  · rw [f6.2 22 (by decide), f6.2 23 (by decide), f5 22 (by decide), f5 23 (by decide), f4 22 (by decide), f4 23 (by decide)]; exact w2 p hp hb
  · rw [f6.2 24 (by decide), f5 24 (by decide), f4 24 (by decide)]; exact w3 m hmm hb
  · rw [hI7 14 (by decide), f6.1 14 (by decide), i5 14 (by decide)]; exact hpl.1
  · rw [f6.2 26 (by decide), f6.2 27 (by decide), f6.2 28 (by decide), f5 26 (by decide), f5 27 (by decide), f5 28 (by decide)]; exact hpl.2 p hp hb
  · rw [hI7 16 (by decide), f6.1 16 (by decide)]; exact hm.1
  · rw [f6.2 33 (by decide)]; exact hm.2 i hi
  · rw [hI7 17 (by decide)]; exact ht
  · rw [hI7 j hj, f6.1 j (by omega), i5 j (by omega), i4 j (by omega) (by omega), i3 j (by omega)]
  · rw [f6.2 j (by omega), f5 j (by omega), f4 j (by omega), f3 j (by omega)]
/-- the reference places, and finds the same -/
theorem xs_mall {n ps mb mc oc T : Nat} {op cl hd hb mg mr st rk lk : Nat → Nat} {C : Nat → Nat → Nat → Nat} {mv ch : Nat → Nat → Nat} {J : xw_I} {K : xw_F} {L : xw_G} {post : xw_I → xw_F → xw_G → Prop} (hok : xa_ok (n, ps, mb, mc, oc, op, cl, hd, hb, mg, mr, st, rk)) (hT : T ≤ 8) (hlt : ∀ w, w < 12 → lk w < 2 ^ T) (hM : xe_M J K (n, ps, mb, mc, oc, op, cl, hd, hb, mg, mr, st, rk)) (hI : J 2 = nI T) (hl : ∀ w, w < 12 → K 6 w = nI (lk w))
    (hC : xd_hC hd (xd_code (fun p => xg_wf lk (op p) (cl p)) (fun p => xg_wt lk (op p) (cl p))) ps T (2 ^ 60) C) (hk : xk_tab (fun i => xg_an lk (mg (mr i))) mc T mv ch)
    (h : ∀ J1 K1 L1, L1 0 0 = lN (C ps 0 T) → C ps 0 T < 2 ^ 62 → J1 4 = nI (mv 0 0) → (∀ p, p < 5 → K1 10 p = nI (xd_fr (C ps 0 T) p) ∧ K1 11 p = nI (xd_to (C ps 0 T) p)) → (∀ i, i < mc → K1 12 (mr i) = nI (xk_gq ch i)) → (∀ j, j ≠ 4 → J1 j = J j) → (∀ j, j < 10 ∨ 12 < j → K1 j = K j) → post J1 K1 L1) : sm_X8_place J K L post := by
  obtain ⟨o1, o2, o3, o4, o5, o6, o7, o8, o9, o10, o11, o12, o13, o14⟩ := hok
  obtain ⟨m1, m2, m3, m4, m5, m6, m7⟩ := hM
  have hcode : ∀ p a b, p < 5 → a ≤ b → b ≤ T → xd_code (fun p => xg_wf lk (op p) (cl p)) (fun p => xg_wt lk (op p) (cl p)) p a b ≤ 33 * 2 ^ 40 := xd_cM hT
  refine xs_mplace (ps := ps) (op := op) (cl := cl) (hd := hd) (wf := fun p => xg_wf lk (op p) (cl p)) (wt := fun p => xg_wt lk (op p) (cl p)) o2 (fun p hp hb => (o8 p hp hb).2.2.1) ⟨fun p hp hb => ⟨(m3 p hp hb).1, (m3 p hp hb).2.1, (m3 p hp hb).2.2, (o8 p hp hb).1, by have := (o8 p hp hb).2.1; omega⟩, m4⟩ hI hl hT hlt (fun p hp hb => ⟨rfl, rfl⟩) (fun B K1 L1 hB e1 e2 e3 e4 => ?_)
  obtain ⟨q1, q2, -⟩ := xd_eq o2 (fun p q hp hq a b => (o9 p q hp hq a b).2) hB hC hcode xd_big xd_big2 ps o2 (Nat.and_self ps) 0 T (by omega) (Nat.le_refl _)
  have q3 : xa_pop ps * (33 * 2 ^ 40) ≤ 5 * (33 * 2 ^ 40) := Nat.mul_le_mul_right _ (xa_pop5 ps o2)
  have q4 : B ps 0 T < 2 ^ 62 := by omega
  have e3 := e3 q4
  rw [q1] at e1 e3 q4
  refine xs_mmarks (lk := lk) (mc := mc) (T := T) (mr := mr) (mg := mg) (xa_mc3 o3 o4) hT hI m2 (fun w hw => by rw [e4 6 (by decide) (by decide)]; exact hl w hw) hlt (fun i hi => ⟨by rw [e4 5 (by decide) (by decide)]; exact m7 i hi, (o12 i hi).1, by rw [e4 4 (by decide) (by decide)]; exact m5 _ (o12 i hi).1 (o12 i hi).2, by have := (o14 _ (o12 i hi).1 (o12 i hi).2).1; omega⟩) o13 (fun w J2 K2 hf u1 u2 u3 u4 => ?_)
  obtain ⟨s1, s2⟩ := xk_same hk hf
  refine h J2 K2 L1 e1 q4 (by rw [u1, s2]) (fun p hp => by rw [u4 10 (by decide), u4 11 (by decide)]; exact e3 p hp) (fun i hi => by rw [u2 i hi, s1 i hi]) u3 (fun j hj => by rw [u4 j (by omega), e4 j (by omega) (by omega)])
