/-! ===== read, fault, load: both sides ===== -/
def xa_oc (A : xa_R) : Nat := A.2.2.2.2.1
def xa_res (sg : Nat → Nat) (c : Nat) : Int32 := match xa_go sg c 0 xa_0 with
  | .inl k => nI k
  | .inr A => if xa_oc A = 0 then -6 else nI c
theorem xa_go_ok {sg : Nat → Nat} : ∀ (d k : Nat) (A B : xa_R), xa_ok A → xa_go sg d k A = .inr B → xa_ok B
  | 0, k, A, B, h, e => by cases e; exact h
  | d + 1, k, A, B, h, e => by
    rw [xa_go] at e
    split at e
    · cases e
    · rename_i A' hs
      exact xa_go_ok d (k + 1) A' B (xa_step_ok h hs) e
theorem xa_go_lt {sg : Nat → Nat} : ∀ (d k : Nat) (A : xa_R) (j : Nat), xa_go sg d k A = .inl j → j < k + d
  | 0, k, A, j, e => by cases e
  | d + 1, k, A, j, e => by
    rw [xa_go] at e
    split at e
    · cases e; omega
    · rename_i A' hs
      have := xa_go_lt d (k + 1) A' j e
      omega
theorem xa_oc_le {A : xa_R} (h : xa_ok A) : xa_oc A ≤ 5 := by
  obtain ⟨n, ps, mb, mc, oc, op, cl, hd, hb, mg, mr, st, rk⟩ := A
  have o5 : oc ≤ xa_pop ps := h.2.2.2.2.1
  have o2 : ps < 32 := h.2.1
  have : ∀ s, s < 32 → xa_pop s ≤ 5 := by decide +kernel
  have := this ps o2
  show oc ≤ 5
  omega
theorem xs_read {c : Nat} {sg : Nat → Nat} {I : xw_I} {F : xw_F} {G : xw_G} {post : Int32 → xw_I → xw_F → xw_G → Prop} (hc : c ≤ 30) (hI : I 1 = nI c) (hF : ∀ i, i < c → F 10 i = nI (sg i)) (hsg : ∀ i, i < c → sg i < 127)
    (h : ∀ I1 F1, xe_fr I I1 F F1 → (∀ A, xa_go sg c 0 xa_0 = .inr A → xe_P I1 F1 A) → post (xa_res sg c) I1 F1 G) : sm_X1_read I F G post := by
  intro k9 k47 r9 r47
  have key : ∀ (d k : Nat) (A : xa_R) (I1 : xw_I) (F1 : xw_F), k + d = c → xa_ok A → xe_P I1 F1 A → xe_fr I I1 F F1 → xa_go sg d k A = xa_go sg c 0 xa_0 → k9 (nI k) I1 F1 G := by
    intro d
    induction d with
    | zero =>
      intro k A I1 F1 hk hok hE hfr hgo
      have hI1 : I1 1 = nI c := (hfr.1 1 (by omega)).trans hI
      apply r9
      unfold bd_X1_read_9
      have hkc : k = c := by omega
      subst hkc
      have hgo : xa_go sg k 0 xa_0 = .inr A := hgo.symm
      have h47 : k47 I1 F1 G := by
        apply r47
        unfold bd_X1_read_47
        have hres : xa_res sg k = if xa_oc A = 0 then -6 else nI k := by unfold xa_res; rw [hgo]
        have hp := h I1 F1 hfr (fun B e => by rw [hgo] at e; cases e; exact hE)
        have hoc := xa_oc_le hok
        have h6 : I1 6 = nI (xa_oc A) := by
          obtain ⟨n, ps, mb, mc, oc, op, cl, hd, hb, mg, mr, st, rk⟩ := A
          exact hE.2.2.2.2.1
        rw [hres] at hp
        rw [h6]
        refine ⟨fun q => ?_, fun q => ?_⟩
        · have : xa_oc A ≤ 0 := (xn_le (b := 0) (by omega) (by omega)).mp q
          rw [if_pos (by omega)] at hp; exact hp
        · rw [if_neg (fun z => q (by rw [z]; exact (xn_le (a := 0) (b := 0) (by omega) (by omega)).mpr (by omega)))] at hp
          rw [hI1]; exact hp
      exact ⟨fun _ => h47, fun q => absurd (by rw [hI1]; exact (xn_le (by omega) (by omega)).mpr (Nat.le_refl _)) q⟩
    | succ d ih =>
      intro k A I1 F1 hk hok hE hfr hgo
      have hI1 : I1 1 = nI c := (hfr.1 1 (by omega)).trans hI
      apply r9
      unfold bd_X1_read_9
      rw [hI1]
      refine ⟨fun q => absurd ((xn_le (by omega) (by omega)).mp q) (by omega), fun _ => ⟨fun q => absurd ((xn_le (a := 30) (by omega) (by omega)).mp q) (by omega), fun _ => ?_⟩⟩
      refine ⟨vp_in_nI (by omega) (by omega), fun v ev => ?_⟩
      rw [nI_clamp (by omega), hfr.2 10 (by omega), hF k (by omega)] at ev
      subst ev
      refine xs_take (hsg k (by omega)) hok hE (fun hs => ?_) (fun A' I2 F2 hs hE2 hfr2 => ?_)
      · refine ⟨fun q => absurd rfl q, fun _ => ?_⟩
        have hg : xa_go sg c 0 xa_0 = .inl k := by rw [← hgo, xa_go, hs]
        have hp := h I1 F1 hfr (fun B e => by rw [hg] at e; cases e)
        have hres : xa_res sg c = nI k := by unfold xa_res; rw [hg]
        rw [hres] at hp
        exact hp
      · refine ⟨fun _ => ?_, fun q => absurd q (by decide)⟩
        intro w ew
        rw [ew, nI_1]
        refine ih (k + 1) A' I2 F2 (by omega) (xa_step_ok hok hs) hE2 (hfr.tr hfr2) ?_
        rw [← hgo, xa_go, hs]
  unfold bd_X1_read_0 sm_X4_clear
  intro I1 e1 I2 e2 I3 e3 I4 e4 I5 e5
  refine key c 0 xa_0 I5 F (by omega) xa_ok0 ?_ ?_ rfl
  · refine ⟨?_, ?_, ?_, ?_, ?_, fun p _ hb => ?_, fun m _ hb => ?_, fun i hi => ?_, fun i hi => ?_⟩
    · rw [e5, xw_upn (by decide), e4, xw_upn (by decide), e3, xw_upn (by decide), e2, xw_upn (by decide), e1, xw_ups]; rfl
    · rw [e5, xw_upn (by decide), e4, xw_upn (by decide), e3, xw_upn (by decide), e2, xw_ups]; rfl
    · rw [e5, xw_upn (by decide), e4, xw_upn (by decide), e3, xw_ups]; rfl
    · rw [e5, xw_upn (by decide), e4, xw_ups]; rfl
    · rw [e5, xw_ups]; rfl
    · simp at hb
    · simp at hb
    · omega
    · omega
  · exact ⟨fun j hj => by rw [e5, xw_upn (by omega), e4, xw_upn (by omega), e3, xw_upn (by omega), e2, xw_upn (by omega), e1, xw_upn (by omega)], fun _ _ => rfl⟩
theorem xs_in {s a b : Nat} {post : Int32 → Prop} (hs : s < 2 ^ 31) (ha : a < 2 ^ 31) (hb : b < 2 ^ 31) (h1 : a ≤ s → s ≤ b → post 1) (h0 : ¬ (a ≤ s ∧ s ≤ b) → post 0) : sm_X8_in (nI s) (nI a) (nI b) post := by
  unfold sm_X8_in
  refine ⟨fun q => h0 (fun z => by have := (xn_lt hs ha).mp q; omega), fun q => ⟨fun q2 => h0 (fun z => by have := (xn_lt hb hs).mp q2; omega), fun q2 => h1 ?_ ?_⟩⟩
  · exact Nat.not_lt.mp (fun z => q ((xn_lt hs ha).mpr z))
  · exact Nat.not_lt.mp (fun z => q2 ((xn_lt hb hs).mpr z))
theorem xn_dec {a : Nat} (h : 0 < a) : nI a + (-1) = nI (a - 1) := by
  obtain ⟨b, rfl⟩ : ∃ b, a = b + 1 := ⟨a - 1, by omega⟩
  rw [show b + 1 - 1 = b by omega, ← nI_pred b, Int32.sub_eq_add_neg]
theorem xn_b1 (b : Bool) : (nI b.toNat = 1) ↔ b = true := by cases b <;> decide
theorem xs_fault {c : Nat} {sg : Nat → Nat} {I : xw_I} {F : xw_F} {G : xw_G} {post : Int32 → xw_I → xw_F → xw_G → Prop} (hc : c ≤ 30) (hI : I 3 = nI c) (hF : ∀ i, i < c → F 7 i = nI (sg i)) (hsg : ∀ i, i < c → sg i < 127)
    (h : ∀ F1, (∀ j, j ≠ 8 → F1 j = F j) → post (xa_res sg c) I F1 G) : sm_X8_faultOf I F G post := by
  intro k12 r12
  have key : ∀ (d k n ps mb mc oc : Nat) (op cl hd hb mg mr st rk : Nat → Nat) (F1 : xw_F), k + d = c → xa_ok (n, ps, mb, mc, oc, op, cl, hd, hb, mg, mr, st, rk) → (∀ i, i < oc → F1 8 i = nI (st i)) → (∀ j, j ≠ 8 → F1 j = F j) → xa_go sg d k (n, ps, mb, mc, oc, op, cl, hd, hb, mg, mr, st, rk) = xa_go sg c 0 xa_0 → k12 (nI n) (nI ps) (nI mb) (nI oc) (nI k) I F1 G := by
    intro d
    induction d with
    | zero =>
      intro k n ps mb mc oc op cl hd hb mg mr st rk F1 hk hok hst hfr hgo
      apply r12
      unfold bd_X8_faultOf_12
      have hkc : k = c := by omega
      subst hkc
      have hgo : xa_go sg k 0 xa_0 = .inr _ := hgo.symm
      have hoc : oc ≤ 5 := xa_oc_le hok
      have hres : xa_res sg k = if oc = 0 then -6 else nI k := by unfold xa_res; rw [hgo]; rfl
      have hp := h F1 hfr
      rw [hres] at hp
      rw [hI]
      refine ⟨fun _ => ⟨fun q => ?_, fun q => ?_⟩, fun q => absurd ((xn_le (by omega) (by omega)).mpr (Nat.le_refl _)) q⟩
      · have : oc ≤ 0 := (xn_le (b := 0) (by omega) (by omega)).mp q
        rw [if_pos (by omega)] at hp; exact hp
      · rw [if_neg (fun z => q (by rw [z]; exact (xn_le (a := 0) (b := 0) (by omega) (by omega)).mpr (by omega)))] at hp
        exact hp
    | succ d ih =>
      intro k n ps mb mc oc op cl hd hb mg mr st rk F1 hk hok hst hfr hgo
      have hok' := hok
      obtain ⟨o1, o2, o3, o4, o5, o6, o7, o8, o9, o10, o11, o12, o13, o14⟩ := hok'
      have hoc : oc ≤ 5 := xa_oc_le hok
      apply r12
      unfold bd_X8_faultOf_12
      rw [hI]
      refine ⟨fun q => absurd ((xn_le (by omega) (by omega)).mp q) (by omega), fun _ => ⟨vp_in_nI (by omega) (by omega), fun v ev => ?_⟩⟩
      rw [nI_clamp (by omega), hfr 7 (by decide), hF k (by omega)] at ev
      subst ev
      obtain ⟨s, hs⟩ : ∃ s, s = sg k := ⟨_, rfl⟩
      have hs127 : s < 127 := by rw [hs]; exact hsg k (by omega)
      have hfail : xa_step (n, ps, mb, mc, oc, op, cl, hd, hb, mg, mr, st, rk) s = none → post (nI k) I F1 G := by
        intro hz
        have hg : xa_go sg c 0 xa_0 = .inl k := by rw [← hgo, xa_go, ← hs, hz]
        have hp := h F1 hfr
        have hres : xa_res sg c = nI k := by unfold xa_res; rw [hg]
        rw [hres] at hp
        exact hp
      have hgo2 : ∀ A', xa_step (n, ps, mb, mc, oc, op, cl, hd, hb, mg, mr, st, rk) s = some A' → xa_go sg d (k + 1) A' = xa_go sg c 0 xa_0 := by
        intro A' hz
        rw [← hgo, xa_go, ← hs, hz]
      have hok2 : ∀ A', xa_step (n, ps, mb, mc, oc, op, cl, hd, hb, mg, mr, st, rk) s = some A' → xa_ok A' := fun A' hz => xa_step_ok hok hz
      rw [← hs]
      unfold xa_step at hfail hgo2 hok2
      dsimp only at hfail hgo2 hok2
      refine ⟨fun c46 => ?_, fun c46 => ?_⟩
      · have c46 : s ≠ 46 := fun z => c46 (by rw [z]; rfl)
        rw [if_neg c46] at hfail hgo2 hok2
        refine xs_in (a := 65) (b := 69) (by omega) (by omega) (by omega) (fun a1 a2 => ?_) (fun a0 => ?_)
        · refine ⟨fun q => absurd q (by decide), fun _ => ?_⟩
          rw [if_pos (by omega)] at hfail hgo2 hok2
          rw [show (65 : Int32) = nI 65 from rfl, xn_sub a1]
          obtain ⟨p, hp⟩ : ∃ p, p = s - 65 := ⟨_, rfl⟩
          rw [← hp] at hfail hgo2 hok2 ⊢
          rw [xb_bit (by omega) (by omega), xn_b1]
          refine ⟨fun q => ?_, fun q => ?_⟩
          · have q : ps.testBit p = false := by simpa using q
            rw [q] at hgo2 hok2
            obtain ⟨g1, g2, g3⟩ := xa_pop_new ps o2 p (by omega) q
            intro v ev
            refine ⟨vp_in_nI (by omega) (by omega), fun F2 eF2 w ew u eu => ?_⟩
            rw [ev, ew, eu, nI_1, nI_1, xb_shl p (by omega), xb_or]
            rw [nI_clamp (by omega)] at eF2
            refine ih (k + 1) _ _ _ _ _ _ _ _ _ _ _ _ _ F2 (by omega) (hok2 _ rfl) ?_ ?_ (hgo2 _ rfl)
            · intro i hi
              rw [eF2, xw_ups, xb_updi]
              by_cases hio : i = oc
              · subst hio; rw [if_pos rfl, xa_us]
              · rw [if_neg hio, xa_un hio]; exact hst i (by omega)
            · intro j hj; rw [eF2, xw_upn hj]; exact hfr j hj
          · rw [q] at hfail; exact hfail rfl
        · refine ⟨fun _ => ?_, fun q => absurd rfl q⟩
          rw [if_neg (by omega)] at hfail hgo2 hok2
          refine xs_in (a := 97) (b := 101) (by omega) (by omega) (by omega) (fun a1 a2 => ?_) (fun a02 => ?_)
          · refine ⟨fun q => absurd q (by decide), fun _ => ?_⟩
            rw [if_pos (by omega)] at hfail hgo2 hok2
            rw [show (97 : Int32) = nI 97 from rfl, xn_sub a1]
            obtain ⟨p, hp⟩ : ∃ p, p = s - 97 := ⟨_, rfl⟩
            rw [← hp] at hfail hgo2 hok2 ⊢
            refine ⟨fun q => ?_, fun q => ?_⟩
            · have q : oc = 0 := (xn_eq (b := 0) (by omega) (by omega)).mp q
              rw [if_neg (by omega)] at hfail; exact hfail rfl
            · have q : 0 < oc := Nat.pos_of_ne_zero (fun z => q (by rw [z]; rfl))
              rw [show (1 : Int32) = nI 1 from rfl, xn_sub (show 1 ≤ oc from q)]
              refine ⟨vp_in_nI (by omega) (by omega), fun v ev => ?_⟩
              rw [nI_clamp (by omega), hst (oc - 1) (by omega)] at ev
              have hst5 := (o6 (oc - 1) (by omega)).1
              subst ev
              refine ⟨fun z => ?_, fun z => ?_⟩
              · have z : st (oc - 1) = p := (xn_eq (by omega) (by omega)).mp z
                rw [if_pos ⟨q, z⟩] at hgo2 hok2
                intro w ew u eu
                rw [ew, eu, ← show (1 : Int32) = nI 1 from rfl, nI_1, xn_dec q]
                exact ih (k + 1) _ _ _ _ _ _ _ _ _ _ _ _ _ F1 (by omega) (hok2 _ rfl) (fun i hi => hst i (by omega)) hfr (hgo2 _ rfl)
              · rw [if_neg (fun y => z (by rw [y.2]))] at hfail; exact hfail rfl
          · refine ⟨fun _ => ?_, fun q => absurd rfl q⟩
            rw [if_neg (by omega)] at hfail hgo2 hok2
            refine xs_in (a := 120) (b := 122) (by omega) (by omega) (by omega) (fun a1 a2 => ?_) (fun a03 => ?_)
            · refine ⟨fun q => absurd q (by decide), fun _ => ?_⟩
              rw [if_pos (by omega)] at hfail hgo2 hok2
              rw [show (120 : Int32) = nI 120 from rfl, xn_sub a1]
              obtain ⟨p, hp⟩ : ∃ p, p = s - 120 := ⟨_, rfl⟩
              rw [← hp] at hfail hgo2 hok2 ⊢
              rw [xb_bit (by omega) (by omega), xn_b1]
              refine ⟨fun q => ?_, fun q => ?_⟩
              · have q : mb.testBit p = false := by simpa using q
                rw [q] at hgo2 hok2
                intro v ev u eu
                rw [ev, eu, nI_1, xb_shl p (by omega), xb_or]
                exact ih (k + 1) _ _ _ _ _ _ _ _ _ _ _ _ _ F1 (by omega) (hok2 _ rfl) hst hfr (hgo2 _ rfl)
              · rw [q] at hfail; exact hfail rfl
            · refine ⟨fun _ => ?_, fun q => absurd rfl q⟩
              rw [if_neg (by omega)] at hfail; exact hfail rfl
      · have c46 : s = 46 := (xn_eq (b := 46) (by omega) (by omega)).mp c46
        rw [if_pos c46] at hfail hgo2 hok2
        refine ⟨fun q => ?_, fun q => ?_⟩
        · have q : n < 12 := Nat.lt_of_le_of_ne o1 (fun z => q (by rw [z]; rfl))
          rw [if_pos q] at hgo2 hok2
          intro v ev u eu
          rw [ev, eu, nI_1, nI_1]
          exact ih (k + 1) _ _ _ _ _ _ _ _ _ _ _ _ _ F1 (by omega) (hok2 _ rfl) hst hfr (hgo2 _ rfl)
        · have q : n = 12 := (xn_eq (b := 12) (by omega) (by omega)).mp q
          rw [if_neg (by omega)] at hfail; exact hfail rfl
  exact key c 0 0 0 0 0 0 _ _ _ _ _ _ _ _ F (by omega) xa_ok0 (fun i hi => by omega) (fun _ _ => rfl) rfl
