/-! ===== the reference's empty pairs, and its whole text ===== -/
def xt_any (f : Nat → Bool) : Nat → Bool
  | 0 => false
  | k + 1 => xt_any f k || f k
theorem xt_hd_bit (hd : Nat → Nat) (S p : Nat) : ∀ k, (xt_hd hd S k).testBit p = xt_any (fun q => S.testBit q && (hd q).testBit p) k
  | 0 => by rw [xt_hd, Nat.zero_testBit]; rfl
  | k + 1 => by
    rw [xt_hd, xt_any, ← xt_hd_bit hd S p k]
    by_cases h : S.testBit k = true
    · rw [if_pos h, Nat.testBit_or, h, Bool.true_and]
    · rw [if_neg h, Bool.eq_false_iff.mpr h, Bool.false_and, Bool.or_false]
def xt_st (a b : Bool) : Nat := if a = true then 0 else if b = true then 2 else 1
theorem xt_stand {ps T mc g p : Nat} {op cl hd hb fr to mr mt : Nat → Nat} {I : xw_I} {F : xw_F} {G : xw_G} {post : Int32 → Prop} (hP : xt_P ps T mc hd hb fr to mr mt) (hY : xt_Y ps T mc op cl hd fr to mr mt I F) (hg : g ≤ T) (hp : p < 5)
    (h : post (nI (xt_st ((xt_hd hd (xt_C ps fr to g) 5).testBit p) ((xt_hd hd (xt_O ps fr to g) 5).testBit p)))) : sm_X8_stand (nI g) (nI p) I F G post := by
  intro k5 k57 k85 r5 r57 r85
  obtain ⟨⟨p1, p2, p3⟩, p4, p5⟩ := hP
  obtain ⟨y1, y2, y3, y4⟩ := hY
  have hC : ∀ q, q < 5 → (xt_C ps fr to g).testBit q = (ps.testBit q && (decide (to q = g) && !decide (fr q = g))) := fun q hq => by unfold xt_C; rw [xt_set5b _ hq]
  have hO : ∀ q, q < 5 → (xt_O ps fr to g).testBit q = (ps.testBit q && (decide (fr q = g) && !decide (to q = g))) := fun q hq => by unfold xt_O; rw [xt_set5b _ hq]
  rw [xt_hd_bit, xt_hd_bit] at h
  obtain ⟨A, hA⟩ : ∃ A : Nat → Bool, A = xt_any (fun q => (xt_C ps fr to g).testBit q && (hd q).testBit p) := ⟨_, rfl⟩
  obtain ⟨B, hB⟩ : ∃ B : Nat → Bool, B = xt_any (fun q => (xt_O ps fr to g).testBit q && (hd q).testBit p) := ⟨_, rfl⟩
  have hA1 : ∀ q, A (q + 1) = (A q || ((xt_C ps fr to g).testBit q && (hd q).testBit p)) := fun q => by rw [hA]; rfl
  have hB1 : ∀ q, B (q + 1) = (B q || ((xt_O ps fr to g).testBit q && (hd q).testBit p)) := fun q => by rw [hB]; rfl
  rw [← hA, ← hB] at h
  have hst : k5 (nI (xt_st (A 0) (B 0))) (nI 0) → bd_X8_stand_0 (nI g) (nI p) I F G post k5 k57 k85 := by
    rw [hA, hB]; exact fun x => x
  apply hst
  refine xl_up (fun i (_ : Unit) => k5 (nI (xt_st (A i) (B i))) (nI i)) 5 (fun _ _ => True) ?_ ?_ 0 () (by omega) trivial
  · intro i _ hi _ ih
    have ih := ih () trivial
    rw [hA1, hB1, hC i hi, hO i hi] at ih
    have hnone : k5 (nI (xt_st (A i) (B i))) (nI (i + 1)) → k57 (nI (xt_st (A i) (B i))) (nI i) 0 := by
      intro hh
      apply r57
      unfold bd_X8_stand_57
      refine ⟨fun _ => ?_, fun x => absurd rfl x⟩
      apply r85
      unfold bd_X8_stand_85
      refine ⟨fun _ v ev => ?_, fun x => absurd rfl x⟩
      rw [ev, nI_1]; exact hh
    apply r5
    unfold bd_X8_stand_5
    refine ⟨fun z => absurd ((xn_le (a := 5) (by omega) (by omega)).mp z) (by omega), fun _ => xs_isThere y1 hi (fun e => ⟨fun z => absurd z (by decide), fun _ => ⟨vp_in_nI hi (by omega), fun v21 e21 => ?_⟩⟩) (fun e => ⟨fun _ => hnone ?_, fun z => absurd rfl z⟩)⟩
    · obtain ⟨q3, q4⟩ := y3 i hi e
      obtain ⟨q8, q7, q5, q6⟩ := p4 i hi e
      rw [e, Bool.true_and, Bool.true_and] at ih
      rw [nI_clamp (by omega), (y1.1 i hi e).2.2.1] at e21
      subst e21
      rw [xb_bit (by omega) (by omega)]
      refine ⟨fun z => hnone ?_, fun z => ⟨vp_in_nI hi (by omega), fun v23 e23 => ⟨vp_in_nI hi (by omega), fun v24 e24 => ?_⟩⟩⟩
      · rw [Bool.eq_false_iff.mpr (fun x => z ((xn_b1 _).mpr x)), Bool.and_false, Bool.or_false, Bool.and_false, Bool.or_false] at ih
        exact ih
      · rw [(xn_b1 _).mp z, Bool.and_true, Bool.and_true] at ih
        rw [nI_clamp (by omega), q3] at e23
        rw [nI_clamp (by omega), q4] at e24
        subst e23 e24
        refine ⟨fun w => hnone ?_, fun w => ?_⟩
        · have w := (xn_le (by omega) (by omega)).mp w
          have e1 : (decide (to i = g) && !decide (fr i = g)) = false := by
            by_cases t : to i = g
            · rw [decide_eq_true (show fr i = g by omega)]; simp
            · rw [decide_eq_false t]; rfl
          have e2 : (decide (fr i = g) && !decide (to i = g)) = false := by
            by_cases t : fr i = g
            · rw [decide_eq_true (show to i = g by omega)]; simp
            · rw [decide_eq_false t]; rfl
          rw [e1, e2, Bool.or_false, Bool.or_false] at ih
          exact ih
        · have w : fr i < to i := Nat.not_le.mp (fun x => w ((xn_le (by omega) (by omega)).mpr x))
          apply r57
          unfold bd_X8_stand_57
          refine ⟨fun x => absurd x (by decide), fun _ => ⟨vp_in_nI hi (by omega), fun v27 e27 => ?_⟩⟩
          rw [nI_clamp (by omega), q3] at e27
          subst e27
          have h85 : ∀ x, (to i = g → k5 0 (nI (i + 1))) → (¬ to i = g → k5 x (nI (i + 1))) → k85 (nI i) 1 x := by
            intro x c1 c0
            apply r85
            unfold bd_X8_stand_85
            refine ⟨fun y => absurd y (by decide), fun _ => ⟨vp_in_nI hi (by omega), fun v32 e32 => ?_⟩⟩
            rw [nI_clamp (by omega), q4] at e32
            subst e32
            refine ⟨fun y v ev => ?_, fun y v ev => ?_⟩
            · rw [ev, nI_1]; exact c0 (fun t => y (by rw [t]))
            · rw [ev, nI_1]; exact c1 ((xn_eq (by omega) (by omega)).mp y)
          have case0 : to i = g → k5 0 (nI (i + 1)) := by
            intro t
            rw [decide_eq_true t, decide_eq_false (show ¬ fr i = g by omega)] at ih
            have : xt_st (A i || (true && !false)) (B i || (false && !true)) = 0 := by cases A i <;> cases B i <;> rfl
            rw [this] at ih
            exact ih
          have case1 : ¬ to i = g → ¬ fr i = g → k5 (nI (xt_st (A i) (B i))) (nI (i + 1)) := by
            intro t u
            rw [decide_eq_false t, decide_eq_false u, Bool.false_and, Bool.or_false, Bool.or_false] at ih
            exact ih
          have case2 : ¬ to i = g → fr i = g → k5 (nI (xt_st (A i) true)) (nI (i + 1)) := by
            intro t u
            rw [decide_eq_false t, decide_eq_true u, Bool.false_and, Bool.or_false, Bool.not_false, Bool.and_true, Bool.or_true] at ih
            exact ih
          refine ⟨fun y => h85 _ case0 (fun t => case1 t (fun u => y (by rw [u]))), fun y => ?_⟩
          have y : fr i = g := (xn_eq (by omega) (by omega)).mp y
          refine ⟨fun u => h85 _ case0 (fun t => ?_), fun u => h85 _ case0 (fun t => ?_)⟩
          · have c := case2 t y
            have : xt_st (A i) true = xt_st (A i) (B i) := by
              revert u; cases A i <;> cases B i <;> intro u
              · exact absurd rfl u
              · rfl
              · rfl
              · rfl
            rw [this] at c; exact c
          · have c := case2 t y
            have : nI (xt_st (A i) true) = 2 := by
              revert u; cases A i <;> cases B i <;> intro u
              · rfl
              · exact absurd u (by decide)
              · exact absurd u (by decide)
              · exact absurd u (by decide)
            rw [this] at c; exact c
    · simp only [e, Bool.false_and, Bool.or_false] at ih
      exact ih
  · intro _ _
    apply r5
    unfold bd_X8_stand_5
    exact ⟨fun _ => h, fun z => absurd ((xn_le (a := 5) (b := 5) (by omega) (by omega)).mpr (by omega)) z⟩
theorem xt_mempty {ps T mc g w S : Nat} {op cl hd hb fr to mr mt : Nat → Nat} {l : List Nat} {I : xw_I} {F : xw_F} {G : xw_G} {post : xw_I → xw_F → xw_G → Prop} (hP : xt_P ps T mc hd hb fr to mr mt) (hY : xt_Y ps T mc op cl hd fr to mr mt I F) (hg : g ≤ T) (hw : w ≤ 2)
    (hS : ∀ p, p < 5 → S.testBit p = ((xt_E ps fr to g).testBit p && decide (xt_st ((xt_hd hd (xt_C ps fr to g) 5).testBit p) ((xt_hd hd (xt_O ps fr to g) 5).testBit p) = w))) (hL : xt_L (I 5) (F 13) l) (hb2 : l.length + (xt_cat (xt_em S) 5).length ≤ 21)
    (h : ∀ I1 F1, xt_L (I1 5) (F1 13) (l ++ xt_cat (xt_em S) 5) → xt_fm I I1 F F1 → post I1 F1 G) : sm_X8_writeEmpty (nI g) (nI w) I F G post := by
  intro k hk
  have hP0 := hP
  obtain ⟨⟨p1, p2, p3⟩, p4, p5⟩ := hP0
  have hst2 : ∀ a b, xt_st a b ≤ 2 := by decide
  refine xl_up (fun i (s : xw_I × xw_F) => k (nI i) s.1 s.2 G) 5 (fun i s => xt_L (s.1 5) (s.2 13) (l ++ xt_cat (xt_em S) i) ∧ xt_fm I s.1 F s.2) ?_ ?_ 0 (I, F) (by omega) ⟨by rw [xt_cat, List.append_nil]; exact hL, xt_fm.rf⟩
  · intro i s hi h12 ih
    obtain ⟨h1, h2⟩ := h12
    have hY1 := hY.to h2
    obtain ⟨y1, y2, y3, y4⟩ := id hY1
    have hSi := hS i hi
    rw [show (xt_E ps fr to g).testBit i = (ps.testBit i && (decide (fr i = g) && decide (to i = g))) by unfold xt_E; rw [xt_set5b _ hi]] at hSi
    have hno : S.testBit i = false → k (nI (i + 1)) s.1 s.2 G := fun e => ih s ⟨by rw [xt_cat, xt_em, if_neg (by rw [e]; decide), List.append_nil]; exact h1, h2⟩
    apply hk
    unfold bd_X8_writeEmpty_2
    refine ⟨fun z => absurd ((xn_le (a := 5) (by omega) (by omega)).mp z) (by omega), fun _ => xs_isThere y1 hi (fun e => ⟨fun z => absurd z (by decide), fun _ => ⟨vp_in_nI hi (by omega), fun v17 e17 => ?_⟩⟩) (fun e => ⟨fun _ v ev => ?_, fun z => absurd rfl z⟩)⟩
    · obtain ⟨q3, q4⟩ := y3 i hi e
      obtain ⟨q8, q7, q5, q6⟩ := p4 i hi e
      rw [e, Bool.true_and] at hSi
      rw [nI_clamp (by omega), q3] at e17
      subst e17
      refine ⟨fun z v ev => ?_, fun z => ⟨vp_in_nI hi (by omega), fun v20 e20 => ?_⟩⟩
      · rw [ev, nI_1]
        exact hno (by rw [hSi, decide_eq_false (fun x => z (by rw [x])), Bool.false_and, Bool.false_and])
      · have z : fr i = g := (xn_eq (by omega) (by omega)).mp z
        rw [nI_clamp (by omega), q4] at e20
        subst e20
        refine ⟨fun y v ev => ?_, fun y => ?_⟩
        · rw [ev, nI_1]
          exact hno (by rw [hSi, decide_eq_false (show ¬ to i = g from fun x => y (by rw [x])), Bool.and_false, Bool.false_and])
        · have y : to i = g := (xn_eq (by omega) (by omega)).mp y
          rw [decide_eq_true z, decide_eq_true y, Bool.true_and, Bool.true_and] at hSi
          refine xt_stand hP hY1 hg hi ?_
          have hs2 := hst2 ((xt_hd hd (xt_C ps fr to g) 5).testBit i) ((xt_hd hd (xt_O ps fr to g) 5).testBit i)
          obtain ⟨c, hc⟩ : ∃ c, c = xt_st ((xt_hd hd (xt_C ps fr to g) 5).testBit i) ((xt_hd hd (xt_O ps fr to g) 5).testBit i) := ⟨_, rfl⟩
          rw [← hc] at hs2 hSi ⊢
          refine ⟨fun u v ev => ?_, fun u => ?_⟩
          · rw [ev, nI_1]
            exact hno (by rw [hSi]; exact decide_eq_false (fun x => u (by rw [x])))
          · have u : c = w := (xn_eq (by omega) (by omega)).mp u
            rw [decide_eq_true u] at hSi
            have hlen := xt_cat_le (xt_em S) (show i + 1 ≤ 5 by omega)
            have hcc : xt_cat (xt_em S) (i + 1) = xt_cat (xt_em S) i ++ [65 + i, 97 + i] := by rw [xt_cat, xt_em, if_pos hSi]
            have hlen2 : (xt_cat (xt_em S) (i + 1)).length = (xt_cat (xt_em S) i).length + 2 := by rw [hcc, List.length_append]; rfl
            rw [xn_65, xn_97]
            refine xt_mwrite (by rw [List.length_append]; omega) h1 (fun I1 F1 g1 g2 => ?_)
            refine xt_mwrite (by rw [List.length_append, List.length_append]; simp only [List.length_cons, List.length_nil]; omega) g1 (fun I2 F2 g3 g4 v ev => ?_)
            rw [ev, nI_1]
            exact ih (I2, F2) ⟨by rw [hcc]; simpa only [List.append_assoc, List.cons_append, List.nil_append] using g3, (h2.tr g2).tr g4⟩
    · rw [ev, nI_1]
      exact hno (by rw [hSi, e, Bool.false_and, Bool.false_and])
  · intro s h12
    apply hk
    unfold bd_X8_writeEmpty_2
    exact ⟨fun _ => h s.1 s.2 h12.1 h12.2, fun z => absurd ((xn_le (a := 5) (b := 5) (by omega) (by omega)).mpr (by omega)) z⟩
theorem xt_three (ps : Nat) (hd fr to : Nat → Nat) (g : Nat) {p : Nat} (hp : p < 5) : (xt_Fi ps hd fr to g).testBit p = ((xt_E ps fr to g).testBit p && decide (xt_st ((xt_hd hd (xt_C ps fr to g) 5).testBit p) ((xt_hd hd (xt_O ps fr to g) 5).testBit p) = 0)) ∧ (xt_Mi ps hd fr to g).testBit p = ((xt_E ps fr to g).testBit p && decide (xt_st ((xt_hd hd (xt_C ps fr to g) 5).testBit p) ((xt_hd hd (xt_O ps fr to g) 5).testBit p) = 1)) ∧ (xt_La ps hd fr to g).testBit p = ((xt_E ps fr to g).testBit p && decide (xt_st ((xt_hd hd (xt_C ps fr to g) 5).testBit p) ((xt_hd hd (xt_O ps fr to g) 5).testBit p) = 2)) := by
  have h1 : (xt_Fi ps hd fr to g).testBit p = ((xt_E ps fr to g).testBit p && (xt_hd hd (xt_C ps fr to g) 5).testBit p) := by unfold xt_Fi; rw [Nat.testBit_and]
  have h2 : (xt_mi (xt_E ps fr to g) (xt_Fi ps hd fr to g)).testBit p = ((xt_E ps fr to g).testBit p && !(xt_Fi ps hd fr to g).testBit p) := by unfold xt_mi; rw [xt_set5b _ hp]
  have h3 : (xt_La ps hd fr to g).testBit p = ((xt_mi (xt_E ps fr to g) (xt_Fi ps hd fr to g)).testBit p && (xt_hd hd (xt_O ps fr to g) 5).testBit p) := by unfold xt_La; rw [Nat.testBit_and]
  have h4 : (xt_Mi ps hd fr to g).testBit p = ((xt_mi (xt_E ps fr to g) (xt_Fi ps hd fr to g)).testBit p && !(xt_La ps hd fr to g).testBit p) := by unfold xt_Mi; rw [xt_mi, xt_set5b _ hp]
  rw [h4, h3, h2, h1]
  cases (xt_E ps fr to g).testBit p <;> cases (xt_hd hd (xt_C ps fr to g) 5).testBit p <;> cases (xt_hd hd (xt_O ps fr to g) 5).testBit p <;> exact ⟨rfl, rfl, rfl⟩
/-- the loop of sign, over all gaps -/
theorem xs_msign {ps T mc : Nat} {x : Int32} {op cl hd hb fr to mr mt : Nat → Nat} {I : xw_I} {F : xw_F} {G : xw_G} {post : Int32 → xw_I → xw_F → xw_G → Prop} (hP : xt_P ps T mc hd hb fr to mr mt) (hH : xt_HB ps hd hb) (hY : xt_Y ps T mc op cl hd fr to mr mt I F) (k11 : Int32 → xw_I → xw_F → xw_G → Prop) (k32 : Int32 → Int32 → xw_I → xw_F → xw_G → Prop) (r11 : ∀ (y2 : Int32) (I : xw_I) (F : xw_F) (G : xw_G), bd_X8_sign_11 x post k11 k32 y2 I F G → k11 y2 I F G) (r32 : ∀ (y2 : Int32) (y3 : Int32) (I : xw_I) (F : xw_F) (G : xw_G), bd_X8_sign_32 x post k11 k32 y2 y3 I F G → k32 y2 y3 I F G) (hL0 : I 5 = 0)
    (h : ∀ I1 F1, xt_L (I1 5) (F1 13) (xt_cat (xt_all ps T mc hd hb fr to mr mt) (T + 1)) → xt_fm I I1 F F1 → (¬ x = (-1 : Int32) → sm_X8_in x (0 : Int32) ((I1 5) - (1 : Int32)) (fun r19 => ((r19 = 0 → post (-6 : Int32) I1 F1 G) ∧ (¬ (r19 = 0) → vp_in x 30 ∧ ∀ v21 : Int32, v21 = F1 13 x.toNatClampNeg → post v21 I1 F1 G)))) ∧ (x = (-1 : Int32) → post (I1 5) I1 F1 G)) : k11 0 I F G := by
  have hT := hP.1.2.1
  have hmc := hP.1.2.2
  have hb2 := xt_len (ps := ps) (T := T) (mc := mc) (hd := hd) (hb := hb) (fr := fr) (to := to) (mr := mr) (mt := mt) hT hmc
  refine xl_up (fun i (s : xw_I × xw_F) => k11 (nI i) s.1 s.2 G) (T + 1) (fun i s => xt_L (s.1 5) (s.2 13) (xt_cat (xt_all ps T mc hd hb fr to mr mt) i) ∧ xt_fm I s.1 F s.2) ?_ ?_ 0 (I, F) (by omega) ⟨⟨by show I 5 = nI 0; rw [hL0]; rfl, fun i v hv => by rw [xt_cat] at hv; cases hv⟩, xt_fm.rf⟩
  · intro g s hg h12 ih
    obtain ⟨h1, h2⟩ := h12
    have Y0 := hY.to h2
    apply r11
    unfold bd_X8_sign_11
    rw [Y0.2.1.2]
    obtain ⟨l, hl⟩ : ∃ l, l = xt_cat (xt_all ps T mc hd hb fr to mr mt) g := ⟨_, rfl⟩
    have hlen := xt_cat_le (xt_all ps T mc hd hb fr to mr mt) (show g + 1 ≤ T + 1 by omega)
    have hc : xt_cat (xt_all ps T mc hd hb fr to mr mt) (g + 1) = xt_cat (xt_all ps T mc hd hb fr to mr mt) g ++ (xt_gap ps mc hd hb fr to mr mt g ++ (if g < T then [46] else [])) := rfl
    rw [← hl] at h1 hc
    rw [hc] at hlen
    unfold xt_gap at hlen
    simp only [List.length_append] at hlen
    refine ⟨fun z => absurd ((xn_lt (by omega) (by omega)).mp z) (by omega), fun _ => ?_⟩
    refine xt_mempty (w := 0) (S := xt_Fi ps hd fr to g) hP Y0 (by omega) (by omega) (fun p hp => (xt_three ps hd fr to g hp).1) h1 (by omega) (fun I1 F1 g1 f1 => ?_)
    have Y1 := Y0.to f1
    refine xt_mclosed hP hH Y1 (by omega) g1 (by simp only [List.length_append]; omega) (fun I2 F2 g2 f2 => ?_)
    have Y2 := Y1.to f2
    obtain ⟨l2, hl2⟩ : ∃ l2, l2 = l ++ xt_cat (xt_em (xt_Fi ps hd fr to g)) 5 ++ xt_ord 97 (xt_cf fr fun x => xa_pop (hb x)) 5 (xt_C ps fr to g) := ⟨_, rfl⟩
    have hl2l := congrArg List.length hl2
    simp only [List.length_append] at hl2l
    rw [← hl2] at g2
    refine xl_up (fun i (s : xw_I × xw_F) => k32 (nI g) (nI i) s.1 s.2 G) mc (fun i s => xt_L (s.1 5) (s.2 13) (l2 ++ xt_cat (xt_mk mr mt g) i) ∧ xt_fm I2 s.1 F2 s.2) ?_ ?_ 0 (I2, F2) (by omega) ⟨by rw [xt_cat, List.append_nil]; exact g2, xt_fm.rf⟩
    · intro i s3 hi h34 ihm
      obtain ⟨h3, h4⟩ := h34
      have Y3 := Y2.to h4
      obtain ⟨m1, m3⟩ := Y3.2.2.2 i hi
      obtain ⟨m2, m4⟩ := hP.2.2 i hi
      apply r32
      unfold bd_X8_sign_32
      rw [Y3.2.1.1]
      refine ⟨fun z => absurd ((xn_le (by omega) (by omega)).mp z) (by omega), fun _ => ⟨vp_in_nI (show i < 3 by omega) (by omega), fun v32 e32 => ?_⟩⟩
      rw [nI_clamp (by omega), m1] at e32
      subst e32
      refine ⟨vp_in_nI m2 (by omega), fun v33 e33 => ?_⟩
      rw [nI_clamp (by omega), m3] at e33
      subst e33
      refine ⟨fun z v ev => ?_, fun z => ⟨vp_in_nI (show i < 3 by omega) (by omega), fun v36 e36 => ?_⟩⟩
      · rw [ev, nI_1]
        exact ihm s3 ⟨by rw [xt_cat, xt_mk, if_neg (fun x => z (by rw [x])), List.append_nil]; exact h3, h4⟩
      · have z : mt i = g := (xn_eq (by omega) (by omega)).mp z
        have hlen3 := xt_cat_le (xt_mk mr mt g) (show i + 1 ≤ mc by omega)
        have hc3 : xt_cat (xt_mk mr mt g) (i + 1) = xt_cat (xt_mk mr mt g) i ++ [120 + mr i] := by rw [xt_cat, xt_mk, if_pos z]
        have hlen4 : (xt_cat (xt_mk mr mt g) (i + 1)).length = (xt_cat (xt_mk mr mt g) i).length + 1 := by rw [hc3, List.length_append]; rfl
        rw [nI_clamp (by omega), m1] at e36
        subst e36
        rw [xn_120]
        refine xt_mwrite (by rw [List.length_append]; omega) h3 (fun I4 F4 g4 f4 v ev => ?_)
        rw [ev, nI_1]
        exact ihm (I4, F4) ⟨by rw [hc3, ← List.append_assoc]; exact g4, h4.tr f4⟩
    · intro s3 h34
      obtain ⟨h3, h4⟩ := h34
      have Y3 := Y2.to h4
      apply r32
      unfold bd_X8_sign_32
      rw [Y3.2.1.1]
      refine ⟨fun _ => ?_, fun z => absurd ((xn_le (by omega) (by omega)).mpr (by omega)) z⟩
      refine xt_mempty (w := 1) (S := xt_Mi ps hd fr to g) hP Y3 (by omega) (by omega) (fun p hp => (xt_three ps hd fr to g hp).2.1) h3 (by simp only [List.length_append]; omega) (fun I4 F4 g4 f4 => ?_)
      have Y4 := Y3.to f4
      refine xt_mopened hP hH Y4 (by omega) g4 (by simp only [List.length_append]; omega) (fun I5 F5 g5 f5 => ?_)
      have Y5 := Y4.to f5
      refine xt_mempty (w := 2) (S := xt_La ps hd fr to g) hP Y5 (by omega) (by omega) (fun p hp => (xt_three ps hd fr to g hp).2.2) g5 (by simp only [List.length_append]; omega) (fun I6 F6 g6 f6 => ?_)
      have Y6 := Y5.to f6
      have hfr := (((((h2.tr f1).tr f2).tr h4).tr f4).tr f5).tr f6
      have hg6 : l2 ++ xt_cat (xt_mk mr mt g) mc ++ xt_cat (xt_em (xt_Mi ps hd fr to g)) 5 ++ xt_ord 65 (xt_of to fun x => xa_pop (hb x)) 5 (xt_O ps fr to g) ++ xt_cat (xt_em (xt_La ps hd fr to g)) 5 = l ++ xt_gap ps mc hd hb fr to mr mt g := by
        rw [hl2, xt_gap]; simp only [List.append_assoc]
      rw [hg6] at g6
      rw [Y6.2.1.2]
      refine ⟨fun z v ev => ?_, fun z => ?_⟩
      · have z : T ≤ g := (xn_le (by omega) (by omega)).mp z
        rw [ev, nI_1]
        exact ih (I6, F6) ⟨by rw [hc, if_neg (by omega), List.append_nil]; exact g6, hfr⟩
      · have z : g < T := Nat.not_le.mp (fun x => z ((xn_le (by omega) (by omega)).mpr x))
        rw [if_pos z, List.length_singleton] at hlen
        refine xt_mwrite (s := 46) (by rw [List.length_append]; unfold xt_gap; simp only [List.length_append]; omega) g6 (fun I7 F7 g7 f7 v ev => ?_)
        rw [ev, nI_1]
        exact ih (I7, F7) ⟨by rw [hc, if_pos z, ← List.append_assoc]; exact g7, hfr.tr f7⟩
  · intro s h12
    have Y0 := hY.to h12.2
    apply r11
    unfold bd_X8_sign_11
    rw [Y0.2.1.2]
    exact ⟨fun _ => h s.1 s.2 h12.1 h12.2, fun z => absurd ((xn_lt (by omega) (by omega)).mpr (by omega)) z⟩
