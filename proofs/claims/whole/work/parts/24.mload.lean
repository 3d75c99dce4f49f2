/-! ===== load of the reference ===== -/
/-- the reference holds the source A -/
def xe_M (I : xw_I) (F : xw_F) : xa_R → Prop
  | (n, ps, mb, mc, _, op, cl, hd, _, mg, mr, _, _) => I 0 = nI n ∧ I 1 = nI mc ∧
    (∀ p, p < 5 → ps.testBit p = true → F 1 p = nI (op p) ∧ F 2 p = nI (cl p) ∧ F 3 p = nI (hd p)) ∧
    (∀ p, p < 5 → ps.testBit p = false → F 1 p = -6 ∧ F 3 p = 0) ∧
    (∀ m, m < 3 → mb.testBit m = true → F 4 m = nI (mg m)) ∧ (∀ m, m < 3 → mb.testBit m = false → F 4 m = -6) ∧ (∀ i, i < mc → F 5 i = nI (mr i))
/-- while it is read: what closes is not there yet for what is open -/
def xe_L (I : xw_I) (F : xw_F) : xa_R → Prop
  | (n, ps, mb, mc, oc, op, cl, hd, _, mg, mr, st, _) => I 0 = nI n ∧ I 1 = nI mc ∧
    (∀ p, p < 5 → ps.testBit p = true → F 1 p = nI (op p) ∧ F 3 p = nI (hd p)) ∧
    (∀ p, p < 5 → ps.testBit p = true → (xa_om st oc).testBit p = false → F 2 p = nI (cl p)) ∧
    (∀ p, p < 5 → ps.testBit p = false → F 1 p = -6 ∧ F 3 p = 0) ∧
    (∀ m, m < 3 → mb.testBit m = true → F 4 m = nI (mg m)) ∧ (∀ m, m < 3 → mb.testBit m = false → F 4 m = -6) ∧ (∀ i, i < mc → F 5 i = nI (mr i))
theorem xn_clr : ∀ s, s < 32 → ∀ p, p < 5 → s.testBit p = false → nI (s ||| 2 ^ p) &&& (nI (2 ^ p) ^^^ (-1)) = nI s := by decide +kernel
/-- what load of the reference leaves as it is -/
def xe_fm (I I1 : xw_I) (F F1 : xw_F) : Prop := (∀ j, j ≠ 0 → j ≠ 1 → I1 j = I j) ∧ ∀ j, (j = 0 ∨ 5 < j) → F1 j = F j
theorem xe_fm.tr {I I1 I2 : xw_I} {F F1 F2 : xw_F} (h : xe_fm I I1 F F1) (h2 : xe_fm I1 I2 F1 F2) : xe_fm I I2 F F2 := ⟨fun j a b => (h2.1 j a b).trans (h.1 j a b), fun j q => (h2.2 j q).trans (h.2 j q)⟩
theorem xs_mload {c : Nat} {sg : Nat → Nat} {I : xw_I} {F : xw_F} {G : xw_G} {post : Int32 → xw_I → xw_F → xw_G → Prop} (hc : c ≤ 30) (hI : I 3 = nI c) (hF : ∀ i, i < c → F 7 i = nI (sg i)) (hsg : ∀ i, i < c → sg i < 127)
    (hno : xa_res sg c ≠ -6 → ∀ F1, (∀ j, j ≠ 8 → F1 j = F j) → post (-5) I F1 G)
    (hyes : ∀ A, xa_go sg c 0 xa_0 = .inr A → xa_oc A = 0 → ∀ I1 F1, xe_M I1 F1 A → (∀ w, w < 12 → F1 6 w = 0) → I1 3 = 0 → (∀ j, j ≠ 0 → j ≠ 1 → j ≠ 3 → I1 j = I j) → (∀ j, (j = 0 ∨ 8 < j ∨ j = 7) → F1 j = F j) → post (I1 0) I1 F1 G) : sm_X8_load I F G post := by
  intro k22 k50 k73 k121 k155 r22 r50 r73 r121 r155
  have hneg : ∀ k : Nat, k ≤ 30 → ¬ nI k < 0 := fun k hk => nI_pos (by omega)
  unfold bd_X8_load_0
  refine xs_fault hc hI hF hsg (fun F0 hF0 => ⟨fun q => ?_, fun q => ?_⟩)
  · -- no fault
    obtain ⟨A, hA, hoc⟩ : ∃ A, xa_go sg c 0 xa_0 = .inr A ∧ xa_oc A = 0 := by
      unfold xa_res at q
      cases hg : xa_go sg c 0 xa_0 with
      | inl k =>
        rw [hg] at q
        have := xa_go_lt c 0 xa_0 k hg
        exact absurd q (hneg k (by omega))
      | inr A =>
        rw [hg] at q
        dsimp only at q
        by_cases hz : xa_oc A = 0
        · exact ⟨A, rfl, hz⟩
        · rw [if_neg hz] at q; exact absurd q (hneg c hc)
    intro I1 eI1 I2 eI2
    have hokA := xa_go_ok c 0 xa_0 A xa_ok0 hA
    -- the run over the signs
    have key : ∀ (d k n ps mb mc oc : Nat) (op cl hd hb mg mr st rk : Nat → Nat) (J : xw_I) (F1 : xw_F), k + d = c → xa_ok (n, ps, mb, mc, oc, op, cl, hd, hb, mg, mr, st, rk) → xe_L J F1 (n, ps, mb, mc, oc, op, cl, hd, hb, mg, mr, st, rk) → xe_fm I J F0 F1 → xa_go sg d k (n, ps, mb, mc, oc, op, cl, hd, hb, mg, mr, st, rk) = .inr A → k73 (nI (xa_om st oc)) (nI k) J F1 G := by
      intro d
      induction d with
      | zero =>
        intro k n ps mb mc oc op cl hd hb mg mr st rk J F1 hk hok hL hfr hgo
        cases hgo
        have hoc : oc = 0 := hoc
        subst hoc
        have hJ3 : J 3 = nI c := (hfr.1 3 (by decide) (by decide)).trans hI
        apply r73
        unfold bd_X8_load_73
        rw [hJ3]
        refine ⟨fun _ => ?_, fun z => absurd ((xn_le (by omega) (by omega)).mpr (by omega)) z⟩
        refine xs_unlink (fun F2 hz hj => ?_)
        intro J2 eJ2
        obtain ⟨l1, l2, l3, l4, l5, l6, l7, l8⟩ := hL
        refine hyes _ hA rfl J2 F2 ?_ hz ?_ ?_ ?_
        · refine ⟨?_, ?_, ?_, ?_, ?_, ?_, ?_⟩
          · rw [eJ2, xw_upn (by decide)]; exact l1
          · rw [eJ2, xw_upn (by decide)]; exact l2
          · intro p hp hpb
            rw [hj 1 (by decide), hj 2 (by decide), hj 3 (by decide)]
            exact ⟨(l3 p hp hpb).1, l4 p hp hpb (by simp [xa_om]), (l3 p hp hpb).2⟩
          · intro p hp hpb
            rw [hj 1 (by decide), hj 3 (by decide)]; exact l5 p hp hpb
          · intro m hm hmb; rw [hj 4 (by decide)]; exact l6 m hm hmb
          · intro m hm hmb; rw [hj 4 (by decide)]; exact l7 m hm hmb
          · intro i hi; rw [hj 5 (by decide)]; exact l8 i hi
        · rw [eJ2, xw_ups]
        · intro j a b cc; rw [eJ2, xw_upn cc]; exact hfr.1 j a b
        · intro j hjj
          rw [hj j (by omega), hfr.2 j (by omega), hF0 j (by omega)]
      | succ d ih =>
        intro k n ps mb mc oc op cl hd hb mg mr st rk J F1 hk hok hL hfr hgo
        have hok' := hok
        obtain ⟨o1, o2, o3, o4, o5, o6, o7, o8, o9, o10, o11, o12, o13, o14⟩ := hok'
        obtain ⟨l1, l2, l3, l4, l5, l6, l7, l8⟩ := hL
        have hJ3 : J 3 = nI c := (hfr.1 3 (by decide) (by decide)).trans hI
        have hoc5 : oc ≤ 5 := xa_oc_le hok
        have homlt : xa_om st oc < 32 := xa_om_lt st oc (fun i hi => (o6 i hi).1)
        apply r73
        unfold bd_X8_load_73
        rw [hJ3]
        refine ⟨fun z => absurd ((xn_le (by omega) (by omega)).mp z) (by omega), fun _ => ⟨vp_in_nI (by omega) (by omega), fun v ev => ?_⟩⟩
        rw [nI_clamp (by omega), hfr.2 7 (by omega), hF0 7 (by decide), hF k (by omega)] at ev
        subst ev
        obtain ⟨s, hs⟩ : ∃ s, s = sg k := ⟨_, rfl⟩
        have hs127 : s < 127 := by rw [hs]; exact hsg k (by omega)
        rw [xa_go, ← hs] at hgo
        rw [← hs]
        cases hst : xa_step (n, ps, mb, mc, oc, op, cl, hd, hb, mg, mr, st, rk) s with
        | none => rw [hst] at hgo; cases hgo
        | some A' =>
        rw [hst] at hgo
        dsimp only at hgo
        have hok2 := xa_step_ok hok hst
        unfold xa_step at hst
        dsimp only at hst
        refine ⟨fun c46 => ?_, fun c46 => ?_⟩
        · have c46 : s ≠ 46 := fun z => c46 (by rw [z]; rfl)
          rw [if_neg c46] at hst
          refine xs_in (a := 65) (b := 69) (by omega) (by omega) (by omega) (fun a1 a2 => ?_) (fun a0 => ?_)
          · refine ⟨fun z => absurd z (by decide), fun _ => ?_⟩
            rw [if_pos (by omega)] at hst
            obtain ⟨p, hp⟩ : ∃ p, p = s - 65 := ⟨_, rfl⟩
            rw [← hp] at hst
            split at hst
            · cases hst
            · rename_i hpb
              have hpb : ps.testBit p = false := by simpa using hpb
              have hp5 : p < 5 := by omega
              cases hst
              have hsp : nI s - 65 = nI p := by rw [show (65 : Int32) = nI 65 from rfl, xn_sub a1, hp]
              have hstp : ∀ i, i < oc → st i ≠ p := fun i hi z => by have := (o6 i hi).2; rw [z, hpb] at this; cases this
              have homp : (xa_om st oc).testBit p = false := by
                cases hz : (xa_om st oc).testBit p
                · rfl
                · obtain ⟨i, hi, hz2⟩ := (xa_om_bit st p oc).mp hz
                  exact absurd hz2 (hstp i hi)
              -- holds of the open ones
              refine xl_up (fun i Fs => k121 (nI (xa_om st oc)) (nI k) (nI s) (nI i) J Fs G) 5 (fun i Fs => (∀ q, q < 5 → Fs 3 q = if q < i ∧ (xa_om st oc).testBit q = true then F1 3 q ||| nI (2 ^ p) else F1 3 q) ∧ ∀ j, j ≠ 3 → Fs j = F1 j) ?_ ?_ 0 F1 (by omega) ⟨fun q _ => by rw [if_neg (by omega)], fun _ _ => rfl⟩
              · intro i Fs hi hv ihh
                apply r121
                unfold bd_X8_load_121
                refine ⟨fun z => absurd ((xn_le (a := 5) (by omega) (by omega)).mp z) (by omega), fun _ => ⟨vp_in_nI hi (by omega), fun w ew => ?_⟩⟩
                rw [nI_clamp (by omega), hv.1 i hi, if_neg (by omega)] at ew
                rw [xb_bit (by omega) (by omega), xn_b1, hsp, xb_shl p (by omega)]
                have hstep : ∀ x : Int32, w ||| x = (if (xa_om st oc).testBit i = true then F1 3 i ||| nI (2 ^ p) else F1 3 i) → k155 (nI (xa_om st oc)) (nI k) (nI s) (nI i) (nI i) w x J Fs G := by
                  intro x hx
                  apply r155
                  unfold bd_X8_load_155
                  refine ⟨vp_in_nI hi (by omega), fun F2 eF2 u eu => ?_⟩
                  rw [eu, nI_1]
                  rw [nI_clamp (by omega), hx] at eF2
                  refine ihh F2 ⟨fun q hq => ?_, fun j hj => ?_⟩
                  · rw [eF2, xw_ups, xb_updi]
                    by_cases hqi : q = i
                    · subst hqi
                      rw [if_pos rfl]
                      by_cases hz : (xa_om st oc).testBit q = true
                      · rw [if_pos hz, if_pos ⟨by omega, hz⟩]
                      · rw [if_neg hz, if_neg (fun y => hz y.2)]
                    · rw [if_neg hqi, hv.1 q hq]
                      by_cases hz : q < i ∧ (xa_om st oc).testBit q = true
                      · rw [if_pos hz, if_pos ⟨by omega, hz.2⟩]
                      · rw [if_neg hz, if_neg (fun y => hz ⟨by omega, y.2⟩)]
                  · rw [eF2, xw_upn hj]; exact hv.2 j hj
                refine ⟨fun z => hstep 0 ?_, fun z => hstep _ ?_⟩
                · rw [if_neg z, ew, Int32.or_zero]
                · rw [if_pos z, ew]
              · intro Fs hv
                apply r121
                unfold bd_X8_load_121
                refine ⟨fun _ => ?_, fun z => absurd ((xn_le (a := 5) (b := 5) (by omega) (by omega)).mpr (by omega)) z⟩
                rw [hsp]
                refine ⟨vp_in_nI hp5 (by omega), fun F2 eF2 w ew u eu => ?_⟩
                rw [nI_clamp (by omega), l1] at eF2
                have hom2 : xa_om (xa_u st oc p) (oc + 1) = xa_om st oc ||| 2 ^ p := by rw [xa_om, xa_om_u st oc p oc (Nat.le_refl _), xa_us]
                rw [ew, eu, nI_1, xb_shl p (by omega), xb_or, ← hom2]
                refine ih (k + 1) _ _ _ _ _ _ _ _ _ _ _ _ _ J F2 (by omega) hok2 ?_ ?_ hgo
                · refine ⟨l1, l2, ?_, ?_, ?_, ?_, ?_, ?_⟩
                  · intro q hq hqb
                    rw [eF2, xw_ups, xw_upn (by decide), xb_updi, hv.1 q hq]
                    rw [xa_bit_or] at hqb
                    by_cases hqp : q = p
                    · subst hqp
                      rw [if_pos rfl, xa_us, if_neg (fun y => by rw [homp] at y; cases y.2)]
                      refine ⟨rfl, ?_⟩
                      rw [(l5 q hq hpb).2]; simp only [if_pos]; rfl
                    · have hqb : ps.testBit q = true := by simpa [Ne.symm hqp] using hqb
                      rw [if_neg hqp, xa_un hqp, hv.2 1 (by decide)]
                      refine ⟨(l3 q hq hqb).1, ?_⟩
                      simp only [if_neg hqp]
                      rw [(l3 q hq hqb).2]
                      by_cases hz : (xa_om st oc).testBit q = true
                      · rw [if_pos ⟨hq, hz⟩, if_pos hz, xb_or]
                      · rw [if_neg (fun y => hz y.2), if_neg hz]
                  · intro q hq hqb hqo
                    rw [hom2, xa_bit_or] at hqo
                    rw [xa_bit_or] at hqb
                    have hqp : q ≠ p := fun z => by rw [z] at hqo; simp at hqo
                    have hqb : ps.testBit q = true := by simpa [Ne.symm hqp] using hqb
                    have hqo : (xa_om st oc).testBit q = false := by simpa [Ne.symm hqp] using hqo
                    rw [eF2, xw_upn (by decide), hv.2 2 (by decide), xa_un hqp]
                    exact l4 q hq hqb hqo
                  · intro q hq hqb
                    rw [xa_bit_or] at hqb
                    have hqp : q ≠ p := fun z => by rw [z] at hqb; simp at hqb
                    have hqb : ps.testBit q = false := by simpa [Ne.symm hqp] using hqb
                    have hqo : ¬ (xa_om st oc).testBit q = true := fun z => by
                      obtain ⟨i, hi, hz2⟩ := (xa_om_bit st q oc).mp z
                      have := (o6 i hi).2
                      rw [hz2, hqb] at this; cases this
                    rw [eF2, xw_ups, xw_upn (by decide), xb_updi, if_neg hqp, hv.2 1 (by decide), hv.1 q hq, if_neg (fun y => hqo y.2)]
                    exact l5 q hq hqb
                  · intro m hm hmb; rw [eF2, xw_upn (by decide), hv.2 4 (by decide)]; exact l6 m hm hmb
                  · intro m hm hmb; rw [eF2, xw_upn (by decide), hv.2 4 (by decide)]; exact l7 m hm hmb
                  · intro i hi; rw [eF2, xw_upn (by decide), hv.2 5 (by decide)]; exact l8 i hi
                · exact hfr.tr ⟨fun _ _ _ => rfl, fun j hj => by rw [eF2, xw_upn (by omega), hv.2 j (by omega)]⟩
          · refine ⟨fun _ => ?_, fun z => absurd rfl z⟩
            rw [if_neg (by omega)] at hst
            refine xs_in (a := 97) (b := 101) (by omega) (by omega) (by omega) (fun a1 a2 => ?_) (fun a02 => ?_)
            · refine ⟨fun z => absurd z (by decide), fun _ => ?_⟩
              rw [if_pos (by omega)] at hst
              obtain ⟨p, hp⟩ : ∃ p, p = s - 97 := ⟨_, rfl⟩
              rw [← hp] at hst
              have hsp : nI s - 97 = nI p := by rw [show (97 : Int32) = nI 97 from rfl, xn_sub a1, hp]
              rw [hsp]
              split at hst
              · rename_i hz
                cases hst
                refine ⟨vp_in_nI (by omega) (by omega), fun F2 eF2 w ew u eu => ?_⟩
                rw [nI_clamp (by omega), l1] at eF2
                obtain ⟨o, ho⟩ : ∃ o, oc = o + 1 := ⟨oc - 1, by omega⟩
                subst ho
                have hz2 : st o = p := hz.2
                have hnb : (xa_om st o).testBit p = false := by
                  cases hy : (xa_om st o).testBit p
                  · rfl
                  · obtain ⟨i, hi, hy2⟩ := (xa_om_bit st p o).mp hy
                    have := o7 i o (by omega) (by omega) (by rw [hy2, hz2])
                    omega
                have homo : xa_om st o < 32 := xa_om_lt st o (fun i hi => (o6 i (by omega)).1)
                have hom : xa_om st (o + 1) = xa_om st o ||| 2 ^ p := by rw [xa_om, hz2]
                rw [ew, eu, nI_1, xb_shl p (by omega), hom, xn_clr _ homo p (by omega) hnb]
                refine ih (k + 1) _ _ _ _ _ _ _ _ _ _ _ _ _ J F2 (by omega) hok2 ?_ ?_ hgo
                · refine ⟨l1, l2, ?_, ?_, ?_, ?_, ?_, ?_⟩
                  · intro q hq hqb; rw [eF2, xw_upn (by decide), xw_upn (by decide)]; exact l3 q hq hqb
                  · intro q hq hqb hqo
                    rw [eF2, xw_ups, xb_updi]
                    by_cases hqp : q = p
                    · subst hqp; rw [if_pos rfl, xa_us]
                    · rw [if_neg hqp, xa_un hqp]
                      refine l4 q hq hqb ?_
                      rw [hom, xa_bit_or]
                      have hqo : (xa_om st o).testBit q = false := hqo
                      rw [hqo]; simp [Ne.symm hqp]
                  · intro q hq hqb; rw [eF2, xw_upn (by decide), xw_upn (by decide)]; exact l5 q hq hqb
                  · intro m hm hmb; rw [eF2, xw_upn (by decide)]; exact l6 m hm hmb
                  · intro m hm hmb; rw [eF2, xw_upn (by decide)]; exact l7 m hm hmb
                  · intro i hi; rw [eF2, xw_upn (by decide)]; exact l8 i hi
                · exact hfr.tr ⟨fun _ _ _ => rfl, fun j hj => by rw [eF2, xw_upn (by omega)]⟩
              · cases hst
            · refine ⟨fun _ => ?_, fun z => absurd rfl z⟩
              rw [if_neg (by omega)] at hst
              split at hst
              · rename_i hz3
                obtain ⟨p, hp⟩ : ∃ p, p = s - 120 := ⟨_, rfl⟩
                rw [← hp] at hst
                have hsp : nI s - 120 = nI p := by rw [show (120 : Int32) = nI 120 from rfl, xn_sub hz3.1, hp]
                rw [hsp]
                split at hst
                · cases hst
                · rename_i hpb
                  have hpb : mb.testBit p = false := by simpa using hpb
                  obtain ⟨g1, g2, g3⟩ := xa_pop_new3 mb o3 p (by omega) hpb
                  cases hst
                  refine ⟨vp_in_nI (by omega) (by omega), fun F2 eF2 => ?_⟩
                  rw [l2]
                  refine ⟨vp_in_nI (by omega) (by omega), fun F3 eF3 J2 eJ2 u eu => ?_⟩
                  rw [nI_clamp (by omega), l1] at eF2
                  rw [nI_clamp (by omega)] at eF3
                  rw [nI_1] at eJ2
                  rw [eu, nI_1]
                  refine ih (k + 1) _ _ _ _ _ _ _ _ _ _ _ _ _ J2 F3 (by omega) hok2 ?_ ?_ hgo
                  · refine ⟨?_, ?_, ?_, ?_, ?_, ?_, ?_, ?_⟩
                    · rw [eJ2, xw_upn (by decide)]; exact l1
                    · rw [eJ2, xw_ups]
                    · intro q hq hqb; rw [eF3, xw_upn (by decide), xw_upn (by decide), eF2, xw_upn (by decide), xw_upn (by decide)]; exact l3 q hq hqb
                    · intro q hq hqb hqo; rw [eF3, xw_upn (by decide), eF2, xw_upn (by decide)]; exact l4 q hq hqb hqo
                    · intro q hq hqb; rw [eF3, xw_upn (by decide), xw_upn (by decide), eF2, xw_upn (by decide), xw_upn (by decide)]; exact l5 q hq hqb
                    · intro m hm hmb
                      rw [xa_bit_or] at hmb
                      rw [eF3, xw_upn (by decide), eF2, xw_ups, xb_updi]
                      by_cases hmp : m = p
                      · subst hmp; rw [if_pos rfl, xa_us]
                      · rw [if_neg hmp, xa_un hmp]; exact l6 m hm (by simpa [Ne.symm hmp] using hmb)
                    · intro m hm hmb
                      rw [xa_bit_or] at hmb
                      have hmp : m ≠ p := fun z => by rw [z] at hmb; simp at hmb
                      rw [eF3, xw_upn (by decide), eF2, xw_ups, xb_updi, if_neg hmp]
                      exact l7 m hm (by simpa [Ne.symm hmp] using hmb)
                    · intro i hi
                      rw [eF3, xw_ups, xb_updi]
                      by_cases him : i = mc
                      · subst him; rw [if_pos rfl, xa_us]
                      · rw [if_neg him, xa_un him, eF2, xw_upn (by decide)]; exact l8 i (by omega)
                  · exact hfr.tr ⟨fun j a b => by rw [eJ2, xw_upn b], fun j hj => by rw [eF3, xw_upn (by omega), eF2, xw_upn (by omega)]⟩
              · cases hst
        · have c46 : s = 46 := (xn_eq (b := 46) (by omega) (by omega)).mp c46
          rw [if_pos c46] at hst
          split at hst
          · cases hst
            intro J2 eJ2 u eu
            rw [l1, nI_1] at eJ2
            rw [eu, nI_1]
            refine ih (k + 1) _ _ _ _ _ _ _ _ _ _ _ _ _ J2 F1 (by omega) hok2 ?_ ?_ hgo
            · refine ⟨?_, ?_, l3, l4, l5, l6, l7, l8⟩
              · rw [eJ2, xw_ups]
              · rw [eJ2, xw_upn (by decide)]; exact l2
            · exact hfr.tr ⟨fun j a b => by rw [eJ2, xw_upn a], fun _ _ => rfl⟩
          · cases hst
    -- the two loops ahead of it
    have hI20 : I2 0 = nI 0 := by rw [eI2, xw_upn (by decide), eI1, xw_ups]; rfl
    have hI21 : I2 1 = nI 0 := by rw [eI2, xw_ups]; rfl
    refine xl_up (fun i Fs => k22 (nI i) I2 Fs G) 5 (fun i Fs => (∀ p, p < i → Fs 1 p = -6 ∧ Fs 3 p = 0) ∧ ∀ j, (j = 0 ∨ 5 < j) → Fs j = F0 j) ?_ ?_ 0 F0 (by omega) ⟨fun p hp => by omega, fun _ _ => rfl⟩
    · intro i Fs hi hv ih
      apply r22
      unfold bd_X8_load_22
      refine ⟨fun z => absurd ((xn_le (a := 5) (by omega) (by omega)).mp z) (by omega), fun _ => ⟨vp_in_nI hi (by omega), fun F2 eF2 => ⟨vp_in_nI hi (by omega), fun F3 eF3 u eu => ?_⟩⟩⟩
      rw [nI_clamp (by omega)] at eF2 eF3
      rw [eu, nI_1]
      refine ih F3 ⟨fun p hp => ?_, fun j hj => ?_⟩
      · rw [eF3, xw_upn (by decide), xw_ups, xb_updi, eF2, xw_ups, xw_upn (by decide), xb_updi]
        by_cases hpi : p = i
        · rw [if_pos hpi, if_pos hpi]; exact ⟨rfl, rfl⟩
        · rw [if_neg hpi, if_neg hpi]; exact hv.1 p (by omega)
      · rw [eF3, xw_upn (by omega), eF2, xw_upn (by omega)]; exact hv.2 j hj
    · intro Fs hv
      apply r22
      unfold bd_X8_load_22
      refine ⟨fun _ => ?_, fun z => absurd ((xn_le (a := 5) (b := 5) (by omega) (by omega)).mpr (by omega)) z⟩
      refine xl_up (fun i Ft => k50 (nI i) I2 Ft G) 3 (fun i Ft => (∀ p, p < 5 → Ft 1 p = -6 ∧ Ft 3 p = 0) ∧ (∀ m, m < i → Ft 4 m = -6) ∧ ∀ j, (j = 0 ∨ 5 < j) → Ft j = F0 j) ?_ ?_ 0 Fs (by omega) ⟨hv.1, fun m hm => by omega, hv.2⟩
      · intro i Ft hi hw ih
        apply r50
        unfold bd_X8_load_50
        refine ⟨fun z => absurd ((xn_le (a := 3) (by omega) (by omega)).mp z) (by omega), fun _ => ⟨vp_in_nI hi (by omega), fun F2 eF2 u eu => ?_⟩⟩
        rw [nI_clamp (by omega)] at eF2
        rw [eu, nI_1]
        refine ih F2 ⟨fun p hp => ?_, fun m hm => ?_, fun j hj => ?_⟩
        · rw [eF2, xw_upn (by decide), xw_upn (by decide)]; exact hw.1 p hp
        · rw [eF2, xw_ups, xb_updi]
          by_cases hmi : m = i
          · rw [if_pos hmi]
          · rw [if_neg hmi]; exact hw.2.1 m (by omega)
        · rw [eF2, xw_upn (by omega)]; exact hw.2.2 j hj
      · intro Ft hw
        apply r50
        unfold bd_X8_load_50
        refine ⟨fun _ => ?_, fun z => absurd ((xn_le (a := 3) (b := 3) (by omega) (by omega)).mpr (by omega)) z⟩
        refine key c 0 0 0 0 0 0 _ _ _ _ _ _ _ _ I2 Ft (by omega) xa_ok0 ?_ ?_ hA
        · exact ⟨hI20, hI21, fun p _ hb => by simp at hb, fun p _ hb => by simp at hb, fun p hp _ => hw.1 p hp, fun m _ hb => by simp at hb, fun m hm _ => hw.2.1 m hm, fun i hi => by omega⟩
        · exact ⟨fun j a b => by rw [eI2, xw_upn b, eI1, xw_upn a], hw.2.2⟩
  · refine hno (fun z => q ?_) F0 hF0
    rw [z]; decide
