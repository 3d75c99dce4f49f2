/-! ===== the class's pad: take, read ===== -/
/-- the source of the pad holds A -/
def xe_P (I : xw_I) (F : xw_F) : xa_R → Prop
  | (n, ps, mb, mc, oc, op, cl, hd, hb, mg, mr, st, _) => I 2 = nI n ∧ I 3 = nI ps ∧ I 4 = nI mb ∧ I 5 = nI mc ∧ I 6 = nI oc ∧
    (∀ p, p < 5 → ps.testBit p = true → F 3 p = nI (op p) ∧ F 4 p = nI (cl p) ∧ F 5 p = nI (hd p) ∧ F 6 p = nI (hb p)) ∧
    (∀ m, m < 3 → mb.testBit m = true → F 7 m = nI (mg m)) ∧ (∀ i, i < mc → F 8 i = nI (mr i)) ∧ (∀ i, i < oc → F 9 i = nI (st i))
/-- what take leaves as it is -/
def xe_fr (I I1 : xw_I) (F F1 : xw_F) : Prop := (∀ j, j < 2 ∨ 6 < j → I1 j = I j) ∧ ∀ j, j < 3 ∨ 9 < j → F1 j = F j
theorem xe_fr.rf {I : xw_I} {F : xw_F} : xe_fr I I F F := ⟨fun _ _ => rfl, fun _ _ => rfl⟩
theorem xe_fr.tr {I I1 I2 : xw_I} {F F1 F2 : xw_F} (h : xe_fr I I1 F F1) (h2 : xe_fr I1 I2 F1 F2) : xe_fr I I2 F F2 := ⟨fun j q => (h2.1 j q).trans (h.1 j q), fun j q => (h2.2 j q).trans (h.2 j q)⟩
theorem xe_0 : narrow .boolean (.int 0) = .int 0 := rfl
theorem xe_1 : narrow .boolean (.int 1) = .int 1 := rfl
theorem xs_open {p n ps mb mc oc : Nat} {op cl hd hb mg mr st rk : Nat → Nat} {I : xw_I} {F : xw_F} {G : xw_G} {post : Int32 → xw_I → xw_F → xw_G → Prop} (hp : p < 5) (hok : xa_ok (n, ps, mb, mc, oc, op, cl, hd, hb, mg, mr, st, rk)) (hE : xe_P I F (n, ps, mb, mc, oc, op, cl, hd, hb, mg, mr, st, rk))
    (h0 : ps.testBit p = true → post 0 I F G)
    (h1 : ps.testBit p = false → ∀ I1 F1, xe_P I1 F1 (n, ps ||| 2 ^ p, mb, mc, oc + 1, xa_u op p n, xa_u cl p n, (fun q => if q = p then 0 else if (xa_om st oc).testBit q then hd q ||| 2 ^ p else hd q), xa_u hb p (xa_om st oc), mg, mr, xa_u st oc p, xa_u rk p (xa_pop ps)) → xe_fr I I1 F F1 → post 1 I1 F1 G) :
    sm_X4_takeOpening (nI p) I F G post := by
  obtain ⟨o1, o2, o3, o4, o5, o6, o7, o8, o9, o10, o11, o12, o13, o14⟩ := hok
  obtain ⟨e1, e2, e3, e4, e5, e6, e7, e8, e9⟩ := hE
  intro k hk
  unfold bd_X4_takeOpening_0
  rw [e2]
  refine xs_has (by omega) (by omega) ?_ ?_
  · intro hb0
    refine ⟨fun c => absurd rfl c, fun _ => ⟨fun _ => ?_, fun c => ?_⟩⟩
    · obtain ⟨g1, g2, g3⟩ := xa_pop_new ps o2 p hp hb0
      have hst : ∀ i, i < oc → st i ≠ p := fun i hi z => by have := (o6 i hi).2; rw [z, hb0] at this; cases this
      intro I1 eI1
      have hin : vp_in (nI p) 5 := vp_in_nI hp (by omega)
      have hcp : (nI p).toNatClampNeg = p := nI_clamp (by omega)
      refine ⟨hin, fun F1 eF1 => ⟨hin, fun F2 eF2 => ⟨hin, fun F3 eF3 => ⟨hin, fun F4 eF4 => ?_⟩⟩⟩⟩
      rw [hcp] at eF1 eF2 eF3 eF4
      have hI2 : I1 2 = nI n := by rw [eI1, xw_upn (by decide)]; exact e1
      have hI6 : I1 6 = nI oc := by rw [eI1, xw_upn (by decide)]; exact e5
      have hI3 : I1 3 = nI (ps ||| 2 ^ p) := by rw [eI1, xw_ups, xb_shl p (by omega), xb_or]
      have hIj : ∀ j, j ≠ 3 → I1 j = I j := fun j hj => by rw [eI1, xw_upn hj]
      -- the loop
      refine xl_up (fun i Fs => k (nI i) I1 Fs G) oc (fun i Fs => (∀ q, q < 5 → ps.testBit q = true → q ≠ p → Fs 5 q = nI (if (xa_om st i).testBit q then hd q ||| 2 ^ p else hd q)) ∧ Fs 5 p = nI 0 ∧ Fs 6 p = nI (xa_om st i) ∧ (∀ q, q < 5 → ps.testBit q = true → q ≠ p → Fs 6 q = nI (hb q)) ∧ (∀ j, j ≠ 5 → j ≠ 6 → Fs j = F4 j)) ?_ ?_ 0 F4 (by omega) ?_
      · intro i Fs hi hv ih
        obtain ⟨v1, v2, v3, v4, v5⟩ := hv
        apply hk
        unfold bd_X4_takeOpening_69
        refine ⟨fun c => absurd (by rw [hI6] at c; exact (xn_le (by omega) (by omega)).mp c) (by omega), fun _ => ?_⟩
        have hi5 : i < 5 := by omega
        refine ⟨vp_in_nI hi5 (by omega), fun v ev => ?_⟩
        have hF9 : ∀ j, F4 9 j = F 9 j := fun j => by rw [eF4, xw_upn (by decide), eF3, xw_upn (by decide), eF2, xw_upn (by decide), eF1, xw_upn (by decide)]
        have hsti := o6 i hi
        have ev : v = nI (st i) := by rw [ev, nI_clamp (by omega), v5 9 (by decide) (by decide), hF9, e9 i hi]
        subst ev
        refine ⟨vp_in_nI hsti.1 (by omega), fun w ew => ⟨vp_in_nI hsti.1 (by omega), fun F5 eF5 => ⟨hin, fun x ex => ⟨vp_in_nI hi5 (by omega), fun y ey => ⟨hin, fun F6 eF6 u eu => ?_⟩⟩⟩⟩⟩
        rw [nI_clamp (by omega)] at ew eF5
        rw [hcp] at ex eF6
        have hq := hst i hi
        have ew : w = nI (hd (st i)) := by
          rw [ew, v1 (st i) hsti.1 hsti.2 hq]
          have : (xa_om st i).testBit (st i) = false := by
            cases hz : (xa_om st i).testBit (st i)
            · rfl
            · obtain ⟨j, hj, hz2⟩ := (xa_om_bit st (st i) i).mp hz
              have := o7 j i (by omega) hi hz2
              omega
          rw [this]; rfl
        have ex : x = nI (xa_om st i) := by rw [ex, eF5, xw_upn (by decide), v3]
        have ey : y = nI (st i) := by rw [ey, nI_clamp (by omega), eF5, xw_upn (by decide), v5 9 (by decide) (by decide), hF9, e9 i hi]
        subst ew ex ey
        rw [xb_shl p (by omega), xb_or] at eF5
        rw [xb_shl (st i) (by omega), xb_or] at eF6
        rw [eu, nI_1]
        apply ih
        refine ⟨?_, ?_, ?_, ?_, ?_⟩
        · intro q hq5 hqb hqp
          rw [eF6, xw_upn (by decide), eF5, xw_ups, xb_updi]
          by_cases hqs : q = st i
          · subst hqs
            rw [if_pos rfl]
            have : (xa_om st (i + 1)).testBit (st i) = true := (xa_om_bit st _ _).mpr ⟨i, by omega, rfl⟩
            rw [this]; rfl
          · rw [if_neg hqs, v1 q hq5 hqb hqp, xa_om, xa_bit_or]
            simp [Ne.symm hqs]
        · rw [eF6, xw_upn (by decide), eF5, xw_ups, xb_updi, if_neg (Ne.symm hq), v2]
        · rw [eF6, xw_ups, xb_updi, if_pos rfl]; rfl
        · intro q hq5 hqb hqp
          rw [eF6, xw_ups, xb_updi, if_neg hqp, eF5, xw_upn (by decide), v4 q hq5 hqb hqp]
        · intro j hj5 hj6
          rw [eF6, xw_upn hj6, eF5, xw_upn hj5, v5 j hj5 hj6]
      · intro Fs hv
        obtain ⟨v1, v2, v3, v4, v5⟩ := hv
        apply hk
        unfold bd_X4_takeOpening_69
        refine ⟨fun _ => ?_, fun c => absurd (by rw [hI6]; exact (xn_le (by omega) (by omega)).mpr (Nat.le_refl _)) c⟩
        rw [hI6]
        refine ⟨vp_in_nI (by omega) (by omega), fun F5 eF5 I2 eI2 => ?_⟩
        rw [nI_clamp (by omega)] at eF5
        rw [nI_1] at eI2
        have hF : ∀ j, j ≠ 3 → j ≠ 4 → j ≠ 5 → j ≠ 6 → F4 j = F j := fun j a b c d => by rw [eF4, xw_upn d, eF3, xw_upn c, eF2, xw_upn b, eF1, xw_upn a]
        apply h1 hb0
        · refine ⟨?_, ?_, ?_, ?_, ?_, ?_, ?_, ?_, ?_⟩
          · rw [eI2, xw_upn (by decide)]; exact hI2
          · rw [eI2, xw_upn (by decide)]; exact hI3
          · rw [eI2, xw_upn (by decide), hIj 4 (by decide)]; exact e3
          · rw [eI2, xw_upn (by decide), hIj 5 (by decide)]; exact e4
          · rw [eI2, xw_ups]
          · intro q hq5 hqb
            rw [xa_bit_or] at hqb
            by_cases hqp : q = p
            · subst hqp
              refine ⟨?_, ?_, ?_, ?_⟩
              · rw [eF5, xw_upn (by decide), v5 3 (by decide) (by decide), eF4, xw_upn (by decide), eF3, xw_upn (by decide), eF2, xw_upn (by decide), eF1, xw_ups, xb_updi, if_pos rfl, xa_us, hI2]
              · rw [eF5, xw_upn (by decide), v5 4 (by decide) (by decide), eF4, xw_upn (by decide), eF3, xw_upn (by decide), eF2, xw_ups, xb_updi, if_pos rfl, xa_us, hI2]
              · rw [eF5, xw_upn (by decide), v2]; simp only [if_pos]
              · rw [eF5, xw_upn (by decide), v3, xa_us]
            · have hqb : ps.testBit q = true := by simpa [Ne.symm hqp] using hqb
              obtain ⟨a1, a2, a3, a4⟩ := e6 q hq5 hqb
              refine ⟨?_, ?_, ?_, ?_⟩
              · rw [eF5, xw_upn (by decide), v5 3 (by decide) (by decide), eF4, xw_upn (by decide), eF3, xw_upn (by decide), eF2, xw_upn (by decide), eF1, xw_ups, xb_updi, if_neg hqp, xa_un hqp, a1]
              · rw [eF5, xw_upn (by decide), v5 4 (by decide) (by decide), eF4, xw_upn (by decide), eF3, xw_upn (by decide), eF2, xw_ups, xb_updi, if_neg hqp, xa_un hqp, eF1, xw_upn (by decide), a2]
              · rw [eF5, xw_upn (by decide), v1 q hq5 hqb hqp]; simp only [if_neg hqp]
              · rw [eF5, xw_upn (by decide), v4 q hq5 hqb hqp, xa_un hqp]
          · intro m hm hmb
            rw [eF5, xw_upn (by decide), v5 7 (by decide) (by decide), hF 7 (by decide) (by decide) (by decide) (by decide)]; exact e7 m hm hmb
          · intro i hi
            rw [eF5, xw_upn (by decide), v5 8 (by decide) (by decide), hF 8 (by decide) (by decide) (by decide) (by decide)]; exact e8 i hi
          · intro i hi
            rw [eF5, xw_ups, xb_updi]
            by_cases hio : i = oc
            · subst hio; rw [if_pos rfl, xa_us]
            · rw [if_neg hio, xa_un hio, v5 9 (by decide) (by decide), hF 9 (by decide) (by decide) (by decide) (by decide)]; exact e9 i (by omega)
        · refine ⟨fun j hj => ?_, fun j hj => ?_⟩
          · rw [eI2, xw_upn (by omega), hIj j (by omega)]
          · rw [eF5, xw_upn (by omega), v5 j (by omega) (by omega), hF j (by omega) (by omega) (by omega) (by omega)]
      · refine ⟨?_, ?_, ?_, ?_, fun _ _ _ => rfl⟩
        · intro q hq5 hqb hqp
          rw [eF4, xw_upn (by decide), eF3, xw_ups, xb_updi, if_neg hqp, eF2, xw_upn (by decide), eF1, xw_upn (by decide), (e6 q hq5 hqb).2.2.1]
          simp [xa_om]
        · rw [eF4, xw_upn (by decide), eF3, xw_ups, xb_updi, if_pos rfl]; rfl
        · rw [eF4, xw_ups, xb_updi, if_pos rfl]; rfl
        · intro q hq5 hqb hqp
          rw [eF4, xw_ups, xb_updi, if_neg hqp, eF3, xw_upn (by decide), eF2, xw_upn (by decide), eF1, xw_upn (by decide), (e6 q hq5 hqb).2.2.2]
    · exfalso
      apply c
      obtain ⟨g1, g2, g3⟩ := xa_pop_new ps o2 p hp hb0
      rw [e5]
      exact (xn_lt (b := 5) (by omega) (by omega)).mpr (by omega)
  · intro hb1
    exact ⟨fun _ => h0 hb1, fun c => absurd c (by decide)⟩
theorem xs_take {s : Nat} {A : xa_R} {I : xw_I} {F : xw_F} {G : xw_G} {post : Int32 → xw_I → xw_F → xw_G → Prop} (hs : s < 127) (hok : xa_ok A) (hE : xe_P I F A)
    (h0 : xa_step A s = none → post 0 I F G) (h1 : ∀ A' I1 F1, xa_step A s = some A' → xe_P I1 F1 A' → xe_fr I I1 F F1 → post 1 I1 F1 G) : sm_X4_take (nI s) I F G post := by
  obtain ⟨n, ps, mb, mc, oc, op, cl, hd, hb, mg, mr, st, rk⟩ := A
  intro k32 k53 r32 r53
  have hok' := hok
  have hE' := hE
  obtain ⟨o1, o2, o3, o4, o5, o6, o7, o8, o9, o10, o11, o12, o13, o14⟩ := hok'
  obtain ⟨e1, e2, e3, e4, e5, e6, e7, e8, e9⟩ := hE'
  unfold bd_X4_take_0
  unfold xa_step at h0 h1
  dsimp only at h0 h1
  have hlt : ∀ c : Nat, c < 127 → (nI s < nI c ↔ s < c) := fun c hc => xn_lt (by omega) (by omega)
  have hle : ∀ c : Nat, c < 127 → (nI c ≤ nI s ↔ c ≤ s) := fun c hc => xn_le (by omega) (by omega)
  refine ⟨fun c46 => ?_, fun c46 => ?_⟩
  · have c46 : s ≠ 46 := fun z => c46 (by rw [z]; rfl)
    rw [if_neg c46] at h0 h1
    -- marks
    have hmark : ¬ (65 ≤ s ∧ s < 70) → ¬ (97 ≤ s ∧ s < 102) → k53 I F G := by
      intro n1 n2
      rw [if_neg n1, if_neg n2] at h0 h1
      apply r53
      unfold bd_X4_take_53
      refine ⟨fun c => ?_, fun c => ⟨fun c2 => ?_, fun c2 => ?_⟩⟩
      · have c : s < 120 := (hlt 120 (by omega)).mp c
        rw [if_neg (by omega)] at h0; exact h0 rfl
      · have c2 : 123 ≤ s := (hle 123 (by omega)).mp c2
        rw [if_neg (by omega)] at h0; exact h0 rfl
      · have c : 120 ≤ s := Nat.not_lt.mp (fun z => c ((hlt 120 (by omega)).mpr z))
        have c2 : s < 123 := Nat.not_le.mp (fun z => c2 ((hle 123 (by omega)).mpr z))
        rw [if_pos ⟨c, c2⟩] at h0 h1
        rw [show (120 : Int32) = nI 120 from rfl, xn_sub c]
        obtain ⟨p, hp⟩ : ∃ p, p = s - 120 := ⟨_, rfl⟩
        rw [← hp] at h0 h1 ⊢
        have hp3 : p < 3 := by omega
        unfold sm_X4_takeMark
        rw [e3]
        refine xs_has (by omega) (by omega) (fun hb0 => ?_) (fun hb1 => ?_)
        · obtain ⟨g1, g2, g3⟩ := xa_pop_new3 mb o3 p hp3 hb0
          refine ⟨fun c => absurd rfl c, fun _ => ⟨fun _ => ?_, fun c => ?_⟩⟩
          · intro I1 eI1
            have hin : vp_in (nI p) 3 := vp_in_nI hp3 (by omega)
            have hI5 : I1 5 = nI mc := by rw [eI1, xw_upn (by decide)]; exact e4
            have hI2 : I1 2 = nI n := by rw [eI1, xw_upn (by decide)]; exact e1
            refine ⟨hin, fun F1 eF1 => ?_⟩
            rw [hI5]
            refine ⟨vp_in_nI (by omega) (by omega), fun F2 eF2 I2 eI2 => ⟨xe_1, ?_⟩⟩
            rw [nI_clamp (by omega), hI2] at eF1
            rw [nI_clamp (by omega)] at eF2
            rw [xb_shl p (by omega), xb_or] at eI1
            rw [nI_1] at eI2
            refine h1 _ I2 F2 (by rw [hb0]; rfl) ?_ ?_
            · refine ⟨?_, ?_, ?_, ?_, ?_, ?_, ?_, ?_, ?_⟩
              · rw [eI2, xw_upn (by decide)]; exact hI2
              · rw [eI2, xw_upn (by decide), eI1, xw_upn (by decide)]; exact e2
              · rw [eI2, xw_upn (by decide), eI1, xw_ups]
              · rw [eI2, xw_ups]
              · rw [eI2, xw_upn (by decide), eI1, xw_upn (by decide)]; exact e5
              · intro q hq hqb
                rw [eF2, xw_upn (by decide), xw_upn (by decide), xw_upn (by decide), xw_upn (by decide), eF1, xw_upn (by decide), xw_upn (by decide), xw_upn (by decide), xw_upn (by decide)]
                exact e6 q hq hqb
              · intro m hm hmb
                rw [xa_bit_or] at hmb
                rw [eF2, xw_upn (by decide), eF1, xw_ups, xb_updi]
                by_cases hmp : m = p
                · subst hmp; rw [if_pos rfl, xa_us]
                · rw [if_neg hmp, xa_un hmp]; exact e7 m hm (by simpa [Ne.symm hmp] using hmb)
              · intro i hi
                rw [eF2, xw_ups, xb_updi]
                by_cases him : i = mc
                · subst him; rw [if_pos rfl, xa_us]
                · rw [if_neg him, xa_un him, eF1, xw_upn (by decide)]; exact e8 i (by omega)
              · intro i hi
                rw [eF2, xw_upn (by decide), eF1, xw_upn (by decide)]; exact e9 i hi
            · exact ⟨fun j hj => by rw [eI2, xw_upn (by omega), eI1, xw_upn (by omega)], fun j hj => by rw [eF2, xw_upn (by omega), eF1, xw_upn (by omega)]⟩
          · exact absurd (by rw [e4]; exact (xn_lt (b := 3) (by omega) (by omega)).mpr (by omega)) c
        · rw [hb1] at h0
          exact ⟨fun _ => ⟨xe_0, h0 rfl⟩, fun c => absurd c (by decide)⟩
    have hclose : ¬ (65 ≤ s ∧ s < 70) → k32 I F G := by
      intro n1
      apply r32
      unfold bd_X4_take_32
      refine ⟨fun c => hmark n1 (fun z => by have := (hlt 97 (by omega)).mp c; omega), fun c => ⟨fun c2 => hmark n1 (fun z => by have := (hle 102 (by omega)).mp c2; omega), fun c2 => ?_⟩⟩
      have c : 97 ≤ s := Nat.not_lt.mp (fun z => c ((hlt 97 (by omega)).mpr z))
      have c2 : s < 102 := Nat.not_le.mp (fun z => c2 ((hle 102 (by omega)).mpr z))
      rw [if_neg n1, if_pos ⟨c, c2⟩] at h0 h1
      rw [show (97 : Int32) = nI 97 from rfl, xn_sub c]
      obtain ⟨p, hp⟩ : ∃ p, p = s - 97 := ⟨_, rfl⟩
      rw [← hp] at h0 h1 ⊢
      have hp5 : p < 5 := by omega
      have hoc : oc ≤ 5 := by
        have := Nat.le_trans o5 (show xa_pop ps ≤ 5 by unfold xa_pop; have := fun b : Bool => (by cases b <;> decide : b.toNat ≤ 1); have := this (ps.testBit 0); have := (by cases ps.testBit 1 <;> decide : (ps.testBit 1).toNat ≤ 1); have := (by cases ps.testBit 2 <;> decide : (ps.testBit 2).toNat ≤ 1); have := (by cases ps.testBit 3 <;> decide : (ps.testBit 3).toNat ≤ 1); have := (by cases ps.testBit 4 <;> decide : (ps.testBit 4).toNat ≤ 1); omega)
        exact this
      unfold sm_X4_takeClosing
      rw [e5]
      refine ⟨fun c => ?_, fun c => ?_⟩
      · have c : oc < 1 := (xn_lt (b := 1) (by omega) (by omega)).mp c
        rw [if_neg (by omega)] at h0; exact ⟨xe_0, h0 rfl⟩
      · have c : 0 < oc := Nat.not_le.mp (fun z => c ((xn_lt (b := 1) (by omega) (by omega)).mpr (by omega)))
        rw [show (1 : Int32) = nI 1 from rfl, xn_sub (show 1 ≤ oc from c)]
        refine ⟨vp_in_nI (by omega) (by omega), fun v ev => ?_⟩
        rw [nI_clamp (by omega), e9 (oc - 1) (by omega)] at ev
        have hst5 := (o6 (oc - 1) (by omega)).1
        subst ev
        refine ⟨fun z => ?_, fun z => ?_⟩
        · have z : st (oc - 1) = p := (xn_eq (by omega) (by omega)).mp z
          rw [if_pos ⟨c, z⟩] at h1
          intro I1 eI1
          refine ⟨vp_in_nI hp5 (by omega), fun F1 eF1 => ⟨xe_1, ?_⟩⟩
          have hI2 : I1 2 = nI n := by rw [eI1, xw_upn (by decide)]; exact e1
          rw [nI_clamp (by omega), hI2] at eF1
          refine h1 _ I1 F1 rfl ?_ ?_
          · refine ⟨hI2, ?_, ?_, ?_, ?_, ?_, ?_, ?_, ?_⟩
            · rw [eI1, xw_upn (by decide)]; exact e2
            · rw [eI1, xw_upn (by decide)]; exact e3
            · rw [eI1, xw_upn (by decide)]; exact e4
            · rw [eI1, xw_ups]
            · intro q hq hqb
              obtain ⟨a1, a2, a3, a4⟩ := e6 q hq hqb
              rw [eF1, xw_upn (by decide), xw_ups, xw_upn (by decide), xw_upn (by decide), xb_updi]
              refine ⟨a1, ?_, a3, a4⟩
              by_cases hqp : q = p
              · subst hqp; rw [if_pos rfl, xa_us]
              · rw [if_neg hqp, xa_un hqp, a2]
            · intro m hm hmb; rw [eF1, xw_upn (by decide)]; exact e7 m hm hmb
            · intro i hi; rw [eF1, xw_upn (by decide)]; exact e8 i hi
            · intro i hi; rw [eF1, xw_upn (by decide)]; exact e9 i (by omega)
          · exact ⟨fun j hj => by rw [eI1, xw_upn (by omega)], fun j hj => by rw [eF1, xw_upn (by omega)]⟩
        · rw [if_neg (fun y => z (by rw [y.2]))] at h0; exact ⟨xe_0, h0 rfl⟩
    refine ⟨fun c => hclose (fun z => by have := (hlt 65 (by omega)).mp c; omega), fun c => ⟨fun c2 => hclose (fun z => by have := (hle 70 (by omega)).mp c2; omega), fun c2 => ?_⟩⟩
    have c : 65 ≤ s := Nat.not_lt.mp (fun z => c ((hlt 65 (by omega)).mpr z))
    have c2 : s < 70 := Nat.not_le.mp (fun z => c2 ((hle 70 (by omega)).mpr z))
    rw [if_pos ⟨c, c2⟩] at h0 h1
    rw [show (65 : Int32) = nI 65 from rfl, xn_sub c]
    obtain ⟨p, hp⟩ : ∃ p, p = s - 65 := ⟨_, rfl⟩
    rw [← hp] at h0 h1 ⊢
    refine xs_open (by omega) hok hE (fun hb1 => ?_) (fun hb0 I1 F1 hE1 hfr => ?_)
    · rw [hb1] at h0; exact ⟨xe_0, h0 rfl⟩
    · exact ⟨xe_1, h1 _ I1 F1 (by rw [hb0]; rfl) hE1 hfr⟩
  · have c46 : s = 46 := (xn_eq (b := 46) (by omega) (by omega)).mp c46
    rw [if_pos c46] at h0 h1
    unfold sm_X4_takeWord
    rw [e1]
    refine ⟨fun c => ?_, fun c => ?_⟩
    · have c : n < 12 := (xn_lt (b := 12) (by omega) (by omega)).mp c
      intro I1 eI1
      rw [if_pos c] at h1
      rw [nI_1] at eI1
      refine ⟨xe_1, h1 _ I1 F rfl ⟨?_, ?_, ?_, ?_, ?_, e6, e7, e8, e9⟩ ⟨fun j hj => by rw [eI1, xw_upn (by omega)], fun _ _ => rfl⟩⟩
      · rw [eI1, xw_ups]
      · rw [eI1, xw_upn (by decide)]; exact e2
      · rw [eI1, xw_upn (by decide)]; exact e3
      · rw [eI1, xw_upn (by decide)]; exact e4
      · rw [eI1, xw_upn (by decide)]; exact e5
    · rw [if_neg (fun z => c ((xn_lt (b := 12) (by omega) (by omega)).mpr z))] at h0
      exact ⟨xe_0, h0 rfl⟩
