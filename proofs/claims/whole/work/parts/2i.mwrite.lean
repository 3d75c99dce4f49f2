/-! ===== how long it is ===== -/
def xt_sum (f : Nat → Nat) : Nat → Nat
  | 0 => 0
  | n + 1 => xt_sum f n + f n
theorem xt_sum_le {f : Nat → Nat} (h : ∀ i, f i ≤ 1) : ∀ n, xt_sum f n ≤ n
  | 0 => Nat.le_refl _
  | n + 1 => by have := xt_sum_le h n; have := h n; rw [xt_sum]; omega
theorem xt_em_len (S : Nat) : (xt_cat (xt_em S) 5).length = 2 * xa_pop S := by
  have h1 : ∀ p, (xt_em S p).length = 2 * (S.testBit p).toNat := by
    intro p; rw [xt_em]; cases S.testBit p <;> rfl
  simp only [xt_cat, List.length_append, h1, List.length_nil, xa_pop]
  omega
theorem xt_mk_len (mr mt : Nat → Nat) (g : Nat) : ∀ n, (xt_cat (xt_mk mr mt g) n).length = xt_sum (fun i => (decide (mt i = g)).toNat) n
  | 0 => rfl
  | n + 1 => by
    rw [xt_cat, List.length_append, xt_mk_len mr mt g n, xt_sum, xt_mk]
    by_cases h : mt n = g
    · rw [if_pos h, decide_eq_true h]; rfl
    · rw [if_neg h, decide_eq_false h]; rfl
theorem xt_lt1 (b : Bool) (x k : Nat) : (b && decide (x < k + 1)).toNat = (b && decide (x < k)).toNat + (b && decide (x = k)).toNat := by
  by_cases h1 : x < k
  · rw [decide_eq_true h1, decide_eq_true (show x < k + 1 by omega), decide_eq_false (show ¬ x = k by omega)]; cases b <;> rfl
  · by_cases h2 : x = k
    · rw [decide_eq_false h1, decide_eq_true (show x < k + 1 by omega), decide_eq_true h2]; cases b <;> rfl
    · rw [decide_eq_false h1, decide_eq_false (show ¬ x < k + 1 by omega), decide_eq_false h2]; cases b <;> rfl
theorem xt_mk_lt1 (mt : Nat → Nat) (k : Nat) : ∀ n, xt_sum (fun i => (decide (mt i < k + 1)).toNat) n = xt_sum (fun i => (decide (mt i < k)).toNat) n + xt_sum (fun i => (decide (mt i = k)).toNat) n
  | 0 => rfl
  | n + 1 => by
    rw [xt_sum, xt_sum, xt_sum, xt_mk_lt1 mt k n]
    have := xt_lt1 true (mt n) k
    simp only [Bool.true_and] at this
    omega
theorem xt_bits1 (ps : Nat) (hd fr to : Nat → Nat) (g : Nat) {p : Nat} (hp : p < 5) : 2 * ((xt_Fi ps hd fr to g).testBit p).toNat + ((xt_C ps fr to g).testBit p).toNat + 2 * ((xt_Mi ps hd fr to g).testBit p).toNat + ((xt_O ps fr to g).testBit p).toNat + 2 * ((xt_La ps hd fr to g).testBit p).toNat = (ps.testBit p && decide (fr p = g)).toNat + (ps.testBit p && decide (to p = g)).toNat := by
  have h1 : (xt_Fi ps hd fr to g).testBit p = ((xt_E ps fr to g).testBit p && (xt_hd hd (xt_C ps fr to g) 5).testBit p) := by unfold xt_Fi; rw [Nat.testBit_and]
  have h2 : (xt_mi (xt_E ps fr to g) (xt_Fi ps hd fr to g)).testBit p = ((xt_E ps fr to g).testBit p && !(xt_Fi ps hd fr to g).testBit p) := by unfold xt_mi; rw [xt_set5b _ hp]
  have h3 : (xt_La ps hd fr to g).testBit p = ((xt_mi (xt_E ps fr to g) (xt_Fi ps hd fr to g)).testBit p && (xt_hd hd (xt_O ps fr to g) 5).testBit p) := by unfold xt_La; rw [Nat.testBit_and]
  have h4 : (xt_Mi ps hd fr to g).testBit p = ((xt_mi (xt_E ps fr to g) (xt_Fi ps hd fr to g)).testBit p && !(xt_La ps hd fr to g).testBit p) := by unfold xt_Mi; rw [xt_mi, xt_set5b _ hp]
  have h5 : (xt_E ps fr to g).testBit p = (ps.testBit p && (decide (fr p = g) && decide (to p = g))) := by unfold xt_E; rw [xt_set5b _ hp]
  have h6 : (xt_C ps fr to g).testBit p = (ps.testBit p && (decide (to p = g) && !decide (fr p = g))) := by unfold xt_C; rw [xt_set5b _ hp]
  have h7 : (xt_O ps fr to g).testBit p = (ps.testBit p && (decide (fr p = g) && !decide (to p = g))) := by unfold xt_O; rw [xt_set5b _ hp]
  rw [h4, h3, h2, h1, h5, h6, h7]
  cases ps.testBit p <;> cases decide (fr p = g) <;> cases decide (to p = g) <;> cases (xt_hd hd (xt_C ps fr to g) 5).testBit p <;> cases (xt_hd hd (xt_O ps fr to g) 5).testBit p <;> rfl
def xt_pot (ps : Nat) (fr to : Nat → Nat) (k : Nat) : Nat := xt_sum (fun p => (ps.testBit p && decide (fr p < k)).toNat + (ps.testBit p && decide (to p < k)).toNat) 5
theorem xt_gap_len (ps mc : Nat) (hd hb fr to mr mt : Nat → Nat) (g : Nat) : (xt_gap ps mc hd hb fr to mr mt g).length = xt_sum (fun p => (ps.testBit p && decide (fr p = g)).toNat + (ps.testBit p && decide (to p = g)).toNat) 5 + xt_sum (fun i => (decide (mt i = g)).toNat) mc := by
  have bC : xt_C ps fr to g < 32 := xt_set5 _
  have bO : xt_O ps fr to g < 32 := xt_set5 _
  unfold xt_gap
  simp only [List.length_append]
  rw [xt_em_len, xt_em_len, xt_em_len, xt_ordl 5 _ bC (xa_pop5 _ bC), xt_ordl 5 _ bO (xa_pop5 _ bO), xt_mk_len]
  have q0 := xt_bits1 ps hd fr to g (show 0 < 5 by omega)
  have q1 := xt_bits1 ps hd fr to g (show 1 < 5 by omega)
  have q2 := xt_bits1 ps hd fr to g (show 2 < 5 by omega)
  have q3 := xt_bits1 ps hd fr to g (show 3 < 5 by omega)
  have q4 := xt_bits1 ps hd fr to g (show 4 < 5 by omega)
  simp only [xt_sum]
  unfold xa_pop
  omega
theorem xt_pot1 (ps : Nat) (fr to : Nat → Nat) (k : Nat) : xt_pot ps fr to (k + 1) = xt_pot ps fr to k + xt_sum (fun p => (ps.testBit p && decide (fr p = k)).toNat + (ps.testBit p && decide (to p = k)).toNat) 5 := by
  simp only [xt_pot, xt_sum, xt_lt1]
  omega
theorem xt_all_len (ps T mc : Nat) (hd hb fr to mr mt : Nat → Nat) : ∀ k, (xt_cat (xt_all ps T mc hd hb fr to mr mt) k).length = xt_pot ps fr to k + xt_sum (fun i => (decide (mt i < k)).toNat) mc + min k T
  | 0 => by
    have h1 : xt_pot ps fr to 0 = 0 := by simp [xt_pot, xt_sum]
    have h2 : ∀ n, xt_sum (fun i => (decide (mt i < 0)).toNat) n = 0 := by
      intro n
      induction n with
      | zero => rfl
      | succ n ih => rw [xt_sum, ih]; simp
    rw [h1, h2, xt_cat, List.length_nil]; omega
  | k + 1 => by
    rw [xt_cat, List.length_append, xt_all_len ps T mc hd hb fr to mr mt k, xt_pot1, xt_mk_lt1, xt_all, List.length_append, xt_gap_len]
    by_cases h : k < T
    · rw [if_pos h, List.length_singleton]; omega
    · rw [if_neg h, List.length_nil]; omega
theorem xt_len {ps T mc : Nat} {hd hb fr to mr mt : Nat → Nat} (hT : T ≤ 8) (hmc : mc ≤ 3) : (xt_cat (xt_all ps T mc hd hb fr to mr mt) (T + 1)).length ≤ 21 := by
  rw [xt_all_len]
  have h1 : ∀ b : Bool, b.toNat ≤ 1 := by decide
  have h2 := xt_sum_le (f := fun i => (decide (mt i < T + 1)).toNat) (fun i => h1 _) mc
  have h3 : xt_pot ps fr to (T + 1) ≤ 10 := by
    simp only [xt_pot, xt_sum]
    have a0 := h1 (ps.testBit 0 && decide (fr 0 < T + 1)); have a1 := h1 (ps.testBit 1 && decide (fr 1 < T + 1)); have a2 := h1 (ps.testBit 2 && decide (fr 2 < T + 1)); have a3 := h1 (ps.testBit 3 && decide (fr 3 < T + 1)); have a4 := h1 (ps.testBit 4 && decide (fr 4 < T + 1))
    have b0 := h1 (ps.testBit 0 && decide (to 0 < T + 1)); have b1 := h1 (ps.testBit 1 && decide (to 1 < T + 1)); have b2 := h1 (ps.testBit 2 && decide (to 2 < T + 1)); have b3 := h1 (ps.testBit 3 && decide (to 3 < T + 1)); have b4 := h1 (ps.testBit 4 && decide (to 4 < T + 1))
    omega
  omega
/-! ===== the reference writes ===== -/
def xt_fm (I I1 : xw_I) (F F1 : xw_F) : Prop := (∀ j, j ≠ 5 → I1 j = I j) ∧ ∀ j, j ≠ 13 → F1 j = F j
theorem xt_fm.rf {I : xw_I} {F : xw_F} : xt_fm I I F F := ⟨fun _ _ => rfl, fun _ _ => rfl⟩
theorem xt_fm.tr {I I1 I2 : xw_I} {F F1 F2 : xw_F} (h : xt_fm I I1 F F1) (h2 : xt_fm I1 I2 F1 F2) : xt_fm I I2 F F2 := ⟨fun j a => (h2.1 j a).trans (h.1 j a), fun j q => (h2.2 j q).trans (h.2 j q)⟩
theorem xt_mwrite {s : Nat} {l : List Nat} {I : xw_I} {F : xw_F} {G : xw_G} {post : xw_I → xw_F → xw_G → Prop} (hl : l.length < 21) (hL : xt_L (I 5) (F 13) l) (h : ∀ I1 F1, xt_L (I1 5) (F1 13) (l ++ [s]) → xt_fm I I1 F F1 → post I1 F1 G) : sm_X8_write (nI s) I F G post := by
  unfold sm_X8_write
  rw [hL.1]
  refine ⟨vp_in_nI (show l.length < 30 by omega) (by omega), fun F4 e4 I5 e5 => ?_⟩
  rw [nI_clamp (by omega)] at e4
  rw [nI_1] at e5
  refine h I5 F4 ?_ ⟨fun j hj => by rw [e5, xw_upn hj], fun j hj => by rw [e4, xw_upn hj]⟩
  rw [e5, xw_ups, e4, xw_ups]
  exact hL.add
/-- what the reference's writer reads -/
def xt_Y (ps T mc : Nat) (op cl hd fr to mr mt : Nat → Nat) (I : xw_I) (F : xw_F) : Prop := xe_MP ps op cl hd F ∧ (I 1 = nI mc ∧ I 2 = nI T) ∧ (∀ p, p < 5 → ps.testBit p = true → F 10 p = nI (fr p) ∧ F 11 p = nI (to p)) ∧ ∀ i, i < mc → F 5 i = nI (mr i) ∧ F 12 (mr i) = nI (mt i)
theorem xt_Y.to {ps T mc : Nat} {op cl hd fr to mr mt : Nat → Nat} {I I1 : xw_I} {F F1 : xw_F} (h : xt_Y ps T mc op cl hd fr to mr mt I F) (h2 : xt_fm I I1 F F1) : xt_Y ps T mc op cl hd fr to mr mt I1 F1 := by
  obtain ⟨a, ⟨b1, b2⟩, c, d⟩ := h
  refine ⟨⟨fun p hp hb => ?_, fun p hp hb => ?_⟩, ⟨by rw [h2.1 1 (by decide)]; exact b1, by rw [h2.1 2 (by decide)]; exact b2⟩, fun p hp hb => ?_, fun i hi => ?_⟩
  · rw [h2.2 1 (by decide), h2.2 2 (by decide), h2.2 3 (by decide)]; exact a.1 p hp hb
  · rw [h2.2 1 (by decide), h2.2 3 (by decide)]; exact a.2 p hp hb
  · rw [h2.2 10 (by decide), h2.2 11 (by decide)]; exact c p hp hb
  · rw [h2.2 5 (by decide), h2.2 12 (by decide)]; exact d i hi
/-- who holds, and who is held -/
def xt_HB (ps : Nat) (hd hb : Nat → Nat) : Prop := ∀ p q, p < 5 → q < 5 → ps.testBit p = true → (hb p).testBit q = (ps.testBit q && (hd q).testBit p)
theorem xt_bc5 : ∀ s, s < 32 → xt_bc s 5 = xa_pop s := by decide +kernel
theorem xt_mdepth {ps p : Nat} {op cl hd hb : Nat → Nat} {I : xw_I} {F : xw_F} {G : xw_G} {post : Int32 → Prop} (hE : xe_MP ps op cl hd F) (hH : xt_HB ps hd hb) (hhd : ∀ p, p < 5 → ps.testBit p = true → hd p < 32) (hp : p < 5) (hps : ps.testBit p = true) (hh : hb p < 32) (h : post (nI (xa_pop (hb p)))) : sm_X8_depth (nI p) I F G post := by
  intro k hk
  refine xl_up (fun i (_ : Unit) => k (nI (xt_bc (hb p) i)) (nI i)) 5 (fun _ _ => True) ?_ ?_ 0 () (by omega) trivial
  · intro i _ hi _ ih
    have ih := ih () trivial
    rw [xt_bc, hH p i hp hi hps] at ih
    apply hk
    unfold bd_X8_depth_4
    refine ⟨fun z => absurd ((xn_le (a := 5) (by omega) (by omega)).mp z) (by omega), fun _ => xs_isThere hE hi (fun e => ⟨fun z => absurd z (by decide), fun _ => ⟨vp_in_nI hi (by omega), fun v16 e16 => ?_⟩⟩) (fun e => ⟨fun _ v14 e14 v15 e15 => ?_, fun z => absurd rfl z⟩)⟩
    · have hlt := hhd i hi e
      rw [nI_clamp (by omega), (hE.1 i hi e).2.2.1] at e16
      subst e16
      rw [xb_bit (by omega) (by omega)]
      rw [e, Bool.true_and] at ih
      refine ⟨fun z v18 e18 v19 e19 => ?_, fun z v20 e20 v21 e21 => ?_⟩
      · rw [Bool.eq_false_iff.mpr (fun x => z ((xn_b1 _).mpr x))] at ih
        rw [xn_lit0, nI_add] at e18
        rw [nI_1] at e19
        rw [e18, e19]; exact ih
      · rw [(xn_b1 _).mp z] at ih
        rw [nI_1] at e20 e21
        rw [e20, e21]; exact ih
    · rw [e, Bool.false_and] at ih
      rw [xn_lit0, nI_add] at e14
      rw [nI_1] at e15
      rw [e14, e15]; exact ih
  · intro _ _
    apply hk
    unfold bd_X8_depth_4
    rw [xt_bc5 _ hh]
    exact ⟨fun _ => h, fun z => absurd ((xn_le (a := 5) (b := 5) (by omega) (by omega)).mpr (by omega)) z⟩
theorem xt_ord0 (c : Nat) (f : Nat → Nat → Bool) : ∀ n, xt_ord c f n 0 = []
  | 0 => rfl
  | n + 1 => by rw [xt_ord, if_pos rfl]
theorem xm_orb : ∀ S, S < 32 → ∀ b, b < 5 → S ||| 2 ^ b < 32 := by decide +kernel
theorem xt_mclosed {ps T mc g : Nat} {op cl hd hb fr to mr mt : Nat → Nat} {l : List Nat} {I : xw_I} {F : xw_F} {G : xw_G} {post : xw_I → xw_F → xw_G → Prop} (hP : xt_P ps T mc hd hb fr to mr mt) (hH : xt_HB ps hd hb) (hY : xt_Y ps T mc op cl hd fr to mr mt I F) (hg : g ≤ T) (hL : xt_L (I 5) (F 13) l) (hb2 : l.length + (xt_ord 97 (xt_cf fr (fun x => xa_pop (hb x))) 5 (xt_C ps fr to g)).length ≤ 21)
    (h : ∀ I1 F1, xt_L (I1 5) (F1 13) (l ++ xt_ord 97 (xt_cf fr (fun x => xa_pop (hb x))) 5 (xt_C ps fr to g)) → xt_fm I I1 F F1 → post I1 F1 G) : sm_X8_writeClosed (nI g) I F G post := by
  intro k4 k15 k120 k152 r4 r15 r120 r152
  obtain ⟨⟨p1, p2, p3⟩, p4, p5⟩ := hP
  obtain ⟨f, hf⟩ : ∃ f, f = xt_cf fr (fun x => xa_pop (hb x)) := ⟨_, rfl⟩
  rw [← hf] at h hb2
  have hcb : ∀ p, p < 5 → (xt_C ps fr to g).testBit p = (ps.testBit p && (decide (to p = g) && !decide (fr p = g))) := fun p hp => by unfold xt_C; rw [xt_set5b _ hp]
  have hin : ∀ D S I1 F1, D < 32 → S < 32 → (∀ p, p < 5 → S.testBit p = ((xt_C ps fr to g).testBit p && !D.testBit p)) → xt_fm I I1 F F1 → k152 (nI D) (if xt_sel f S 5 = 5 then (-6 : Int32) else nI (xt_sel f S 5)) (if xt_sel f S 5 = 5 then (0 : Int32) else 1) I1 F1 G → k15 (nI D) (-6) 0 I1 F1 G := by
    intro D S I1 F1 hD hS hbits h2 hend
    have hY1 := hY.to h2
    obtain ⟨y1, y2, y3, y4⟩ := hY1
    have hen : ∀ i, i < 5 → (if i = 5 then (-6 : Int32) else nI i) = nI i := fun i hi => if_neg (by omega)
    refine xl_up (fun i (_ : Unit) => k15 (nI D) (if xt_sel f S i = 5 then (-6 : Int32) else nI (xt_sel f S i)) (nI i) I1 F1 G) 5 (fun _ _ => True) ?_ ?_ 0 () (by omega) trivial
    · intro i _ hi _ ih
      have ih := ih () trivial
      have hb := hbits i hi
      rw [hcb i hi] at hb
      have hso := xt_sel_in f S i (by omega)
      have hno : S.testBit i = false → k15 (nI D) (if xt_sel f S i = 5 then (-6 : Int32) else nI (xt_sel f S i)) (nI (i + 1)) I1 F1 G := by
        intro e
        rw [xt_sel_no e] at ih
        exact ih
      apply r15
      unfold bd_X8_writeClosed_15
      refine ⟨fun z => absurd ((xn_le (a := 5) (by omega) (by omega)).mp z) (by omega), fun _ => xs_isThere y1 hi (fun e => ⟨fun z => absurd z (by decide), fun _ => ?_⟩) (fun e => ⟨fun _ v ev => ?_, fun z => absurd rfl z⟩)⟩
      · obtain ⟨q3, q4⟩ := y3 i hi e
        obtain ⟨_, q7, q5, q6⟩ := p4 i hi e
        rw [e, Bool.true_and] at hb
        rw [xb_bit (by omega) (by omega)]
        refine ⟨fun z v ev => ?_, fun z => ⟨vp_in_nI hi (by omega), fun v35 e35 => ?_⟩⟩
        · rw [ev, nI_1]
          refine hno ?_
          cases hd2 : D.testBit i
          · rw [hd2] at z; exact absurd rfl z
          · rw [hb, hd2]; simp
        · have hd2 : D.testBit i = false := by
            cases hd2 : D.testBit i
            · rfl
            · rw [hd2] at z; exact absurd z (by decide)
          rw [hd2, Bool.not_false, Bool.and_true] at hb
          rw [nI_clamp (by omega), q4] at e35
          subst e35
          refine ⟨fun y v ev => ?_, fun y => ⟨vp_in_nI hi (by omega), fun v38 e38 => ?_⟩⟩
          · rw [ev, nI_1]
            refine hno ?_
            rw [hb, decide_eq_false (fun x => y (by rw [x])), Bool.false_and]
          · have y : to i = g := (xn_eq (by omega) (by omega)).mp y
            rw [decide_eq_true y, Bool.true_and] at hb
            rw [nI_clamp (by omega), q3] at e38
            subst e38
            refine ⟨fun w v ev => ?_, fun w => ?_⟩
            · have w := (xn_le (by omega) (by omega)).mp w
              rw [ev, nI_1]
              refine hno ?_
              rw [hb, decide_eq_true (show fr i = g by omega)]; rfl
            · have w : fr i < g := Nat.not_le.mp (fun x => w ((xn_le (by omega) (by omega)).mpr x))
              rw [decide_eq_false (show ¬ fr i = g by omega)] at hb
              have hyes : (xt_sel f S i = 5 ∨ f i (xt_sel f S i) = true) → k120 (nI D) (if xt_sel f S i = 5 then (-6 : Int32) else nI (xt_sel f S i)) (nI i) 1 I1 F1 G := by
                intro hh
                apply r120
                unfold bd_X8_writeClosed_120
                refine ⟨fun x => absurd x (by decide), fun _ v ev => ?_⟩
                rw [ev, nI_1]
                rw [xt_sel_yes hb hh, hen i hi] at ih
                exact ih
              have hnay : ¬ (xt_sel f S i = 5 ∨ f i (xt_sel f S i) = true) → k120 (nI D) (if xt_sel f S i = 5 then (-6 : Int32) else nI (xt_sel f S i)) (nI i) 0 I1 F1 G := by
                intro hh
                apply r120
                unfold bd_X8_writeClosed_120
                refine ⟨fun _ v ev => ?_, fun x => absurd rfl x⟩
                rw [ev, nI_1]
                rw [xt_sel_nay hh] at ih
                exact ih
              by_cases h5 : xt_sel f S i = 5
              · have hyes := hyes (Or.inl h5)
                rw [if_pos h5] at hyes ⊢
                exact ⟨fun _ => hyes, fun x => absurd (by decide) x⟩
              · obtain ⟨b5, bS⟩ := hso.resolve_left (fun x => h5 x.1)
                have bps : ps.testBit (xt_sel f S i) = true := by
                  have hq := hbits _ b5
                  rw [bS, hcb _ b5] at hq
                  revert hq; cases ps.testBit (xt_sel f S i) <;> simp
                obtain ⟨w3, w4⟩ := y3 _ b5 bps
                obtain ⟨_, w7, w5, w6⟩ := p4 _ b5 bps
                have d1 := xa_pop5 _ q7
                have d2 := xa_pop5 _ w7
                rw [if_neg h5] at hyes hnay ⊢
                obtain ⟨b, hbe⟩ : ∃ b, b = xt_sel f S i := ⟨_, rfl⟩
                rw [← hbe] at hyes hnay b5 bS bps w3 w4 w7 w5 w6 d2 h5 ⊢
                refine ⟨fun x => absurd x (nI_pos (by omega)), fun _ => ⟨vp_in_nI hi (by omega), fun v42 e42 => ⟨vp_in_nI b5 (by omega), fun v43 e43 => ?_⟩⟩⟩
                rw [nI_clamp (by omega), q3] at e42
                rw [nI_clamp (by omega), w3] at e43
                subst e42 e43
                refine ⟨fun x => hyes (Or.inr ?_), fun x => ⟨vp_in_nI hi (by omega), fun v45 e45 => ⟨vp_in_nI b5 (by omega), fun v46 e46 => ?_⟩⟩⟩
                · have x := (xn_lt (by omega) (by omega)).mp x
                  rw [hf]
                  simp only [xt_cf, Bool.or_eq_true, Bool.and_eq_true, decide_eq_true_eq]
                  exact Or.inl x
                · have x : ¬ fr b < fr i := fun u => x ((xn_lt (by omega) (by omega)).mpr u)
                  rw [nI_clamp (by omega), q3] at e45
                  rw [nI_clamp (by omega), w3] at e46
                  subst e45 e46
                  refine ⟨fun u => hnay ?_, fun u => ?_⟩
                  · have u : ¬ fr i = fr b := fun t => u (by rw [t])
                    rw [hf]
                    simp only [xt_cf, Bool.or_eq_true, Bool.and_eq_true, decide_eq_true_eq]
                    intro t
                    rcases t with t | t | t
                    · exact h5 t
                    · exact x t
                    · exact u t.1
                  · have u : fr i = fr b := (xn_eq (by omega) (by omega)).mp u
                    refine xt_mdepth y1 hH (fun p hp hh => (p4 p hp hh).1) hi e q7 (xt_mdepth y1 hH (fun p hp hh => (p4 p hp hh).1) b5 bps w7 ⟨fun t => hnay ?_, fun t => hyes (Or.inr ?_)⟩)
                    · have t := (xn_lt (by omega) (by omega)).mp t
                      rw [hf]
                      simp only [xt_cf, Bool.or_eq_true, Bool.and_eq_true, decide_eq_true_eq]
                      intro m
                      rcases m with m | m | m
                      · exact h5 m
                      · exact x m
                      · have := m.2; omega
                    · have t : ¬ _ < _ := fun m => t ((xn_lt (by omega) (by omega)).mpr m)
                      rw [hf]
                      simp only [xt_cf, Bool.or_eq_true, Bool.and_eq_true, decide_eq_true_eq]
                      exact Or.inr ⟨u, by omega⟩
      · rw [ev, nI_1]
        refine hno ?_
        rw [hb, e, Bool.false_and, Bool.false_and]
    · intro _ _
      apply r15
      unfold bd_X8_writeClosed_15
      refine ⟨fun _ => ?_, fun z => absurd ((xn_le (a := 5) (b := 5) (by omega) (by omega)).mpr (by omega)) z⟩
      rcases xt_sel_in f S 5 (by omega) with h5 | h5
      · rw [if_pos h5.1, if_pos h5.1] at hend
        rw [if_pos h5.1]
        exact ⟨fun _ => hend, fun x => absurd (by decide) x⟩
      · rw [if_neg (by omega), if_neg (by omega)] at hend
        rw [if_neg (by omega)]
        exact ⟨fun x => absurd x (nI_pos (by omega)), fun _ => hend⟩
  have key : ∀ n D S (l : List Nat) I1 F1, D < 32 → S < 32 → xa_pop S ≤ n → (∀ p, p < 5 → S.testBit p = ((xt_C ps fr to g).testBit p && !D.testBit p)) → xt_L (I1 5) (F1 13) l → xt_fm I I1 F F1 → l.length + (xt_ord 97 f n S).length ≤ 21 → (∀ I2 F2, xt_L (I2 5) (F2 13) (l ++ xt_ord 97 f n S) → xt_fm I I2 F F2 → post I2 F2 G) → k4 (nI D) 1 I1 F1 G := by
    intro n
    induction n with
    | zero =>
      intro D S l I1 F1 hD hS hp hbits h1 h2 hlen h3
      have h3 := h3 I1 F1 (by rw [xt_ord, List.append_nil]; exact h1) h2
      apply r4
      unfold bd_X8_writeClosed_4
      refine ⟨fun z => absurd z (by decide), fun _ => hin D S I1 F1 hD hS hbits h2 ?_⟩
      rcases xt_sel_in f S 5 (by omega) with h5 | h5
      · rw [if_pos h5.1, if_pos h5.1]
        apply r152
        unfold bd_X8_writeClosed_152
        refine ⟨fun _ => ?_, fun z => absurd rfl z⟩
        apply r4
        unfold bd_X8_writeClosed_4
        exact ⟨fun _ => h3, fun z => absurd rfl z⟩
      · have := (xm_bit S hS _ h5.1 h5.2).2.2; omega
    | succ n ihn =>
      intro D S l I1 F1 hD hS hp hbits h1 h2 hlen h3
      apply r4
      unfold bd_X8_writeClosed_4
      refine ⟨fun z => absurd z (by decide), fun _ => hin D S I1 F1 hD hS hbits h2 ?_⟩
      by_cases h0 : S = 0
      · rw [h0, xt_ord0, List.append_nil] at h3
        have h3 := h3 I1 F1 h1 h2
        rcases xt_sel_in f S 5 (by omega) with h5 | h5
        · rw [if_pos h5.1, if_pos h5.1]
          apply r152
          unfold bd_X8_writeClosed_152
          refine ⟨fun _ => ?_, fun z => absurd rfl z⟩
          apply r4
          unfold bd_X8_writeClosed_4
          exact ⟨fun _ => h3, fun z => absurd rfl z⟩
        · rw [h0, Nat.zero_testBit] at h5; cases h5.2
      · obtain ⟨b5, bS⟩ := xt_sel_some (f := f) hS h0
        have c1 := xm_bit S hS _ b5 bS
        rw [xt_ord, if_neg h0] at h3 hlen
        rw [List.length_cons] at hlen
        obtain ⟨b, hbe⟩ : ∃ b, b = xt_sel f S 5 := ⟨_, rfl⟩
        rw [← hbe] at h3 hlen b5 bS c1 ⊢
        rw [if_neg (by omega), if_neg (by omega)]
        apply r152
        unfold bd_X8_writeClosed_152
        refine ⟨fun z => absurd z (by decide), fun _ v55 e55 => ?_⟩
        rw [xn_or2 _ (by omega)] at e55
        subst e55
        rw [xn_97]
        refine xt_mwrite (by omega) h1 (fun I2 F2 g1 g2 => ?_)
        refine ihn (D ||| 2 ^ b) (S - 2 ^ b) _ I2 F2 (xm_orb D hD b b5) (by omega) (by omega) (fun p hp5 => ?_) g1 (h2.tr g2) (by rw [List.length_append, List.length_singleton]; omega) (fun I3 F3 g3 g4 => h3 I3 F3 ?_ g4)
        · rw [(xm_sub S hS (2 ^ b) (xm_two b b5).2.1 c1.1).2 p hp5, hbits p hp5, xa_bit_or, (xm_two b b5).2.2 p hp5]
          cases (xt_C ps fr to g).testBit p <;> cases D.testBit p <;> cases decide (b = p) <;> rfl
        · rw [List.append_assoc, List.singleton_append] at g3
          exact g3
  have hC5 : xt_C ps fr to g < 32 := xt_set5 _
  exact key 5 0 (xt_C ps fr to g) l I F (by omega) hC5 (xa_pop5 _ hC5) (fun p hp => by rw [Nat.zero_testBit, Bool.not_false, Bool.and_true]) hL xt_fm.rf hb2 h
theorem xt_mopened {ps T mc g : Nat} {op cl hd hb fr to mr mt : Nat → Nat} {l : List Nat} {I : xw_I} {F : xw_F} {G : xw_G} {post : xw_I → xw_F → xw_G → Prop} (hP : xt_P ps T mc hd hb fr to mr mt) (hH : xt_HB ps hd hb) (hY : xt_Y ps T mc op cl hd fr to mr mt I F) (hg : g ≤ T) (hL : xt_L (I 5) (F 13) l) (hb2 : l.length + (xt_ord 65 (xt_of to (fun x => xa_pop (hb x))) 5 (xt_O ps fr to g)).length ≤ 21)
    (h : ∀ I1 F1, xt_L (I1 5) (F1 13) (l ++ xt_ord 65 (xt_of to (fun x => xa_pop (hb x))) 5 (xt_O ps fr to g)) → xt_fm I I1 F F1 → post I1 F1 G) : sm_X8_writeOpened (nI g) I F G post := by
  intro k4 k15 k120 k152 r4 r15 r120 r152
  obtain ⟨⟨p1, p2, p3⟩, p4, p5⟩ := hP
  obtain ⟨f, hf⟩ : ∃ f, f = xt_of to (fun x => xa_pop (hb x)) := ⟨_, rfl⟩
  rw [← hf] at h hb2
  have hcb : ∀ p, p < 5 → (xt_O ps fr to g).testBit p = (ps.testBit p && (decide (fr p = g) && !decide (to p = g))) := fun p hp => by unfold xt_O; rw [xt_set5b _ hp]
  have hin : ∀ D S I1 F1, D < 32 → S < 32 → (∀ p, p < 5 → S.testBit p = ((xt_O ps fr to g).testBit p && !D.testBit p)) → xt_fm I I1 F F1 → k152 (nI D) (if xt_sel f S 5 = 5 then (-6 : Int32) else nI (xt_sel f S 5)) (if xt_sel f S 5 = 5 then (0 : Int32) else 1) I1 F1 G → k15 (nI D) (-6) 0 I1 F1 G := by
    intro D S I1 F1 hD hS hbits h2 hend
    have hY1 := hY.to h2
    obtain ⟨y1, y2, y3, y4⟩ := hY1
    have hen : ∀ i, i < 5 → (if i = 5 then (-6 : Int32) else nI i) = nI i := fun i hi => if_neg (by omega)
    refine xl_up (fun i (_ : Unit) => k15 (nI D) (if xt_sel f S i = 5 then (-6 : Int32) else nI (xt_sel f S i)) (nI i) I1 F1 G) 5 (fun _ _ => True) ?_ ?_ 0 () (by omega) trivial
    · intro i _ hi _ ih
      have ih := ih () trivial
      have hb := hbits i hi
      rw [hcb i hi] at hb
      have hso := xt_sel_in f S i (by omega)
      have hno : S.testBit i = false → k15 (nI D) (if xt_sel f S i = 5 then (-6 : Int32) else nI (xt_sel f S i)) (nI (i + 1)) I1 F1 G := by
        intro e
        rw [xt_sel_no e] at ih
        exact ih
      apply r15
      unfold bd_X8_writeOpened_15
      refine ⟨fun z => absurd ((xn_le (a := 5) (by omega) (by omega)).mp z) (by omega), fun _ => xs_isThere y1 hi (fun e => ⟨fun z => absurd z (by decide), fun _ => ?_⟩) (fun e => ⟨fun _ v ev => ?_, fun z => absurd rfl z⟩)⟩
      · obtain ⟨q3, q4⟩ := y3 i hi e
        obtain ⟨_, q7, q5, q6⟩ := p4 i hi e
        rw [e, Bool.true_and] at hb
        rw [xb_bit (by omega) (by omega)]
        refine ⟨fun z v ev => ?_, fun z => ⟨vp_in_nI hi (by omega), fun v35 e35 => ?_⟩⟩
        · rw [ev, nI_1]
          refine hno ?_
          cases hd2 : D.testBit i
          · rw [hd2] at z; exact absurd rfl z
          · rw [hb, hd2]; simp
        · have hd2 : D.testBit i = false := by
            cases hd2 : D.testBit i
            · rfl
            · rw [hd2] at z; exact absurd z (by decide)
          rw [hd2, Bool.not_false, Bool.and_true] at hb
          rw [nI_clamp (by omega), q3] at e35
          subst e35
          refine ⟨fun y v ev => ?_, fun y => ⟨vp_in_nI hi (by omega), fun v38 e38 => ?_⟩⟩
          · rw [ev, nI_1]
            refine hno ?_
            rw [hb, decide_eq_false (fun x => y (by rw [x])), Bool.false_and]
          · have y : fr i = g := (xn_eq (by omega) (by omega)).mp y
            rw [decide_eq_true y, Bool.true_and] at hb
            rw [nI_clamp (by omega), q4] at e38
            subst e38
            refine ⟨fun w v ev => ?_, fun w => ?_⟩
            · have w := (xn_le (by omega) (by omega)).mp w
              rw [ev, nI_1]
              refine hno ?_
              rw [hb, decide_eq_true (show to i = g by omega)]; rfl
            · have w : g < to i := Nat.not_le.mp (fun x => w ((xn_le (by omega) (by omega)).mpr x))
              rw [decide_eq_false (show ¬ to i = g by omega)] at hb
              have hyes : (xt_sel f S i = 5 ∨ f i (xt_sel f S i) = true) → k120 (nI D) (if xt_sel f S i = 5 then (-6 : Int32) else nI (xt_sel f S i)) (nI i) 1 I1 F1 G := by
                intro hh
                apply r120
                unfold bd_X8_writeOpened_120
                refine ⟨fun x => absurd x (by decide), fun _ v ev => ?_⟩
                rw [ev, nI_1]
                rw [xt_sel_yes hb hh, hen i hi] at ih
                exact ih
              have hnay : ¬ (xt_sel f S i = 5 ∨ f i (xt_sel f S i) = true) → k120 (nI D) (if xt_sel f S i = 5 then (-6 : Int32) else nI (xt_sel f S i)) (nI i) 0 I1 F1 G := by
                intro hh
                apply r120
                unfold bd_X8_writeOpened_120
                refine ⟨fun _ v ev => ?_, fun x => absurd rfl x⟩
                rw [ev, nI_1]
                rw [xt_sel_nay hh] at ih
                exact ih
              by_cases h5 : xt_sel f S i = 5
              · have hyes := hyes (Or.inl h5)
                rw [if_pos h5] at hyes ⊢
                exact ⟨fun _ => hyes, fun x => absurd (by decide) x⟩
              · obtain ⟨b5, bS⟩ := hso.resolve_left (fun x => h5 x.1)
                have bps : ps.testBit (xt_sel f S i) = true := by
                  have hq := hbits _ b5
                  rw [bS, hcb _ b5] at hq
                  revert hq; cases ps.testBit (xt_sel f S i) <;> simp
                obtain ⟨w3, w4⟩ := y3 _ b5 bps
                obtain ⟨_, w7, w5, w6⟩ := p4 _ b5 bps
                have d1 := xa_pop5 _ q7
                have d2 := xa_pop5 _ w7
                rw [if_neg h5] at hyes hnay ⊢
                obtain ⟨b, hbe⟩ : ∃ b, b = xt_sel f S i := ⟨_, rfl⟩
                rw [← hbe] at hyes hnay b5 bS bps w3 w4 w7 w5 w6 d2 h5 ⊢
                refine ⟨fun x => absurd x (nI_pos (by omega)), fun _ => ⟨vp_in_nI hi (by omega), fun v42 e42 => ⟨vp_in_nI b5 (by omega), fun v43 e43 => ?_⟩⟩⟩
                rw [nI_clamp (by omega), q4] at e42
                rw [nI_clamp (by omega), w4] at e43
                subst e42 e43
                refine ⟨fun x => hyes (Or.inr ?_), fun x => ⟨vp_in_nI hi (by omega), fun v45 e45 => ⟨vp_in_nI b5 (by omega), fun v46 e46 => ?_⟩⟩⟩
                · have x := (xn_lt (by omega) (by omega)).mp x
                  rw [hf]
                  simp only [xt_of, Bool.or_eq_true, Bool.and_eq_true, decide_eq_true_eq]
                  exact Or.inl x
                · have x : ¬ to b < to i := fun u => x ((xn_lt (by omega) (by omega)).mpr u)
                  rw [nI_clamp (by omega), q4] at e45
                  rw [nI_clamp (by omega), w4] at e46
                  subst e45 e46
                  refine ⟨fun u => hnay ?_, fun u => ?_⟩
                  · have u : ¬ to i = to b := fun t => u (by rw [t])
                    rw [hf]
                    simp only [xt_of, Bool.or_eq_true, Bool.and_eq_true, decide_eq_true_eq]
                    intro t
                    rcases t with t | t | t
                    · exact h5 t
                    · exact x t
                    · exact u t.1
                  · have u : to i = to b := (xn_eq (by omega) (by omega)).mp u
                    refine xt_mdepth y1 hH (fun p hp hh => (p4 p hp hh).1) hi e q7 (xt_mdepth y1 hH (fun p hp hh => (p4 p hp hh).1) b5 bps w7 ⟨fun t => hnay ?_, fun t => hyes (Or.inr ?_)⟩)
                    · have t := (xn_le (by omega) (by omega)).mp t
                      rw [hf]
                      simp only [xt_of, Bool.or_eq_true, Bool.and_eq_true, decide_eq_true_eq]
                      intro m
                      rcases m with m | m | m
                      · exact h5 m
                      · exact x m
                      · have := m.2; omega
                    · have t : ¬ _ ≤ _ := fun m => t ((xn_le (by omega) (by omega)).mpr m)
                      rw [hf]
                      simp only [xt_of, Bool.or_eq_true, Bool.and_eq_true, decide_eq_true_eq]
                      exact Or.inr ⟨u, by omega⟩
      · rw [ev, nI_1]
        refine hno ?_
        rw [hb, e, Bool.false_and, Bool.false_and]
    · intro _ _
      apply r15
      unfold bd_X8_writeOpened_15
      refine ⟨fun _ => ?_, fun z => absurd ((xn_le (a := 5) (b := 5) (by omega) (by omega)).mpr (by omega)) z⟩
      rcases xt_sel_in f S 5 (by omega) with h5 | h5
      · rw [if_pos h5.1, if_pos h5.1] at hend
        rw [if_pos h5.1]
        exact ⟨fun _ => hend, fun x => absurd (by decide) x⟩
      · rw [if_neg (by omega), if_neg (by omega)] at hend
        rw [if_neg (by omega)]
        exact ⟨fun x => absurd x (nI_pos (by omega)), fun _ => hend⟩
  have key : ∀ n D S (l : List Nat) I1 F1, D < 32 → S < 32 → xa_pop S ≤ n → (∀ p, p < 5 → S.testBit p = ((xt_O ps fr to g).testBit p && !D.testBit p)) → xt_L (I1 5) (F1 13) l → xt_fm I I1 F F1 → l.length + (xt_ord 65 f n S).length ≤ 21 → (∀ I2 F2, xt_L (I2 5) (F2 13) (l ++ xt_ord 65 f n S) → xt_fm I I2 F F2 → post I2 F2 G) → k4 (nI D) 1 I1 F1 G := by
    intro n
    induction n with
    | zero =>
      intro D S l I1 F1 hD hS hp hbits h1 h2 hlen h3
      have h3 := h3 I1 F1 (by rw [xt_ord, List.append_nil]; exact h1) h2
      apply r4
      unfold bd_X8_writeOpened_4
      refine ⟨fun z => absurd z (by decide), fun _ => hin D S I1 F1 hD hS hbits h2 ?_⟩
      rcases xt_sel_in f S 5 (by omega) with h5 | h5
      · rw [if_pos h5.1, if_pos h5.1]
        apply r152
        unfold bd_X8_writeOpened_152
        refine ⟨fun _ => ?_, fun z => absurd rfl z⟩
        apply r4
        unfold bd_X8_writeOpened_4
        exact ⟨fun _ => h3, fun z => absurd rfl z⟩
      · have := (xm_bit S hS _ h5.1 h5.2).2.2; omega
    | succ n ihn =>
      intro D S l I1 F1 hD hS hp hbits h1 h2 hlen h3
      apply r4
      unfold bd_X8_writeOpened_4
      refine ⟨fun z => absurd z (by decide), fun _ => hin D S I1 F1 hD hS hbits h2 ?_⟩
      by_cases h0 : S = 0
      · rw [h0, xt_ord0, List.append_nil] at h3
        have h3 := h3 I1 F1 h1 h2
        rcases xt_sel_in f S 5 (by omega) with h5 | h5
        · rw [if_pos h5.1, if_pos h5.1]
          apply r152
          unfold bd_X8_writeOpened_152
          refine ⟨fun _ => ?_, fun z => absurd rfl z⟩
          apply r4
          unfold bd_X8_writeOpened_4
          exact ⟨fun _ => h3, fun z => absurd rfl z⟩
        · rw [h0, Nat.zero_testBit] at h5; cases h5.2
      · obtain ⟨b5, bS⟩ := xt_sel_some (f := f) hS h0
        have c1 := xm_bit S hS _ b5 bS
        rw [xt_ord, if_neg h0] at h3 hlen
        rw [List.length_cons] at hlen
        obtain ⟨b, hbe⟩ : ∃ b, b = xt_sel f S 5 := ⟨_, rfl⟩
        rw [← hbe] at h3 hlen b5 bS c1 ⊢
        rw [if_neg (by omega), if_neg (by omega)]
        apply r152
        unfold bd_X8_writeOpened_152
        refine ⟨fun z => absurd z (by decide), fun _ v55 e55 => ?_⟩
        rw [xn_or2 _ (by omega)] at e55
        subst e55
        rw [xn_65]
        refine xt_mwrite (by omega) h1 (fun I2 F2 g1 g2 => ?_)
        refine ihn (D ||| 2 ^ b) (S - 2 ^ b) _ I2 F2 (xm_orb D hD b b5) (by omega) (by omega) (fun p hp5 => ?_) g1 (h2.tr g2) (by rw [List.length_append, List.length_singleton]; omega) (fun I3 F3 g3 g4 => h3 I3 F3 ?_ g4)
        · rw [(xm_sub S hS (2 ^ b) (xm_two b b5).2.1 c1.1).2 p hp5, hbits p hp5, xa_bit_or, (xm_two b b5).2.2 p hp5]
          cases (xt_O ps fr to g).testBit p <;> cases D.testBit p <;> cases decide (b = p) <;> rfl
        · rw [List.append_assoc, List.singleton_append] at g3
          exact g3
  have hC5 : xt_O ps fr to g < 32 := xt_set5 _
  exact key 5 0 (xt_O ps fr to g) l I F (by omega) hC5 (xa_pop5 _ hC5) (fun p hp => by rw [Nat.zero_testBit, Bool.not_false, Bool.and_true]) hL xt_fm.rf hb2 h
