/-! ===== pair, mark, total, sign: both sides ===== -/
theorem xt_sum_ext {f : Nat → Nat} {n : Nat} : ∀ m, n ≤ m → (∀ w, n ≤ w → w < m → f w = 0) → xt_sum f m = xt_sum f n
  | 0, h, _ => by rw [show n = 0 by omega]
  | m + 1, h, hz => by
    by_cases hn : n = m + 1
    · rw [hn]
    · rw [xt_sum, hz m (by omega) (by omega), Nat.add_zero, xt_sum_ext m (by omega) (fun w a b => hz w a (by omega))]
theorem xt_bc0 : ∀ k, xt_bc 0 k = 0
  | 0 => rfl
  | k + 1 => by rw [xt_bc, xt_bc0 k, Nat.zero_testBit]; rfl
theorem xs_clinks {lk : Nat → Nat} {T : Nat} {I : xw_I} {F : xw_F} {G : xw_G} {post : Int32 → Prop} (hT : T ≤ 8) (hlt : ∀ w, w < 12 → lk w < 2 ^ T) (hl : ∀ w, w < 12 → F 20 w = nI (lk w)) (h : post (nI (xt_sum (fun w => xt_bc (lk w) 12) 12))) : sm_X3_countLinks I F G post := by
  intro k hk
  refine xl_up (fun i (_ : Unit) => k (nI (xt_sum (fun w => xt_bc (lk w) 12) i)) (nI i)) 12 (fun _ _ => True) ?_ ?_ 0 () (by omega) trivial
  · intro i _ hi _ ih
    have ih := ih () trivial
    apply hk
    unfold bd_X3_countLinks_4
    refine ⟨fun z => absurd ((xn_le (a := 12) (by omega) (by omega)).mp z) (by omega), fun _ => ⟨vp_in_nI hi (by omega), fun v ev => ?_⟩⟩
    rw [nI_clamp (by omega), hl i hi] at ev
    subst ev
    refine xt_count (xg_256 (hlt i hi) hT) (fun v8 e8 v9 e9 => ?_)
    rw [nI_add] at e8
    rw [nI_1] at e9
    rw [e8, e9]; exact ih
  · intro _ _
    apply hk
    unfold bd_X3_countLinks_4
    exact ⟨fun _ => h, fun z => absurd ((xn_le (a := 12) (b := 12) (by omega) (by omega)).mpr (by omega)) z⟩
theorem xs_mbits {s : Nat} {post : Int32 → Prop} (hs : s < 2 ^ 31) (h : post (nI (xt_bc s 12))) : sm_X8_bits (nI s) post := by
  intro k hk
  refine xl_up (fun i (_ : Unit) => k (nI (xt_bc s i)) (nI i)) 12 (fun _ _ => True) ?_ ?_ 0 () (by omega) trivial
  · intro i _ hi _ ih
    have ih := ih () trivial
    apply hk
    unfold bd_X8_bits_4
    rw [xb_bit hs (by omega), nI_add]
    refine ⟨fun z => absurd ((xn_le (a := 12) (by omega) (by omega)).mp z) (by omega), fun _ v5 e5 v6 e6 => ?_⟩
    rw [nI_1] at e6
    rw [e5, e6]; exact ih
  · intro _ _
    apply hk
    unfold bd_X8_bits_4
    exact ⟨fun _ => h, fun z => absurd ((xn_le (a := 12) (b := 12) (by omega) (by omega)).mpr (by omega)) z⟩
def xt_hs (ps : Nat) (hd : Nat → Nat) (p : Nat) : Nat := if ps.testBit p = true then xt_bc (hd p) 12 else 0
theorem xs_cholds {ps : Nat} {hd : Nat → Nat} {I : xw_I} {F : xw_F} {G : xw_G} {post : Int32 → Prop} (hps : ps < 32) (hI : I 8 = nI ps) (hF : ∀ p, p < 5 → ps.testBit p = true → F 15 p = nI (hd p) ∧ hd p < 32) (h : post (nI (xt_sum (xt_hs ps hd) 5))) : sm_X4_countHolds I F G post := by
  intro k hk
  refine xl_up (fun i (_ : Unit) => k (nI (xt_sum (xt_hs ps hd) i)) (nI i)) 5 (fun _ _ => True) ?_ ?_ 0 () (by omega) trivial
  · intro i _ hi _ ih
    have ih := ih () trivial
    apply hk
    unfold bd_X4_countHolds_4
    rw [hI]
    refine ⟨fun z => absurd ((xn_le (a := 5) (by omega) (by omega)).mp z) (by omega), fun _ => xs_has (by omega) (by omega) (fun e => ⟨fun _ v ev => ?_, fun z => absurd rfl z⟩) (fun e => ⟨fun z => absurd z (by decide), fun _ => ⟨vp_in_nI hi (by omega), fun v ev => ?_⟩⟩)⟩
    · rw [ev, nI_1]
      rw [xt_sum, xt_hs, if_neg (by rw [e]; decide)] at ih
      exact ih
    · obtain ⟨q1, q2⟩ := hF i hi e
      rw [nI_clamp (by omega), q1] at ev
      subst ev
      refine xt_count (by omega) (fun v13 e13 v14 e14 => ?_)
      rw [nI_add] at e13
      rw [nI_1] at e14
      rw [xt_sum, xt_hs, if_pos e] at ih
      rw [e13, e14]; exact ih
  · intro _ _
    apply hk
    unfold bd_X4_countHolds_4
    exact ⟨fun _ => h, fun z => absurd ((xn_le (a := 5) (b := 5) (by omega) (by omega)).mpr (by omega)) z⟩
/-- p begins first, and q ends last -/
def xt_ov (a b : Nat → Nat) (p q : Nat) : Bool := decide (a p < a q) && (decide (a q < b p) && decide (b p < b q))
def xt_x (a b : Nat → Nat) (p q : Nat) : Bool := xt_ov a b p q || xt_ov a b q p
theorem xs_ahead {a b : Nat → Nat} {p q : Nat} {I : xw_I} {F : xw_F} {G : xw_G} {post : Int32 → Prop} (hp : p < 5) (hq : q < 5) (h1 : F 22 p = nI (a p) ∧ F 23 p = nI (b p) ∧ a p ≤ 8 ∧ b p ≤ 8) (h2 : F 22 q = nI (a q) ∧ F 23 q = nI (b q) ∧ a q ≤ 8 ∧ b q ≤ 8) (ht : xt_ov a b p q = true → post 1) (hf : xt_ov a b p q = false → post 0) : sm_X5_overlapsFromAhead (nI p) (nI q) I F G post := by
  obtain ⟨p1, p2, p3, p4⟩ := h1
  obtain ⟨q1, q2, q3, q4⟩ := h2
  unfold xt_ov at ht hf
  refine ⟨vp_in_nI hp (by omega), fun v10 e10 => ⟨vp_in_nI hq (by omega), fun v11 e11 => ?_⟩⟩
  rw [nI_clamp (by omega), p1] at e10
  rw [nI_clamp (by omega), q1] at e11
  subst e10 e11
  refine ⟨fun z => hf ?_, fun z => ⟨vp_in_nI hq (by omega), fun v13 e13 => ⟨vp_in_nI hp (by omega), fun v14 e14 => ?_⟩⟩⟩
  · have z := (xn_le (by omega) (by omega)).mp z
    rw [decide_eq_false (show ¬ a p < a q by omega), Bool.false_and]
  have z : a p < a q := Nat.not_le.mp (fun x => z ((xn_le (by omega) (by omega)).mpr x))
  rw [decide_eq_true z, Bool.true_and] at ht hf
  rw [nI_clamp (by omega), q1] at e13
  rw [nI_clamp (by omega), p2] at e14
  subst e13 e14
  refine ⟨fun y => hf ?_, fun y => ⟨vp_in_nI hp (by omega), fun v16 e16 => ⟨vp_in_nI hq (by omega), fun v17 e17 => ?_⟩⟩⟩
  · have y := (xn_le (by omega) (by omega)).mp y
    rw [decide_eq_false (show ¬ a q < b p by omega), Bool.false_and]
  have y : a q < b p := Nat.not_le.mp (fun x => y ((xn_le (by omega) (by omega)).mpr x))
  rw [decide_eq_true y, Bool.true_and] at ht hf
  rw [nI_clamp (by omega), p2] at e16
  rw [nI_clamp (by omega), q2] at e17
  subst e16 e17
  refine ⟨fun x => hf ?_, fun x => ht ?_⟩
  · have x := (xn_le (by omega) (by omega)).mp x
    exact decide_eq_false (by omega)
  · have x : b p < b q := Nat.not_le.mp (fun w => x ((xn_le (by omega) (by omega)).mpr w))
    exact decide_eq_true x
theorem xs_cross {a b : Nat → Nat} {p q : Nat} {I : xw_I} {F : xw_F} {G : xw_G} {post : Int32 → Prop} (hp : p < 5) (hq : q < 5) (h1 : F 22 p = nI (a p) ∧ F 23 p = nI (b p) ∧ a p ≤ 8 ∧ b p ≤ 8) (h2 : F 22 q = nI (a q) ∧ F 23 q = nI (b q) ∧ a q ≤ 8 ∧ b q ≤ 8) (ht : xt_x a b p q = true → post 1) (hf : xt_x a b p q = false → post 0) : sm_X5_cross (nI p) (nI q) I F G post := by
  unfold sm_X5_cross
  unfold xt_x at ht hf
  refine xs_ahead hp hq h1 h2 (fun e => ⟨fun _ => ht (by rw [e, Bool.true_or]), fun z => absurd z (by decide)⟩) (fun e => ⟨fun z => absurd rfl z, fun _ => ?_⟩)
  rw [e, Bool.false_or] at ht hf
  exact xs_ahead hq hp h2 h1 (fun e2 => ⟨fun z => absurd z (by decide), fun _ => ht e2⟩) (fun e2 => ⟨fun _ => hf e2, fun z => absurd rfl z⟩)
def xt_y (ps : Nat) (a b : Nat → Nat) (p q : Nat) : Nat := (ps.testBit p && (ps.testBit q && xt_x a b p q)).toNat
def xt_up (ps : Nat) (a b : Nat → Nat) (p q : Nat) : Nat := if p < q then xt_y ps a b p q else 0
theorem xs_ccross {ps : Nat} {a b : Nat → Nat} {I : xw_I} {F : xw_F} {G : xw_G} {post : Int32 → Prop} (hps : ps < 32) (hF : ∀ p, p < 5 → ps.testBit p = true → F 22 p = nI (a p) ∧ F 23 p = nI (b p) ∧ a p ≤ 8 ∧ b p ≤ 8) (h : post (nI (xt_sum (fun p => xt_sum (xt_up ps a b p) 5) 5))) : sm_X5_countCrossings (nI ps) I F G post := by
  intro k4 k14 r4 r14
  refine xl_up (fun i (_ : Unit) => k4 (nI (xt_sum (fun p => xt_sum (xt_up ps a b p) 5) i)) (nI i)) 5 (fun _ _ => True) ?_ ?_ 0 () (by omega) trivial
  · intro p _ hp _ ih
    have ih := ih () trivial
    obtain ⟨n, hn⟩ : ∃ n, n = xt_sum (fun p => xt_sum (xt_up ps a b p) 5) p := ⟨_, rfl⟩
    rw [xt_sum, ← hn] at ih
    rw [← hn]
    apply r4
    unfold bd_X5_countCrossings_4
    refine ⟨fun z => absurd ((xn_le (a := 5) (by omega) (by omega)).mp z) (by omega), fun _ v14 e14 => ?_⟩
    rw [nI_1] at e14
    rw [e14]
    have hz : xt_sum (xt_up ps a b p) (p + 1) = 0 := by
      rw [xt_sum_ext (n := 0) (p + 1) (by omega) (fun w _ hw => by unfold xt_up; rw [if_neg (by omega)])]; rfl
    have hin : ∀ d q, q + d = 5 → p < q → k14 (nI (n + xt_sum (xt_up ps a b p) q)) (nI p) (nI q) := by
      intro d
      induction d with
      | zero =>
        intro q hq hpq
        have hq : q = 5 := by omega
        subst hq
        apply r14
        unfold bd_X5_countCrossings_14
        refine ⟨fun _ v ev => ?_, fun z => absurd ((xn_le (a := 5) (b := 5) (by omega) (by omega)).mpr (by omega)) z⟩
        rw [ev, nI_1]; exact ih
      | succ d ihd =>
        intro q hq hpq
        have ihq := ihd (q + 1) (by omega) (by omega)
        rw [xt_sum, xt_up, if_pos hpq] at ihq
        have hno : (ps.testBit p && (ps.testBit q && xt_x a b p q)) = false → k14 (nI (n + xt_sum (xt_up ps a b p) q)) (nI p) (nI (q + 1)) := by
          intro e
          rw [xt_y, e] at ihq
          exact ihq
        apply r14
        unfold bd_X5_countCrossings_14
        refine ⟨fun z => absurd ((xn_le (a := 5) (by omega) (by omega)).mp z) (by omega), fun _ => xs_has (by omega) (by omega) (fun e => ⟨fun _ v ev => ?_, fun z => absurd rfl z⟩) (fun e => ⟨fun z => absurd z (by decide), fun _ => xs_has (by omega) (by omega) (fun e2 => ⟨fun _ v ev => ?_, fun z => absurd rfl z⟩) (fun e2 => ⟨fun z => absurd z (by decide), fun _ => xs_cross hp (by omega) (hF p hp e) (hF q (by omega) e2) (fun e3 => ⟨fun z => absurd z (by decide), fun _ v26 e26 v27 e27 => ?_⟩) (fun e3 => ⟨fun _ v ev => ?_, fun z => absurd rfl z⟩)⟩)⟩)⟩
        · rw [ev, nI_1]; exact hno (by rw [e, Bool.false_and])
        · rw [ev, nI_1]; exact hno (by rw [e2, Bool.false_and, Bool.and_false])
        · rw [nI_1] at e26 e27
          rw [e26, e27]
          rw [xt_y, e, e2, e3] at ihq
          exact ihq
        · rw [ev, nI_1]; exact hno (by rw [e3, Bool.and_false, Bool.and_false])
    have := hin (4 - p) (p + 1) (by omega) (by omega)
    rw [hz] at this
    exact this
  · intro _ _
    apply r4
    unfold bd_X5_countCrossings_4
    exact ⟨fun _ => h, fun z => absurd ((xn_le (a := 5) (b := 5) (by omega) (by omega)).mpr (by omega)) z⟩
theorem xt_ysym (ps : Nat) (a b : Nat → Nat) (p q : Nat) : xt_y ps a b p q = xt_y ps a b q p := by
  unfold xt_y xt_x
  rw [Bool.or_comm]
  cases ps.testBit p <;> cases ps.testBit q <;> rfl
theorem xt_ysum (ps : Nat) (a b : Nat → Nat) : xt_sum (fun p => xt_sum (xt_up ps a b p) 5) 5 = xt_sum (fun p => xt_sum (xt_y ps a b p) p) 5 := by
  have s1 := xt_ysym ps a b 1 0
  have s2 := xt_ysym ps a b 2 0
  have s3 := xt_ysym ps a b 2 1
  have s4 := xt_ysym ps a b 3 0
  have s5 := xt_ysym ps a b 3 1
  have s6 := xt_ysym ps a b 3 2
  have s7 := xt_ysym ps a b 4 0
  have s8 := xt_ysym ps a b 4 1
  have s9 := xt_ysym ps a b 4 2
  have s10 := xt_ysym ps a b 4 3
  simp only [xt_sum, xt_up, Nat.lt_irrefl, if_false]
  simp
  omega
theorem xs_mcross {lk : Nat → Nat} {T p q : Nat} {ps : Nat} {op cl hd : Nat → Nat} {I : xw_I} {F : xw_F} {G : xw_G} {post : Int32 → Prop} (hI : I 2 = nI T) (hl : ∀ w, w < 12 → F 6 w = nI (lk w)) (hT : T ≤ 8) (hlt : ∀ w, w < 12 → lk w < 2 ^ T) (hE : xe_MP ps op cl hd F) (hp : p < 5) (hq : q < 5) (hpp : ps.testBit p = true) (hqq : ps.testBit q = true) (ht : xt_x (fun p => xg_wf lk (op p) (cl p)) (fun p => xg_wt lk (op p) (cl p)) p q = true → post 1) (hf : xt_x (fun p => xg_wf lk (op p) (cl p)) (fun p => xg_wt lk (op p) (cl p)) p q = false → post 0) : sm_X8_isCrossing (nI p) (nI q) I F G post := by
  intro k40 k58 r40 r58
  obtain ⟨a1, a2, a3, a4, a5⟩ := hE.1 p hp hpp
  obtain ⟨b1, b2, b3, b4, b5⟩ := hE.1 q hq hqq
  unfold bd_X8_isCrossing_0
  refine xs_mwf hI hl hT hlt hp a1 a2 a4 a5 (xs_mwt hI hl hT hlt hp a1 a2 a4 a5 (xs_mwf hI hl hT hlt hq b1 b2 b4 b5 (xs_mwt hI hl hT hlt hq b1 b2 b4 b5 ?_)))
  obtain ⟨c1, c2⟩ := xg_w8 lk (op p) (cl p)
  obtain ⟨c3, c4⟩ := xg_w8 lk (op q) (cl q)
  have hT1 : ((xg_wf lk (op p) (cl p) < xg_wf lk (op q) (cl q) ∧ xg_wf lk (op q) (cl q) < xg_wt lk (op p) (cl p) ∧ xg_wt lk (op p) (cl p) < xg_wt lk (op q) (cl q)) ∨ (xg_wf lk (op q) (cl q) < xg_wf lk (op p) (cl p) ∧ xg_wf lk (op p) (cl p) < xg_wt lk (op q) (cl q) ∧ xg_wt lk (op q) (cl q) < xg_wt lk (op p) (cl p))) → post 1 := fun x => ht (by
    simp only [xt_x, xt_ov, Bool.or_eq_true, Bool.and_eq_true, decide_eq_true_eq]; exact x)
  have hF1 : ¬ ((xg_wf lk (op p) (cl p) < xg_wf lk (op q) (cl q) ∧ xg_wf lk (op q) (cl q) < xg_wt lk (op p) (cl p) ∧ xg_wt lk (op p) (cl p) < xg_wt lk (op q) (cl q)) ∨ (xg_wf lk (op q) (cl q) < xg_wf lk (op p) (cl p) ∧ xg_wf lk (op p) (cl p) < xg_wt lk (op q) (cl q) ∧ xg_wt lk (op q) (cl q) < xg_wt lk (op p) (cl p))) → post 0 := fun x => hf (by
    rw [Bool.eq_false_iff]; intro y
    simp only [xt_x, xt_ov, Bool.or_eq_true, Bool.and_eq_true, decide_eq_true_eq] at y; exact x y)
  clear ht hf
  obtain ⟨a, ha⟩ : ∃ a, a = xg_wf lk (op p) (cl p) := ⟨_, rfl⟩
  obtain ⟨b, hb⟩ : ∃ b, b = xg_wt lk (op p) (cl p) := ⟨_, rfl⟩
  obtain ⟨c, hc⟩ : ∃ c, c = xg_wf lk (op q) (cl q) := ⟨_, rfl⟩
  obtain ⟨d, hd2⟩ : ∃ d, d = xg_wt lk (op q) (cl q) := ⟨_, rfl⟩
  rw [← ha, ← hb, ← hc, ← hd2] at hT1 hF1 ⊢
  rw [← ha] at c1
  rw [← hb] at c2
  rw [← hc] at c3
  rw [← hd2] at c4
  have hyes : ((c ≤ a ∧ b ≤ d) ∨ (a ≤ c ∧ d ≤ b)) → k58 (nI a) (nI b) (nI c) (nI d) 1 := by
    intro x
    apply r58
    unfold bd_X8_isCrossing_58
    exact ⟨fun _ => hF1 (by omega), fun y => absurd y (by decide)⟩
  have hnay : ¬ ((c ≤ a ∧ b ≤ d) ∨ (a ≤ c ∧ d ≤ b)) → k58 (nI a) (nI b) (nI c) (nI d) 0 := by
    intro x
    apply r58
    unfold bd_X8_isCrossing_58
    refine ⟨fun y => absurd rfl y, fun _ => ⟨fun y => hF1 ?_, fun y => ⟨fun w => hF1 ?_, fun w => hT1 ?_⟩⟩⟩
    · have y := (xn_le (by omega) (by omega)).mp y; omega
    · have w := (xn_le (by omega) (by omega)).mp w; omega
    · have y : ¬ b ≤ c := fun u => y ((xn_le (by omega) (by omega)).mpr u)
      have w : ¬ d ≤ a := fun u => w ((xn_le (by omega) (by omega)).mpr u)
      omega
  have h40 : ¬ (c ≤ a ∧ b ≤ d) → k40 (nI a) (nI b) (nI c) (nI d) := by
    intro x
    apply r40
    unfold bd_X8_isCrossing_40
    refine ⟨fun y => hnay ?_, fun y => ⟨fun w => hnay ?_, fun w => hyes ?_⟩⟩
    · have y := (xn_lt (by omega) (by omega)).mp y; omega
    · have w := (xn_lt (by omega) (by omega)).mp w; omega
    · have y : ¬ c < a := fun u => y ((xn_lt (by omega) (by omega)).mpr u)
      have w : ¬ b < d := fun u => w ((xn_lt (by omega) (by omega)).mpr u)
      omega
  refine ⟨fun y => h40 ?_, fun y => ⟨fun w => hyes ?_, fun w => h40 ?_⟩⟩
  · have y := (xn_lt (by omega) (by omega)).mp y; omega
  · have y : ¬ a < c := fun u => y ((xn_lt (by omega) (by omega)).mpr u)
    have w := (xn_le (by omega) (by omega)).mp w
    omega
  · have w : ¬ b ≤ d := fun u => w ((xn_le (by omega) (by omega)).mpr u)
    omega
theorem xg_ms_bit (lk : Nat → Nat) (ps : Nat) (op cl : Nat → Nat) (p : Nat) : ∀ k, (xg_ms lk ps op cl k).testBit p = (decide (p < k) && (ps.testBit p && decide (xg_un lk (op p) (cl p) = 0)))
  | 0 => by rw [xg_ms, Nat.zero_testBit]; simp
  | k + 1 => by
    rw [xg_ms]
    by_cases h : ps.testBit k = true ∧ xg_un lk (op k) (cl k) = 0
    · rw [if_pos h, xa_bit_or, xg_ms_bit lk ps op cl p k]
      by_cases hk : k = p
      · subst hk; simp [h.1, h.2]
      · have : decide (p < k + 1) = decide (p < k) := decide_eq_decide.mpr (by omega)
        rw [this, decide_eq_false hk, Bool.or_false]
    · rw [if_neg h, xg_ms_bit lk ps op cl p k]
      by_cases hk : k = p
      · subst hk
        have : (ps.testBit k && decide (xg_un lk (op k) (cl k) = 0)) = false := by
          rw [Bool.eq_false_iff]; intro y
          simp only [Bool.and_eq_true, decide_eq_true_eq] at y
          exact h y
        rw [this, Bool.and_false, Bool.and_false]
      · have : decide (p < k + 1) = decide (p < k) := decide_eq_decide.mpr (by omega)
        rw [this]
theorem xg_ms_lt (lk : Nat → Nat) (ps : Nat) (op cl : Nat → Nat) : ∀ k, k ≤ 5 → xg_ms lk ps op cl k < 32
  | 0, _ => by show 0 < 32; decide
  | k + 1, hk => by
    rw [xg_ms]
    have h1 := xg_ms_lt lk ps op cl k (by omega)
    split
    · exact xm_orb _ h1 k (by omega)
    · exact h1
theorem xm_ext : ∀ a, a < 32 → ∀ b, b < 32 → (∀ q, q < 5 → a.testBit q = b.testBit q) → a = b := by decide +kernel
theorem xa_om_mb {mb mc : Nat} {mr : Nat → Nat} (hmb : mb < 8) (h1 : ∀ i, i < mc → mr i < 3 ∧ mb.testBit (mr i) = true) (h2 : ∀ m, m < 3 → mb.testBit m = true → ∃ i, i < mc ∧ mr i = m) : xa_om mr mc = mb := by
  have hlt : xa_om mr mc < 32 := xa_om_lt mr mc (fun i hi => by have := (h1 i hi).1; omega)
  have hb34 : ∀ s, s < 8 → s.testBit 3 = false ∧ s.testBit 4 = false := by decide
  refine xm_ext _ hlt _ (by omega) (fun q hq => ?_)
  have hio := xa_om_bit mr q mc
  cases hz : mb.testBit q
  · rw [Bool.eq_false_iff]
    intro y
    obtain ⟨i, hi, e⟩ := hio.mp y
    have := (h1 i hi).2
    rw [e, hz] at this
    cases this
  · have hq3 : q < 3 := by
      apply Classical.byContradiction
      intro hn
      obtain ⟨z3, z4⟩ := hb34 mb hmb
      obtain rfl | rfl : q = 3 ∨ q = 4 := by omega
      · rw [z3] at hz; cases hz
      · rw [z4] at hz; cases hz
    exact hio.mpr (h2 q hq3 hz)
