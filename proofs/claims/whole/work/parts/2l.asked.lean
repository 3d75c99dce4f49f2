/-! ===== pair, mark, total, sign: both sides ===== -/
theorem xt_sum_ext {f : Nat → Nat} {n : Nat} : ∀ m, n ≤ m → (∀ w, n ≤ w → w < m → f w = 0) → xt_sum f m = xt_sum f n
  | 0, h, _ => by rw [show n = 0 by omega]
  | m + 1, h, hz => by
    by_cases hn : n = m + 1
    · rw [hn]
    · rw [xt_sum, hz m (by omega) (by omega), Nat.add_zero, xt_sum_ext m (by omega) (fun w a b => hz w a (by omega))]
theorem xt_bc0 : ∀ k, xt_bc 0 k = 0
  | 0 => rfl
  | k + 1 => by rw [xt_bc, xt_bc0 k, Nat.zero_testBit]; rfl
theorem xs_clinks {lk : Nat → Nat} {T : Nat} {I : xw_I} {F : xw_F} {G : xw_G} {post : Int32 → Prop} (hT : T ≤ 8) (hlt : ∀ w, w < 12 → lk w < 2 ^ T) (hl : ∀ w, w < 12 → F 20 w = nI (lk w)) (h : post (nI (xt_sum (fun w => xt_bc (lk w) 12) 12))) : sm_X3_countLinks I F G post := by
  intro k hk
  refine xl_up (fun i (_ : Unit) => k (nI (xt_sum (fun w => xt_bc (lk w) 12) i)) (nI i)) 12 (fun _ _ => True) ?_ ?_ 0 () (by omega) trivial
  · intro i _ hi _ ih
    have ih := ih () trivial
    apply hk
    unfold bd_X3_countLinks_4
    refine ⟨fun z => absurd ((xn_le (a := 12) (by omega) (by omega)).mp z) (by omega), fun _ => ⟨vp_in_nI hi (by omega), fun v ev => ?_⟩⟩
    rw [nI_clamp (by omega), hl i hi] at ev
    subst ev
    refine xt_count (xg_256 (hlt i hi) hT) (fun v8 e8 v9 e9 => ?_)
    rw [nI_add] at e8
    rw [nI_1] at e9
    rw [e8, e9]; exact ih
  · intro _ _
    apply hk
    unfold bd_X3_countLinks_4
    exact ⟨fun _ => h, fun z => absurd ((xn_le (a := 12) (b := 12) (by omega) (by omega)).mpr (by omega)) z⟩
theorem xs_mbits {s : Nat} {post : Int32 → Prop} (hs : s < 2 ^ 31) (h : post (nI (xt_bc s 12))) : sm_X8_bits (nI s) post := by
  intro k hk
  refine xl_up (fun i (_ : Unit) => k (nI (xt_bc s i)) (nI i)) 12 (fun _ _ => True) ?_ ?_ 0 () (by omega) trivial
  · intro i _ hi _ ih
    have ih := ih () trivial
    apply hk
    unfold bd_X8_bits_4
    rw [xb_bit hs (by omega), nI_add]
    refine ⟨fun z => absurd ((xn_le (a := 12) (by omega) (by omega)).mp z) (by omega), fun _ v5 e5 v6 e6 => ?_⟩
    rw [nI_1] at e6
    rw [e5, e6]; exact ih
  · intro _ _
    apply hk
    unfold bd_X8_bits_4
    exact ⟨fun _ => h, fun z => absurd ((xn_le (a := 12) (b := 12) (by omega) (by omega)).mpr (by omega)) z⟩
def xt_hs (ps : Nat) (hd : Nat → Nat) (p : Nat) : Nat := if ps.testBit p = true then xt_bc (hd p) 12 else 0
theorem xs_cholds {ps : Nat} {hd : Nat → Nat} {I : xw_I} {F : xw_F} {G : xw_G} {post : Int32 → Prop} (hps : ps < 32) (hI : I 8 = nI ps) (hF : ∀ p, p < 5 → ps.testBit p = true → F 15 p = nI (hd p) ∧ hd p < 32) (h : post (nI (xt_sum (xt_hs ps hd) 5))) : sm_X4_countHolds I F G post := by
  intro k hk
  refine xl_up (fun i (_ : Unit) => k (nI (xt_sum (xt_hs ps hd) i)) (nI i)) 5 (fun _ _ => True) ?_ ?_ 0 () (by omega) trivial
  · intro i _ hi _ ih
    have ih := ih () trivial
    apply hk
    unfold bd_X4_countHolds_4
    rw [hI]
    refine ⟨fun z => absurd ((xn_le (a := 5) (by omega) (by omega)).mp z) (by omega), fun _ => xs_has (by omega) (by omega) (fun e => ⟨fun _ v ev => ?_, fun z => absurd rfl z⟩) (fun e => ⟨fun z => absurd z (by decide), fun _ => ⟨vp_in_nI hi (by omega), fun v ev => ?_⟩⟩)⟩
    · rw [ev, nI_1]
      rw [xt_sum, xt_hs, if_neg (by rw [e]; decide)] at ih
      exact ih
    · obtain ⟨q1, q2⟩ := hF i hi e
      rw [nI_clamp (by omega), q1] at ev
      subst ev
      refine xt_count (by omega) (fun v13 e13 v14 e14 => ?_)
      rw [nI_add] at e13
      rw [nI_1] at e14
      rw [xt_sum, xt_hs, if_pos e] at ih
      rw [e13, e14]; exact ih
  · intro _ _
    apply hk
    unfold bd_X4_countHolds_4
    exact ⟨fun _ => h, fun z => absurd ((xn_le (a := 5) (b := 5) (by omega) (by omega)).mpr (by omega)) z⟩
/-- p begins first, and q ends last -/
def xt_ov (a b : Nat → Nat) (p q : Nat) : Bool := decide (a p < a q) && (decide (a q < b p) && decide (b p < b q))
def xt_x (a b : Nat → Nat) (p q : Nat) : Bool := xt_ov a b p q || xt_ov a b q p
theorem xs_ahead {a b : Nat → Nat} {p q : Nat} {I : xw_I} {F : xw_F} {G : xw_G} {post : Int32 → Prop} (hp : p < 5) (hq : q < 5) (h1 : F 22 p = nI (a p) ∧ F 23 p = nI (b p) ∧ a p ≤ 8 ∧ b p ≤ 8) (h2 : F 22 q = nI (a q) ∧ F 23 q = nI (b q) ∧ a q ≤ 8 ∧ b q ≤ 8) (ht : xt_ov a b p q = true → post 1) (hf : xt_ov a b p q = false → post 0) : sm_X5_overlapsFromAhead (nI p) (nI q) I F G post := by
  obtain ⟨p1, p2, p3, p4⟩ := h1
  obtain ⟨q1, q2, q3, q4⟩ := h2
  unfold xt_ov at ht hf
  refine ⟨vp_in_nI hp (by omega), fun v10 e10 => ⟨vp_in_nI hq (by omega), fun v11 e11 => ?_⟩⟩
  rw [nI_clamp (by omega), p1] at e10
  rw [nI_clamp (by omega), q1] at e11
  subst e10 e11
  refine ⟨fun z => hf ?_, fun z => ⟨vp_in_nI hq (by omega), fun v13 e13 => ⟨vp_in_nI hp (by omega), fun v14 e14 => ?_⟩⟩⟩
  · have z := (xn_le (by omega) (by omega)).mp z
    rw [decide_eq_false (show ¬ a p < a q by omega), Bool.false_and]
  have z : a p < a q := Nat.not_le.mp (fun x => z ((xn_le (by omega) (by omega)).mpr x))
  rw [decide_eq_true z, Bool.true_and] at ht hf
  rw [nI_clamp (by omega), q1] at e13
  rw [nI_clamp (by omega), p2] at e14
  subst e13 e14
  refine ⟨fun y => hf ?_, fun y => ⟨vp_in_nI hp (by omega), fun v16 e16 => ⟨vp_in_nI hq (by omega), fun v17 e17 => ?_⟩⟩⟩
  · have y := (xn_le (by omega) (by omega)).mp y
    rw [decide_eq_false (show ¬ a q < b p by omega), Bool.false_and]
  have y : a q < b p := Nat.not_le.mp (fun x => y ((xn_le (by omega) (by omega)).mpr x))
  rw [decide_eq_true y, Bool.true_and] at ht hf
  rw [nI_clamp (by omega), p2] at e16
  rw [nI_clamp (by omega), q2] at e17
  subst e16 e17
  refine ⟨fun x => hf ?_, fun x => ht ?_⟩
  · have x := (xn_le (by omega) (by omega)).mp x
    exact decide_eq_false (by omega)
  · have x : b p < b q := Nat.not_le.mp (fun w => x ((xn_le (by omega) (by omega)).mpr w))
    exact decide_eq_true x
theorem xs_cross {a b : Nat → Nat} {p q : Nat} {I : xw_I} {F : xw_F} {G : xw_G} {post : Int32 → Prop} (hp : p < 5) (hq : q < 5) (h1 : F 22 p = nI (a p) ∧ F 23 p = nI (b p) ∧ a p ≤ 8 ∧ b p ≤ 8) (h2 : F 22 q = nI (a q) ∧ F 23 q = nI (b q) ∧ a q ≤ 8 ∧ b q ≤ 8) (ht : xt_x a b p q = true → post 1) (hf : xt_x a b p q = false → post 0) : sm_X5_cross (nI p) (nI q) I F G post := by
  unfold sm_X5_cross
  unfold xt_x at ht hf
  refine xs_ahead hp hq h1 h2 (fun e => ⟨fun _ => ht (by rw [e, Bool.true_or]), fun z => absurd z (by decide)⟩) (fun e => ⟨fun z => absurd rfl z, fun _ => ?_⟩)
  rw [e, Bool.false_or] at ht hf
  exact xs_ahead hq hp h2 h1 (fun e2 => ⟨fun z => absurd z (by decide), fun _ => ht e2⟩) (fun e2 => ⟨fun _ => hf e2, fun z => absurd rfl z⟩)
def xt_y (ps : Nat) (a b : Nat → Nat) (p q : Nat) : Nat := (ps.testBit p && (ps.testBit q && xt_x a b p q)).toNat
def xt_up (ps : Nat) (a b : Nat → Nat) (p q : Nat) : Nat := if p < q then xt_y ps a b p q else 0
theorem xs_ccross {ps : Nat} {a b : Nat → Nat} {I : xw_I} {F : xw_F} {G : xw_G} {post : Int32 → Prop} (hps : ps < 32) (hF : ∀ p, p < 5 → ps.testBit p = true → F 22 p = nI (a p) ∧ F 23 p = nI (b p) ∧ a p ≤ 8 ∧ b p ≤ 8) (h : post (nI (xt_sum (fun p => xt_sum (xt_up ps a b p) 5) 5))) : sm_X5_countCrossings (nI ps) I F G post := by
  intro k4 k14 r4 r14
  refine xl_up (fun i (_ : Unit) => k4 (nI (xt_sum (fun p => xt_sum (xt_up ps a b p) 5) i)) (nI i)) 5 (fun _ _ => True) ?_ ?_ 0 () (by omega) trivial
  · intro p _ hp _ ih
    have ih := ih () trivial
    obtain ⟨n, hn⟩ : ∃ n, n = xt_sum (fun p => xt_sum (xt_up ps a b p) 5) p := ⟨_, rfl⟩
    rw [xt_sum, ← hn] at ih
    rw [← hn]
    apply r4
    unfold bd_X5_countCrossings_4
    refine ⟨fun z => absurd ((xn_le (a := 5) (by omega) (by omega)).mp z) (by omega), fun _ v14 e14 => ?_⟩
    rw [nI_1] at e14
    rw [e14]
    have hz : xt_sum (xt_up ps a b p) (p + 1) = 0 := by
      rw [xt_sum_ext (n := 0) (p + 1) (by omega) (fun w _ hw => by unfold xt_up; rw [if_neg (by omega)])]; rfl
    have hin : ∀ d q, q + d = 5 → p < q → k14 (nI (n + xt_sum (xt_up ps a b p) q)) (nI p) (nI q) := by
      intro d
      induction d with
      | zero =>
        intro q hq hpq
        have hq : q = 5 := by omega
        subst hq
        apply r14
        unfold bd_X5_countCrossings_14
        refine ⟨fun _ v ev => ?_, fun z => absurd ((xn_le (a := 5) (b := 5) (by omega) (by omega)).mpr (by omega)) z⟩
        rw [ev, nI_1]; exact ih
      | succ d ihd =>
        intro q hq hpq
        have ihq := ihd (q + 1) (by omega) (by omega)
        rw [xt_sum, xt_up, if_pos hpq] at ihq
        have hno : (ps.testBit p && (ps.testBit q && xt_x a b p q)) = false → k14 (nI (n + xt_sum (xt_up ps a b p) q)) (nI p) (nI (q + 1)) := by
          intro e
          rw [xt_y, e] at ihq
          exact ihq
        apply r14
        unfold bd_X5_countCrossings_14
        refine ⟨fun z => absurd ((xn_le (a := 5) (by omega) (by omega)).mp z) (by omega), fun _ => xs_has (by omega) (by omega) (fun e => ⟨fun _ v ev => ?_, fun z => absurd rfl z⟩) (fun e => ⟨fun z => absurd z (by decide), fun _ => xs_has (by omega) (by omega) (fun e2 => ⟨fun _ v ev => ?_, fun z => absurd rfl z⟩) (fun e2 => ⟨fun z => absurd z (by decide), fun _ => xs_cross hp (by omega) (hF p hp e) (hF q (by omega) e2) (fun e3 => ⟨fun z => absurd z (by decide), fun _ v26 e26 v27 e27 => ?_⟩) (fun e3 => ⟨fun _ v ev => ?_, fun z => absurd rfl z⟩)⟩)⟩)⟩
        · rw [ev, nI_1]; exact hno (by rw [e, Bool.false_and])
        · rw [ev, nI_1]; exact hno (by rw [e2, Bool.false_and, Bool.and_false])
        · rw [nI_1] at e26 e27
          rw [e26, e27]
          rw [xt_y, e, e2, e3] at ihq
          exact ihq
        · rw [ev, nI_1]; exact hno (by rw [e3, Bool.and_false, Bool.and_false])
    have := hin (4 - p) (p + 1) (by omega) (by omega)
    rw [hz] at this
    exact this
  · intro _ _
    apply r4
    unfold bd_X5_countCrossings_4
    exact ⟨fun _ => h, fun z => absurd ((xn_le (a := 5) (b := 5) (by omega) (by omega)).mpr (by omega)) z⟩
theorem xt_ysym (ps : Nat) (a b : Nat → Nat) (p q : Nat) : xt_y ps a b p q = xt_y ps a b q p := by
  unfold xt_y xt_x
  rw [Bool.or_comm]
  cases ps.testBit p <;> cases ps.testBit q <;> rfl
theorem xt_ysum (ps : Nat) (a b : Nat → Nat) : xt_sum (fun p => xt_sum (xt_up ps a b p) 5) 5 = xt_sum (fun p => xt_sum (xt_y ps a b p) p) 5 := by
  have s1 := xt_ysym ps a b 1 0
  have s2 := xt_ysym ps a b 2 0
  have s3 := xt_ysym ps a b 2 1
  have s4 := xt_ysym ps a b 3 0
  have s5 := xt_ysym ps a b 3 1
  have s6 := xt_ysym ps a b 3 2
  have s7 := xt_ysym ps a b 4 0
  have s8 := xt_ysym ps a b 4 1
  have s9 := xt_ysym ps a b 4 2
  have s10 := xt_ysym ps a b 4 3
  simp only [xt_sum, xt_up, Nat.lt_irrefl, if_false]
  simp
  omega
theorem xs_mcross {lk : Nat → Nat} {T p q : Nat} {ps : Nat} {op cl hd : Nat → Nat} {I : xw_I} {F : xw_F} {G : xw_G} {post : Int32 → Prop} (hI : I 2 = nI T) (hl : ∀ w, w < 12 → F 6 w = nI (lk w)) (hT : T ≤ 8) (hlt : ∀ w, w < 12 → lk w < 2 ^ T) (hE : xe_MP ps op cl hd F) (hp : p < 5) (hq : q < 5) (hpp : ps.testBit p = true) (hqq : ps.testBit q = true) (ht : xt_x (fun p => xg_wf lk (op p) (cl p)) (fun p => xg_wt lk (op p) (cl p)) p q = true → post 1) (hf : xt_x (fun p => xg_wf lk (op p) (cl p)) (fun p => xg_wt lk (op p) (cl p)) p q = false → post 0) : sm_X8_isCrossing (nI p) (nI q) I F G post := by
  intro k40 k58 r40 r58
  obtain ⟨a1, a2, a3, a4, a5⟩ := hE.1 p hp hpp
  obtain ⟨b1, b2, b3, b4, b5⟩ := hE.1 q hq hqq
  unfold bd_X8_isCrossing_0
  refine xs_mwf hI hl hT hlt hp a1 a2 a4 a5 (xs_mwt hI hl hT hlt hp a1 a2 a4 a5 (xs_mwf hI hl hT hlt hq b1 b2 b4 b5 (xs_mwt hI hl hT hlt hq b1 b2 b4 b5 ?_)))
  obtain ⟨c1, c2⟩ := xg_w8 lk (op p) (cl p)
  obtain ⟨c3, c4⟩ := xg_w8 lk (op q) (cl q)
  unfold xt_x xt_ov at ht hf
  dsimp only at ht hf
  obtain ⟨a, ha⟩ : ∃ a, a = xg_wf lk (op p) (cl p) := ⟨_, rfl⟩
  obtain ⟨b, hb⟩ : ∃ b, b = xg_wt lk (op p) (cl p) := ⟨_, rfl⟩
  obtain ⟨c, hc⟩ : ∃ c, c = xg_wf lk (op q) (cl q) := ⟨_, rfl⟩
  obtain ⟨d, hd2⟩ : ∃ d, d = xg_wt lk (op q) (cl q) := ⟨_, rfl⟩
  rw [← ha, ← hb, ← hc, ← hd2] at ht hf ⊢
  rw [← ha] at c1
  rw [← hb] at c2
  rw [← hc] at c3
  rw [← hd2] at c4
  have hT1 : ((a < c ∧ c < b ∧ b < d) ∨ (c < a ∧ a < d ∧ d < b)) → post 1 := fun x => ht (by
    simp only [Bool.or_eq_true, Bool.and_eq_true, decide_eq_true_eq]; exact x)
  have hF1 : ¬ ((a < c ∧ c < b ∧ b < d) ∨ (c < a ∧ a < d ∧ d < b)) → post 0 := fun x => hf (by
    rw [Bool.eq_false_iff]; intro y
    simp only [Bool.or_eq_true, Bool.and_eq_true, decide_eq_true_eq] at y; exact x y)
  have h58 : k58 (nI a) (nI b) (nI c) (nI d) 1 ∨ True := Or.inr trivial
  have hyes : ((c ≤ a ∧ b ≤ d) ∨ (a ≤ c ∧ d ≤ b)) → k58 (nI a) (nI b) (nI c) (nI d) 1 := by
    intro x
    apply r58
    unfold bd_X8_isCrossing_58
    exact ⟨fun _ => hF1 (by omega), fun y => absurd y (by decide)⟩
  have hnay : ¬ ((c ≤ a ∧ b ≤ d) ∨ (a ≤ c ∧ d ≤ b)) → k58 (nI a) (nI b) (nI c) (nI d) 0 := by
    intro x
    apply r58
    unfold bd_X8_isCrossing_58
    refine ⟨fun y => absurd rfl y, fun _ => ⟨fun y => hF1 ?_, fun y => ⟨fun w => hF1 ?_, fun w => hT1 ?_⟩⟩⟩
    · have y := (xn_le (by omega) (by omega)).mp y; omega
    · have w := (xn_le (by omega) (by omega)).mp w; omega
    · have y : ¬ b ≤ c := fun u => y ((xn_le (by omega) (by omega)).mpr u)
      have w : ¬ d ≤ a := fun u => w ((xn_le (by omega) (by omega)).mpr u)
      omega
  have h40 : ¬ (c ≤ a ∧ b ≤ d) → k40 (nI a) (nI b) (nI c) (nI d) := by
    intro x
    apply r40
    unfold bd_X8_isCrossing_40
    refine ⟨fun y => hnay ?_, fun y => ⟨fun w => hnay ?_, fun w => hyes ?_⟩⟩
    · have y := (xn_lt (by omega) (by omega)).mp y; omega
    · have w := (xn_lt (by omega) (by omega)).mp w; omega
    · have y : ¬ c < a := fun u => y ((xn_lt (by omega) (by omega)).mpr u)
      have w : ¬ b < d := fun u => w ((xn_lt (by omega) (by omega)).mpr u)
      omega
  refine ⟨fun y => h40 ?_, fun y => ⟨fun w => hyes ?_, fun w => h40 ?_⟩⟩
  · have y := (xn_lt (by omega) (by omega)).mp y; omega
  · have y : ¬ a < c := fun u => y ((xn_lt (by omega) (by omega)).mpr u)
    have w := (xn_le (by omega) (by omega)).mp w
    omega
  · have w : ¬ b ≤ d := fun u => w ((xn_le (by omega) (by omega)).mpr u)
    omega
theorem xg_ms_bit (lk : Nat → Nat) (ps : Nat) (op cl : Nat → Nat) (p : Nat) : ∀ k, (xg_ms lk ps op cl k).testBit p = (decide (p < k) && (ps.testBit p && decide (xg_un lk (op p) (cl p) = 0)))
  | 0 => by rw [xg_ms, Nat.zero_testBit]; simp
  | k + 1 => by
    rw [xg_ms]
    by_cases h : ps.testBit k = true ∧ xg_un lk (op k) (cl k) = 0
    · rw [if_pos h, xa_bit_or, xg_ms_bit lk ps op cl p k]
      by_cases hk : k = p
      · subst hk; simp [h.1, h.2]
      · have : decide (p < k + 1) = decide (p < k) := decide_eq_decide.mpr (by omega)
        rw [this, decide_eq_false hk, Bool.or_false]
    · rw [if_neg h, xg_ms_bit lk ps op cl p k]
      by_cases hk : k = p
      · subst hk
        have : (ps.testBit k && decide (xg_un lk (op k) (cl k) = 0)) = false := by
          rw [Bool.eq_false_iff]; intro y
          simp only [Bool.and_eq_true, decide_eq_true_eq] at y
          exact h y
        rw [this, Bool.and_false, Bool.and_false]
      · have : decide (p < k + 1) = decide (p < k) := decide_eq_decide.mpr (by omega)
        rw [this]
theorem xg_ms_lt (lk : Nat → Nat) (ps : Nat) (op cl : Nat → Nat) : ∀ k, k ≤ 5 → xg_ms lk ps op cl k < 32
  | 0, _ => by decide
  | k + 1, hk => by
    rw [xg_ms]
    have h1 := xg_ms_lt lk ps op cl k (by omega)
    split
    · exact xm_orb _ h1 k (by omega)
    · exact h1
theorem xm_ext : ∀ a, a < 32 → ∀ b, b < 32 → (∀ q, q < 5 → a.testBit q = b.testBit q) → a = b := by decide +kernel
theorem xa_om_mb {mb mc : Nat} {mr : Nat → Nat} (hmb : mb < 8) (h1 : ∀ i, i < mc → mr i < 3 ∧ mb.testBit (mr i) = true) (h2 : ∀ m, m < 3 → mb.testBit m = true → ∃ i, i < mc ∧ mr i = m) : xa_om mr mc = mb := by
  have hlt : xa_om mr mc < 32 := xa_om_lt mr mc (fun i hi => by have := (h1 i hi).1; omega)
  have hb34 : ∀ s, s < 8 → s.testBit 3 = false ∧ s.testBit 4 = false := by decide
  refine xm_ext _ hlt _ (by omega) (fun q hq => ?_)
  have hio := xa_om_bit mr q mc
  cases hz : mb.testBit q
  · rw [Bool.eq_false_iff]
    intro y
    obtain ⟨i, hi, e⟩ := hio.mp y
    have := (h1 i hi).2
    rw [e, hz] at this
    cases this
  · have hq3 : q < 3 := by
      apply Classical.byContradiction
      intro hn
      obtain ⟨z3, z4⟩ := hb34 mb hmb
      obtain rfl | rfl : q = 3 ∨ q = 4 := by omega
      · rw [z3] at hz; cases hz
      · rw [z4] at hz; cases hz
    exact hio.mpr (h2 q hq3 hz)
theorem xq_car {I : xw_I} {F : xw_F} {G : xw_G} {J : xw_I} {K : xw_F} {post : xw_I → xw_F → xw_G → Prop} (h : xr_R xc_Q I F G J K)
    (h2 : ∀ (n ps mb mc oc : Nat) (op cl hd hb mg mr st rk : Nat → Nat) (T : Nat) (lk : Nat → Nat) (C : Nat → Nat → Nat → Nat) (mv ch : Nat → Nat → Nat) (I1 : xw_I) (F1 : xw_F) (G1 : xw_G), xa_ok (n, ps, mb, mc, oc, op, cl, hd, hb, mg, mr, st, rk) → T ≤ 8 → xl_ok n T lk → (xe_N I1 F1 (n, ps, mb, mc, oc, op, cl, hd, hb, mg, mr, st, rk) ∧ I1 12 = nI T ∧ ∀ w, w < 12 → F1 20 w = nI (lk w)) → (xe_M J K (n, ps, mb, mc, oc, op, cl, hd, hb, mg, mr, st, rk) ∧ J 2 = nI T ∧ ∀ w, w < 12 → K 6 w = nI (lk w)) → xw_found lk I1 F1 (n, ps, mb, mc, oc, op, cl, hd, hb, mg, mr, st, rk) →
      xd_hC hd (xd_code (fun p => xg_wf lk (op p) (cl p)) (fun p => xg_wt lk (op p) (cl p))) ps T (2 ^ 60) C → xw_placed (fun p => xg_wf lk (op p) (cl p)) (fun p => xg_wt lk (op p) (cl p)) (C ps 0 T) ps I1 F1 → xk_tab (fun i => xg_an lk (mg (mr i))) mc T mv ch → xw_marked mc mr mv ch I1 F1 → xt_L (I1 17) (F1 37) (xt_cat (xt_all ps T mc hd hb (xd_fr (C ps 0 T)) (xd_to (C ps 0 T)) mr (xk_gq ch)) (T + 1)) →
      (∀ J1 K1, (∀ j, j < 4 → J1 j = J j) → (∀ j, j < 10 ∨ 13 < j → K1 j = K j) → xr_R xc_Q I1 F1 G1 J1 K1 ∧ xr_im K K1) → post I1 F1 G1) : sm_X7_carry I F G post := by
  obtain ⟨A, T, lk, c, sg, ⟨a1, a2, a3⟩, ⟨n1, n2, n3⟩, ⟨m1, m2, m3⟩, ⟨c1, c2, c3, c4⟩, g1, q1⟩ := h
  refine xs_carry a1 a2 a3 n1 n2 n3 g1 q1 (fun I1 F1 G1 hQ hi hf hg => ?_)
  obtain ⟨n, ps, mb, mc, oc, op, cl, hd, hb, mg, mr, st, rk⟩ := A
  have hQ0 := hQ
  obtain ⟨f1, C, k1, k2, mv, ch, k3, k4, k5⟩ := hQ
  have n1' := n1.to (I1 := I1) (F1 := F1) (fun j p q => hi j (by omega) (by omega)) (fun j p q => hf j (by omega))
  have n2' : I1 12 = nI T := by rw [hi 12 (by decide) (by decide)]; exact n2
  have n3' : ∀ w, w < 12 → F1 20 w = nI (lk w) := fun w hw => by rw [hf 20 (by decide)]; exact n3 w hw
  refine h2 n ps mb mc oc op cl hd hb mg mr st rk T lk C mv ch I1 F1 G1 a1 a2 a3 ⟨n1', n2', n3'⟩ ⟨m1, m2, m3⟩ f1 k1 k2 k3 k4 k5 (fun J1 K1 hJ hK => ⟨⟨_, T, lk, c, sg, ⟨a1, a2, a3⟩, ⟨n1', n2', n3'⟩, ⟨m1.to (fun j p => hJ j (by omega)) (fun j p q => hK j (by omega)), by rw [hJ 2 (by decide)]; exact m2, fun w hw => by rw [hK 6 (by decide)]; exact m3 w hw⟩, ⟨c1, by rw [hi 1 (by decide) (by decide)]; exact c2, by rw [hJ 3 (by decide)]; exact c3, fun i hi2 => by rw [hf 10 (by decide), hK 7 (by decide)]; exact c4 i hi2⟩, hg, fun _ => hQ0⟩, hK 14 (by decide), hK 15 (by decide)⟩)
theorem xs_inx {x : Int32} {b : Nat} {post : Int32 → Prop} (hb : b < 2 ^ 31) (h : ∀ w, w ≤ b → x ≠ nI w) (h0 : post 0) : sm_X8_in x 0 (nI b) post := by
  refine ⟨fun _ => h0, fun y => ⟨fun _ => h0, fun w => ?_⟩⟩
  obtain ⟨v, hv, rfl⟩ := nI_of y
  exact absurd rfl (h v (Nat.not_lt.mp (fun u => w ((xn_lt hb hv).mpr u))))
theorem xq_pair {I : xw_I} {F : xw_F} {G : xw_G} {J : xw_I} {K : xw_F} {L : xw_G} (x1 x2 : Int32) (h : xr_R xc_Q I F G J K) : sm_X7_pair x1 x2 I F G (fun r I1 F1 G1 => sm_X8_pair x1 x2 J K L (fun r2 J1 K1 _ => r2 = r ∧ xr_R xc_Q I1 F1 G1 J1 K1 ∧ xr_im K K1)) := by
  have hout : x1 < 0 ∨ 4 < x1 → sm_X8_pair x1 x2 J K L (fun r2 J1 K1 _ => r2 = -1 ∧ xr_R xc_Q I F G J1 K1 ∧ xr_im K K1) := by
    intro hx
    unfold sm_X8_pair sm_X8_isThere sm_X8_in
    refine ⟨fun _ => ⟨fun _ => ⟨fun y => absurd rfl y, fun _ => ⟨rfl, h, rfl, rfl⟩⟩, fun y => absurd rfl y⟩, fun y => ⟨fun _ => ⟨fun _ => ⟨fun y => absurd rfl y, fun _ => ⟨rfl, h, rfl, rfl⟩⟩, fun y => absurd rfl y⟩, fun w => ?_⟩⟩
    rcases hx with hx | hx
    · exact absurd hx y
    · exact absurd hx w
  unfold sm_X7_pair
  refine ⟨fun z => hout (Or.inl z), fun z => ⟨fun z2 => hout (Or.inr (Int32.lt_of_lt_of_le (by decide) z2)), fun z2 => ?_⟩⟩
  obtain ⟨p, hp31, rfl⟩ := nI_of z
  have hp : p < 5 := Nat.not_le.mp (fun y => z2 ((xn_le (a := 5) (by omega) hp31).mpr y))
  obtain ⟨A, T0, lk0, c, sg, ⟨a1, a2, a3⟩, ⟨n1, n2, n3⟩, ⟨m1, m2, m3⟩, hrest⟩ := id h
  obtain ⟨n0, ps0, mb0, mc0, oc0, op0, cl0, hd0, hb0, mg0, mr0, st0, rk0⟩ := A
  obtain ⟨w1, w2, w3, w4, w5, w6, w7⟩ := n1
  obtain ⟨v1, v2, v3, v4, v5, v6, v7⟩ := m1
  have hps0 := a1.2.1
  have hE0 : xe_MP ps0 op0 cl0 hd0 K := ⟨fun p hp hb => ⟨(v3 p hp hb).1, (v3 p hp hb).2.1, (v3 p hp hb).2.2, (a1.2.2.2.2.2.2.2.1 p hp hb).1, by have := (a1.2.2.2.2.2.2.2.1 p hp hb).2.1; have := a1.1; omega⟩, v4⟩
  rw [w2]
  refine xs_has (by omega) (by omega) (fun e => ⟨fun y => absurd rfl y, fun _ => ?_⟩) (fun e => ⟨fun _ => xq_car h (fun n ps mb mc oc op cl hd hb mg mr st rk T lk C mv ch I1 F1 G1 hok hT hlk hN hM hfo hC hpl hk hma htx hR => ?_), fun y => absurd y (by decide)⟩)
  · unfold sm_X8_pair
    exact xs_isThere hE0 hp (fun y => by rw [e] at y; cases y) (fun _ => ⟨fun y => absurd rfl y, fun _ => ⟨rfl, h, rfl, rfl⟩⟩)
  clear hrest w1 w2 w3 w4 w5 w6 w7 v1 v2 v5 v6 v7
  have hps : ps.testBit p = true := by
    have q1 := hM.1.2.2.2.1
    cases hz : ps.testBit p
    · have q2 := (q1 p hp hz).1
      rw [(v3 p hp e).1] at q2
      have q3 := (a1.2.2.2.2.2.2.2.1 p hp e)
      have q4 := a1.1
      exact absurd (show nI (op0 p) < 0 by rw [q2]; decide) (nI_pos (by omega))
    · rfl
  clear v3 v4 hE0 e a1
  obtain ⟨o1, o2, o3, o4, o5, o6, o7, o8, o9, o10, o11, o12, o13, o14⟩ := id hok
  obtain ⟨⟨w1, w2, w3, w4, w5, w6, w7⟩, wT, wl⟩ := hN
  obtain ⟨⟨v1, v2, v3, v4, v5, v6, v7⟩, vT, vl⟩ := id hM
  obtain ⟨f1, f2, f3⟩ := hfo
  have hlt : ∀ w, w < 12 → lk w < 2 ^ T := fun w hw => (hlk w hw).1
  have ho8 := o8 p hp hps
  have hcl : cl p ≤ 12 := by omega
  have hE : xe_MP ps op cl hd K := ⟨fun p hp hb => ⟨(v3 p hp hb).1, (v3 p hp hb).2.1, (v3 p hp hb).2.2, (o8 p hp hb).1, by have := (o8 p hp hb).2.1; omega⟩, v4⟩
  obtain ⟨u1, u2, u3, u4⟩ := w5 p hp hps
  obtain ⟨t1, t2, t3⟩ := v3 p hp hps
  obtain ⟨s1, s2⟩ := f2 p hp hps
  obtain ⟨r1, r2, r3⟩ := hpl.2 p hp hps
  have hv5 := vp_in_nI hp (show 5 < 2 ^ 31 by omega)
  have hcl5 : (nI p).toNatClampNeg = p := nI_clamp (by omega)
  have hms := xg_ms_lt lk ps op cl 5 (by omega)
  have hsp := xd_span o2 (fun p q hp hq a b => (o9 p q hp hq a b).2) hC (fun p a b hp hab hb => (xd_code_le hp (xg_w8 _ _ _).1 (xg_w8 _ _ _).2 (by omega) (by omega)).2) (by decide) ps o2 (Nat.and_self ps) _ 0 T rfl (by omega) (Nat.le_refl _)
  have hdg := xd_dig hT hsp hp hps
  have hHB := (xc_P (mt := fun _ => 0) hok hT hsp (fun _ _ => by omega)).2.1
  rw [hcl5]
  rw [f1, xb_bit (by omega) (by omega), xg_ms_bit, decide_eq_true hp, hps, Bool.true_and, Bool.true_and]
  refine ⟨fun zx => ⟨hv5, fun v ev => ?_⟩, fun zx => ⟨hv5, fun v ev => ?_⟩, fun zx => xt_depth hp u4 ho8.2.2.2.1 ?_, fun zx => ⟨hv5, fun v ev => ?_⟩, fun zx => ⟨hv5, fun v ev => ?_⟩, fun zx => ⟨hv5, fun v ev => ?_⟩, fun zx => ⟨hv5, fun v ev => ?_⟩, fun zx => ⟨hv5, fun v ev => ?_⟩, fun zx => ⟨hv5, fun v ev => ?_⟩, fun zx => ?_, fun z0 z1 z2 z3 z4 z5 z6 z7 z8 z9 => ?_⟩
  · subst zx
    rw [u1] at ev
    subst ev
    unfold sm_X8_pair
    refine xs_isThere hE hp (fun _ => ⟨fun _ => xs_in (s := 0) (a := 0) (b := 9) (by omega) (by omega) (by omega) (fun _ _ => ⟨fun _ => xs_mall hok hT hlt hM.1 vT vl hC hk (fun J1 K1 L1 e1 e2 e3 e4 e5 e6 e7 => ?_), fun y => absurd y (by decide)⟩) (fun y => absurd ⟨by omega, by omega⟩ y), fun y => absurd y (by decide)⟩) (fun y => by rw [hps] at y; cases y)
    have hR1 := hR J1 K1 (fun j hj => e6 j (by omega)) (fun j hj => e7 j (by omega))
    rw [hcl5]
    have hK1 := e7 1 (by decide)
    have hK2 := e7 2 (by decide)
    have hK3 := e7 3 (by decide)
    have hK6 := e7 6 (by decide)
    have hJ2 := e6 2 (by decide)
    refine ⟨fun _ => ⟨hv5, fun v ev => ⟨?_, hR1⟩⟩, fun z => absurd z (by decide), fun z => absurd z (by decide), fun z => absurd z (by decide), fun z => absurd z (by decide), fun z => absurd z (by decide), fun z => absurd z (by decide), fun z => absurd z (by decide), fun z => absurd z (by decide), fun z0 z1 z2 z3 z4 z5 z6 z7 z8 => absurd rfl z0⟩
    rw [ev, hK1]; exact t1
  · subst zx
    rw [u2] at ev
    subst ev
    unfold sm_X8_pair
    refine xs_isThere hE hp (fun _ => ⟨fun _ => xs_in (s := 1) (a := 0) (b := 9) (by omega) (by omega) (by omega) (fun _ _ => ⟨fun _ => xs_mall hok hT hlt hM.1 vT vl hC hk (fun J1 K1 L1 e1 e2 e3 e4 e5 e6 e7 => ?_), fun y => absurd y (by decide)⟩) (fun y => absurd ⟨by omega, by omega⟩ y), fun y => absurd y (by decide)⟩) (fun y => by rw [hps] at y; cases y)
    have hR1 := hR J1 K1 (fun j hj => e6 j (by omega)) (fun j hj => e7 j (by omega))
    rw [hcl5]
    have hK1 := e7 1 (by decide)
    have hK2 := e7 2 (by decide)
    have hK3 := e7 3 (by decide)
    have hK6 := e7 6 (by decide)
    have hJ2 := e6 2 (by decide)
    refine ⟨fun z => absurd z (by decide), fun _ => ⟨hv5, fun v ev => ⟨?_, hR1⟩⟩, fun z => absurd z (by decide), fun z => absurd z (by decide), fun z => absurd z (by decide), fun z => absurd z (by decide), fun z => absurd z (by decide), fun z => absurd z (by decide), fun z => absurd z (by decide), fun z0 z1 z2 z3 z4 z5 z6 z7 z8 => absurd rfl z1⟩
    rw [ev, hK2]; exact t2
  · subst zx
    unfold sm_X8_pair
    refine xs_isThere hE hp (fun _ => ⟨fun _ => xs_in (s := 2) (a := 0) (b := 9) (by omega) (by omega) (by omega) (fun _ _ => ⟨fun _ => xs_mall hok hT hlt hM.1 vT vl hC hk (fun J1 K1 L1 e1 e2 e3 e4 e5 e6 e7 => ?_), fun y => absurd y (by decide)⟩) (fun y => absurd ⟨by omega, by omega⟩ y), fun y => absurd y (by decide)⟩) (fun y => by rw [hps] at y; cases y)
    have hR1 := hR J1 K1 (fun j hj => e6 j (by omega)) (fun j hj => e7 j (by omega))
    rw [hcl5]
    have hK1 := e7 1 (by decide)
    have hK2 := e7 2 (by decide)
    have hK3 := e7 3 (by decide)
    have hK6 := e7 6 (by decide)
    have hJ2 := e6 2 (by decide)
    refine ⟨fun z => absurd z (by decide), fun z => absurd z (by decide), fun _ => xt_mdepth (ps := ps) (op := op) (cl := cl) (hd := hd) (hb := hb) ⟨fun p hp hb => ?_, fun p hp hb => ?_⟩ hHB (fun p hp hb => (o8 p hp hb).2.2.1) hp hps ho8.2.2.2.1 ⟨rfl, hR1⟩, fun z => absurd z (by decide), fun z => absurd z (by decide), fun z => absurd z (by decide), fun z => absurd z (by decide), fun z => absurd z (by decide), fun z => absurd z (by decide), fun z0 z1 z2 z3 z4 z5 z6 z7 z8 => absurd rfl z2⟩
    · rw [hK1, hK2, hK3]; exact hE.1 p hp hb
    · rw [hK1, hK3]; exact hE.2 p hp hb
  · subst zx
    rw [u3] at ev
    subst ev
    unfold sm_X8_pair
    refine xs_isThere hE hp (fun _ => ⟨fun _ => xs_in (s := 3) (a := 0) (b := 9) (by omega) (by omega) (by omega) (fun _ _ => ⟨fun _ => xs_mall hok hT hlt hM.1 vT vl hC hk (fun J1 K1 L1 e1 e2 e3 e4 e5 e6 e7 => ?_), fun y => absurd y (by decide)⟩) (fun y => absurd ⟨by omega, by omega⟩ y), fun y => absurd y (by decide)⟩) (fun y => by rw [hps] at y; cases y)
    have hR1 := hR J1 K1 (fun j hj => e6 j (by omega)) (fun j hj => e7 j (by omega))
    rw [hcl5]
    have hK1 := e7 1 (by decide)
    have hK2 := e7 2 (by decide)
    have hK3 := e7 3 (by decide)
    have hK6 := e7 6 (by decide)
    have hJ2 := e6 2 (by decide)
    refine ⟨fun z => absurd z (by decide), fun z => absurd z (by decide), fun z => absurd z (by decide), fun _ => ⟨hv5, fun v ev => ⟨?_, hR1⟩⟩, fun z => absurd z (by decide), fun z => absurd z (by decide), fun z => absurd z (by decide), fun z => absurd z (by decide), fun z => absurd z (by decide), fun z0 z1 z2 z3 z4 z5 z6 z7 z8 => absurd rfl z3⟩
    rw [ev, hK3]; exact t3
  · subst zx
    rw [s1] at ev
    subst ev
    unfold sm_X8_pair
    refine xs_isThere hE hp (fun _ => ⟨fun _ => xs_in (s := 4) (a := 0) (b := 9) (by omega) (by omega) (by omega) (fun _ _ => ⟨fun _ => xs_mall hok hT hlt hM.1 vT vl hC hk (fun J1 K1 L1 e1 e2 e3 e4 e5 e6 e7 => ?_), fun y => absurd y (by decide)⟩) (fun y => absurd ⟨by omega, by omega⟩ y), fun y => absurd y (by decide)⟩) (fun y => by rw [hps] at y; cases y)
    have hR1 := hR J1 K1 (fun j hj => e6 j (by omega)) (fun j hj => e7 j (by omega))
    rw [hcl5]
    have hK1 := e7 1 (by decide)
    have hK2 := e7 2 (by decide)
    have hK3 := e7 3 (by decide)
    have hK6 := e7 6 (by decide)
    have hJ2 := e6 2 (by decide)
    exact ⟨fun z => absurd z (by decide), fun z => absurd z (by decide), fun z => absurd z (by decide), fun z => absurd z (by decide), fun _ => xs_mwf (by rw [hJ2]; exact vT) (fun w hw => by rw [hK6]; exact vl w hw) hT hlt hp (by rw [hK1]; exact t1) (by rw [hK2]; exact t2) ho8.1 hcl ⟨rfl, hR1⟩, fun z => absurd z (by decide), fun z => absurd z (by decide), fun z => absurd z (by decide), fun z => absurd z (by decide), fun z0 z1 z2 z3 z4 z5 z6 z7 z8 => absurd rfl z4⟩
  · subst zx
    rw [s2] at ev
    subst ev
    unfold sm_X8_pair
    refine xs_isThere hE hp (fun _ => ⟨fun _ => xs_in (s := 5) (a := 0) (b := 9) (by omega) (by omega) (by omega) (fun _ _ => ⟨fun _ => xs_mall hok hT hlt hM.1 vT vl hC hk (fun J1 K1 L1 e1 e2 e3 e4 e5 e6 e7 => ?_), fun y => absurd y (by decide)⟩) (fun y => absurd ⟨by omega, by omega⟩ y), fun y => absurd y (by decide)⟩) (fun y => by rw [hps] at y; cases y)
    have hR1 := hR J1 K1 (fun j hj => e6 j (by omega)) (fun j hj => e7 j (by omega))
    rw [hcl5]
    have hK1 := e7 1 (by decide)
    have hK2 := e7 2 (by decide)
    have hK3 := e7 3 (by decide)
    have hK6 := e7 6 (by decide)
    have hJ2 := e6 2 (by decide)
    exact ⟨fun z => absurd z (by decide), fun z => absurd z (by decide), fun z => absurd z (by decide), fun z => absurd z (by decide), fun z => absurd z (by decide), fun _ => xs_mwt (by rw [hJ2]; exact vT) (fun w hw => by rw [hK6]; exact vl w hw) hT hlt hp (by rw [hK1]; exact t1) (by rw [hK2]; exact t2) ho8.1 hcl ⟨rfl, hR1⟩, fun z => absurd z (by decide), fun z => absurd z (by decide), fun z => absurd z (by decide), fun z0 z1 z2 z3 z4 z5 z6 z7 z8 => absurd rfl z5⟩
  · subst zx
    rw [r1] at ev
    subst ev
    unfold sm_X8_pair
    refine xs_isThere hE hp (fun _ => ⟨fun _ => xs_in (s := 6) (a := 0) (b := 9) (by omega) (by omega) (by omega) (fun _ _ => ⟨fun _ => xs_mall hok hT hlt hM.1 vT vl hC hk (fun J1 K1 L1 e1 e2 e3 e4 e5 e6 e7 => ?_), fun y => absurd y (by decide)⟩) (fun y => absurd ⟨by omega, by omega⟩ y), fun y => absurd y (by decide)⟩) (fun y => by rw [hps] at y; cases y)
    have hR1 := hR J1 K1 (fun j hj => e6 j (by omega)) (fun j hj => e7 j (by omega))
    rw [hcl5]
    have hK1 := e7 1 (by decide)
    have hK2 := e7 2 (by decide)
    have hK3 := e7 3 (by decide)
    have hK6 := e7 6 (by decide)
    have hJ2 := e6 2 (by decide)
    refine ⟨fun z => absurd z (by decide), fun z => absurd z (by decide), fun z => absurd z (by decide), fun z => absurd z (by decide), fun z => absurd z (by decide), fun z => absurd z (by decide), fun _ => ⟨hv5, fun v ev => ⟨?_, hR1⟩⟩, fun z => absurd z (by decide), fun z => absurd z (by decide), fun z0 z1 z2 z3 z4 z5 z6 z7 z8 => absurd rfl z6⟩
    rw [ev]; exact (e4 p hp).1
  · subst zx
    rw [r2] at ev
    subst ev
    unfold sm_X8_pair
    refine xs_isThere hE hp (fun _ => ⟨fun _ => xs_in (s := 7) (a := 0) (b := 9) (by omega) (by omega) (by omega) (fun _ _ => ⟨fun _ => xs_mall hok hT hlt hM.1 vT vl hC hk (fun J1 K1 L1 e1 e2 e3 e4 e5 e6 e7 => ?_), fun y => absurd y (by decide)⟩) (fun y => absurd ⟨by omega, by omega⟩ y), fun y => absurd y (by decide)⟩) (fun y => by rw [hps] at y; cases y)
    have hR1 := hR J1 K1 (fun j hj => e6 j (by omega)) (fun j hj => e7 j (by omega))
    rw [hcl5]
    have hK1 := e7 1 (by decide)
    have hK2 := e7 2 (by decide)
    have hK3 := e7 3 (by decide)
    have hK6 := e7 6 (by decide)
    have hJ2 := e6 2 (by decide)
    refine ⟨fun z => absurd z (by decide), fun z => absurd z (by decide), fun z => absurd z (by decide), fun z => absurd z (by decide), fun z => absurd z (by decide), fun z => absurd z (by decide), fun z => absurd z (by decide), fun _ => ⟨hv5, fun v ev => ⟨?_, hR1⟩⟩, fun z => absurd z (by decide), fun z0 z1 z2 z3 z4 z5 z6 z7 z8 => absurd rfl z7⟩
    rw [ev]; exact (e4 p hp).2
  · subst zx
    rw [r3] at ev
    subst ev
    unfold sm_X8_pair
    refine xs_isThere hE hp (fun _ => ⟨fun _ => xs_in (s := 8) (a := 0) (b := 9) (by omega) (by omega) (by omega) (fun _ _ => ⟨fun _ => xs_mall hok hT hlt hM.1 vT vl hC hk (fun J1 K1 L1 e1 e2 e3 e4 e5 e6 e7 => ?_), fun y => absurd y (by decide)⟩) (fun y => absurd ⟨by omega, by omega⟩ y), fun y => absurd y (by decide)⟩) (fun y => by rw [hps] at y; cases y)
    have hR1 := hR J1 K1 (fun j hj => e6 j (by omega)) (fun j hj => e7 j (by omega))
    rw [hcl5]
    have hK1 := e7 1 (by decide)
    have hK2 := e7 2 (by decide)
    have hK3 := e7 3 (by decide)
    have hK6 := e7 6 (by decide)
    have hJ2 := e6 2 (by decide)
    rw [(e4 p hp).1, (e4 p hp).2]
    refine ⟨fun z => absurd z (by decide), fun z => absurd z (by decide), fun z => absurd z (by decide), fun z => absurd z (by decide), fun z => absurd z (by decide), fun z => absurd z (by decide), fun z => absurd z (by decide), fun z => absurd z (by decide), fun _ => ⟨hv5, fun v ev => ⟨hv5, fun v2 ev2 => ?_⟩⟩, fun z0 z1 z2 z3 z4 z5 z6 z7 z8 => absurd rfl z8⟩
    rw [ev, ev2]
    exact xs_mcost (by rw [hJ2]; exact vT) (fun w hw => by rw [hK6]; exact vl w hw) hT hlt hp (by rw [hK1]; exact t1) (by rw [hK2]; exact t2) ho8.1 hcl (by omega) (by omega) ⟨rfl, hR1⟩
  · subst zx
    unfold sm_X8_pair
    refine xs_isThere hE hp (fun _ => ⟨fun _ => xs_in (s := 9) (a := 0) (b := 9) (by omega) (by omega) (by omega) (fun _ _ => ⟨fun _ => xs_mall hok hT hlt hM.1 vT vl hC hk (fun J1 K1 L1 e1 e2 e3 e4 e5 e6 e7 => ?_), fun y => absurd y (by decide)⟩) (fun y => absurd ⟨by omega, by omega⟩ y), fun y => absurd y (by decide)⟩) (fun y => by rw [hps] at y; cases y)
    have hR1 := hR J1 K1 (fun j hj => e6 j (by omega)) (fun j hj => e7 j (by omega))
    rw [hcl5]
    have hK1 := e7 1 (by decide)
    have hK2 := e7 2 (by decide)
    have hK3 := e7 3 (by decide)
    have hK6 := e7 6 (by decide)
    have hJ2 := e6 2 (by decide)
    refine ⟨fun z => absurd z (by decide), fun z => absurd z (by decide), fun z => absurd z (by decide), fun z => absurd z (by decide), fun z => absurd z (by decide), fun z => absurd z (by decide), fun z => absurd z (by decide), fun z => absurd z (by decide), fun z => absurd z (by decide), fun _ _ _ _ _ _ _ _ _ => xs_linksOf (fun w hw => by rw [hK6]; exact vl w hw) hp (by rw [hK1]; exact t1) (by rw [hK2]; exact t2) ho8.1 hcl ⟨fun y => ⟨?_, hR1⟩, fun y => ⟨?_, hR1⟩⟩⟩
    · rw [decide_eq_false (fun w => y (by rw [w]; rfl))]; rfl
    · rw [decide_eq_true ((xn_eq (b := 0) (by have := xg_256 (xg_un_lt (a := op p) hlt (cl p) hcl) hT; omega) (by omega)).mp y)]; rfl
  · unfold sm_X8_pair
    refine xs_isThere hE hp (fun _ => ⟨fun _ => ?_, fun y => absurd y (by decide)⟩) (fun y => by rw [hps] at y; cases y)
    have hbad : ∀ w : Nat, w ≤ 9 → x2 ≠ nI w := by
      intro w hw he
      obtain rfl | rfl | rfl | rfl | rfl | rfl | rfl | rfl | rfl | rfl : w = 0 ∨ w = 1 ∨ w = 2 ∨ w = 3 ∨ w = 4 ∨ w = 5 ∨ w = 6 ∨ w = 7 ∨ w = 8 ∨ w = 9 := by omega
      exacts [z0 he, z1 he, z2 he, z3 he, z4 he, z5 he, z6 he, z7 he, z8 he, z9 he]
    exact xs_inx (b := 9) (by omega) hbad ⟨fun y => absurd rfl y, fun _ => ⟨rfl, hR J K (fun _ _ => rfl) (fun _ _ => rfl)⟩⟩
theorem xq_mark {I : xw_I} {F : xw_F} {G : xw_G} {J : xw_I} {K : xw_F} {L : xw_G} (x1 x2 : Int32) (h : xr_R xc_Q I F G J K) : sm_X7_mark x1 x2 I F G (fun r I1 F1 G1 => sm_X8_mark x1 x2 J K L (fun r2 J1 K1 _ => r2 = r ∧ xr_R xc_Q I1 F1 G1 J1 K1 ∧ xr_im K K1)) := by
  have hout : x1 < 0 ∨ 2 < x1 → sm_X8_mark x1 x2 J K L (fun r2 J1 K1 _ => r2 = -1 ∧ xr_R xc_Q I F G J1 K1 ∧ xr_im K K1) := by
    intro hx
    unfold sm_X8_mark sm_X8_in
    refine ⟨fun _ => ⟨fun _ => ⟨rfl, h, rfl, rfl⟩, fun y => absurd rfl y⟩, fun y => ⟨fun _ => ⟨fun _ => ⟨rfl, h, rfl, rfl⟩, fun y => absurd rfl y⟩, fun w => ?_⟩⟩
    rcases hx with hx | hx
    · exact absurd hx y
    · exact absurd hx w
  unfold sm_X7_mark
  refine ⟨fun z => hout (Or.inl z), fun z => ⟨fun z2 => hout (Or.inr (Int32.lt_of_lt_of_le (by decide) z2)), fun z2 => ?_⟩⟩
  obtain ⟨p, hp31, rfl⟩ := nI_of z
  have hp : p < 3 := Nat.not_le.mp (fun y => z2 ((xn_le (a := 3) (by omega) hp31).mpr y))
  obtain ⟨A, T0, lk0, c, sg, ⟨a1, a2, a3⟩, ⟨n1, n2, n3⟩, ⟨m1, m2, m3⟩, hrest⟩ := id h
  obtain ⟨n0, ps0, mb0, mc0, oc0, op0, cl0, hd0, hb0, mg0, mr0, st0, rk0⟩ := A
  obtain ⟨w1, w2, w3, w4, w5, w6, w7⟩ := n1
  obtain ⟨v1, v2, v3, v4, v5, v6, v7⟩ := m1
  have hmb0 := a1.2.2.1
  have hv3 := vp_in_nI hp (show 3 < 2 ^ 31 by omega)
  have hcl3 : (nI p).toNatClampNeg = p := nI_clamp (by omega)
  rw [w3]
  refine xs_has (by omega) (by omega) (fun e => ⟨fun y => absurd rfl y, fun _ => ?_⟩) (fun e => ⟨fun _ => xq_car h (fun n ps mb mc oc op cl hd hb mg mr st rk T lk C mv ch I1 F1 G1 hok hT hlk hN hM hfo hC hpl hk hma htx hR => ?_), fun y => absurd y (by decide)⟩)
  · unfold sm_X8_mark
    refine xs_in (a := 0) (b := 2) (by omega) (by omega) (by omega) (fun _ _ => ⟨fun y => absurd y (by decide), fun _ => ⟨hv3, fun v ev => ?_⟩⟩) (fun y => absurd ⟨by omega, by omega⟩ y)
    rw [hcl3, v6 p hp e] at ev
    subst ev
    exact ⟨fun y => absurd y (by decide), fun _ => ⟨rfl, h, rfl, rfl⟩⟩
  have hmb : mb.testBit p = true := by
    have q1 := hM.1.2.2.2.2.2.1
    cases hz : mb.testBit p
    · have q2 := q1 p hp hz
      rw [v5 p hp e] at q2
      have q3 := (a1.2.2.2.2.2.2.2.2.2.2.2.2.2 p hp e).1
      have q4 := a1.1
      exact absurd (show nI (mg0 p) < 0 by rw [q2]; decide) (nI_pos (by omega))
    · rfl
  clear hrest w1 w2 w3 w4 w5 w6 w7 v1 v2 v3 v4 v5 v6 v7 e a1
  obtain ⟨o1, o2, o3, o4, o5, o6, o7, o8, o9, o10, o11, o12, o13, o14⟩ := id hok
  obtain ⟨⟨w1, w2, w3, w4, w5, w6, w7⟩, wT, wl⟩ := hN
  obtain ⟨⟨v1, v2, v3, v4, v5, v6, v7⟩, vT, vl⟩ := id hM
  obtain ⟨f1, f2, f3⟩ := hfo
  have hlt : ∀ w, w < 12 → lk w < 2 ^ T := fun w hw => (hlk w hw).1
  obtain ⟨hmg, i, hi, hmi⟩ := o14 p hp hmb
  have hmc12 : mg p ≤ 12 := by omega
  have hat : F1 33 p = nI (xk_gq ch i) := by rw [← hmi]; exact hma.2 i hi
  rw [hcl3]
  refine ⟨fun zx => ⟨hv3, fun v ev => ?_⟩, fun zx => ⟨hv3, fun v ev => ?_⟩, fun zx => ⟨hv3, fun v ev => ?_⟩, fun z0 z1 z2 => ?_⟩
  · subst zx
    rw [w6 p hp hmb] at ev
    subst ev
    unfold sm_X8_mark
    refine xs_in (a := 0) (b := 2) (by omega) (by omega) (by omega) (fun _ _ => ⟨fun y => absurd y (by decide), fun _ => ⟨hv3, fun v12 e12 => ?_⟩⟩) (fun y => absurd ⟨by omega, by omega⟩ y)
    rw [hcl3, v5 p hp hmb] at e12
    subst e12
    refine ⟨fun _ => xs_in (s := 0) (a := 0) (b := 2) (by omega) (by omega) (by omega) (fun _ _ => ⟨fun _ => xs_mall hok hT hlt hM.1 vT vl hC hk (fun J1 K1 L1 e1 e2 e3 e4 e5 e6 e7 => ?_), fun y => absurd y (by decide)⟩) (fun y => absurd ⟨by omega, by omega⟩ y), fun y => absurd ((xn_le (a := 0) (by omega) (by omega)).mpr (by omega)) y⟩
    have hR1 := hR J1 K1 (fun j hj => e6 j (by omega)) (fun j hj => e7 j (by omega))
    rw [hcl3]
    refine ⟨fun y => absurd rfl y, fun _ => ⟨hv3, fun v ev => ⟨?_, hR1⟩⟩⟩
    rw [ev, e7 4 (by decide)]; exact v5 p hp hmb
  · subst zx
    rw [f3 p hp hmb] at ev
    subst ev
    unfold sm_X8_mark
    refine xs_in (a := 0) (b := 2) (by omega) (by omega) (by omega) (fun _ _ => ⟨fun y => absurd y (by decide), fun _ => ⟨hv3, fun v12 e12 => ?_⟩⟩) (fun y => absurd ⟨by omega, by omega⟩ y)
    rw [hcl3, v5 p hp hmb] at e12
    subst e12
    refine ⟨fun _ => xs_in (s := 1) (a := 0) (b := 2) (by omega) (by omega) (by omega) (fun _ _ => ⟨fun _ => xs_mall hok hT hlt hM.1 vT vl hC hk (fun J1 K1 L1 e1 e2 e3 e4 e5 e6 e7 => ?_), fun y => absurd y (by decide)⟩) (fun y => absurd ⟨by omega, by omega⟩ y), fun y => absurd ((xn_le (a := 0) (by omega) (by omega)).mpr (by omega)) y⟩
    have hR1 := hR J1 K1 (fun j hj => e6 j (by omega)) (fun j hj => e7 j (by omega))
    rw [hcl3]
    refine ⟨fun _ => ⟨fun y => absurd rfl y, fun _ => ⟨hv3, fun v ev => ?_⟩⟩, fun y => absurd y (by decide)⟩
    rw [e7 4 (by decide), v5 p hp hmb] at ev
    subst ev
    exact xs_manchor (by rw [e6 2 (by decide)]; exact vT) (fun w hw => by rw [e7 6 (by decide)]; exact vl w hw) hT hlt hmc12 ⟨rfl, hR1⟩
  · subst zx
    rw [hat] at ev
    subst ev
    unfold sm_X8_mark
    refine xs_in (a := 0) (b := 2) (by omega) (by omega) (by omega) (fun _ _ => ⟨fun y => absurd y (by decide), fun _ => ⟨hv3, fun v12 e12 => ?_⟩⟩) (fun y => absurd ⟨by omega, by omega⟩ y)
    rw [hcl3, v5 p hp hmb] at e12
    subst e12
    refine ⟨fun _ => xs_in (s := 2) (a := 0) (b := 2) (by omega) (by omega) (by omega) (fun _ _ => ⟨fun _ => xs_mall hok hT hlt hM.1 vT vl hC hk (fun J1 K1 L1 e1 e2 e3 e4 e5 e6 e7 => ?_), fun y => absurd y (by decide)⟩) (fun y => absurd ⟨by omega, by omega⟩ y), fun y => absurd ((xn_le (a := 0) (by omega) (by omega)).mpr (by omega)) y⟩
    have hR1 := hR J1 K1 (fun j hj => e6 j (by omega)) (fun j hj => e7 j (by omega))
    rw [hcl3]
    refine ⟨fun _ => ⟨fun _ => ⟨hv3, fun v ev => ⟨?_, hR1⟩⟩, fun y => absurd y (by decide)⟩, fun y => absurd y (by decide)⟩
    rw [ev, ← hmi]; exact e5 i hi
  · unfold sm_X8_mark
    refine xs_in (a := 0) (b := 2) (by omega) (by omega) (by omega) (fun _ _ => ⟨fun y => absurd y (by decide), fun _ => ⟨hv3, fun v12 e12 => ?_⟩⟩) (fun y => absurd ⟨by omega, by omega⟩ y)
    rw [hcl3, v5 p hp hmb] at e12
    subst e12
    have hbad : ∀ w : Nat, w ≤ 2 → x2 ≠ nI w := by
      intro w hw he
      obtain rfl | rfl | rfl : w = 0 ∨ w = 1 ∨ w = 2 := by omega
      exacts [z0 he, z1 he, z2 he]
    exact ⟨fun _ => xs_inx (b := 2) (by omega) hbad ⟨fun y => absurd rfl y, fun _ => ⟨rfl, hR J K (fun _ _ => rfl) (fun _ _ => rfl)⟩⟩, fun y => absurd ((xn_le (a := 0) (by omega) (by omega)).mpr (by omega)) y⟩
theorem xn_sh40 {w : Nat} (h : w < 2 ^ 62) : ((lN w) >>> ((40 : Int32).toInt64 &&& 63)).toInt32 = nI (w / 2 ^ 40) := by
  rw [show ((40 : Int32).toInt64 &&& 63) = ((nI 40).toInt64 &&& 63) from rfl, pf_shr (xc_c63 40 (by omega)) h, xn_l2i]
theorem xq_total {I : xw_I} {F : xw_F} {G : xw_G} {J : xw_I} {K : xw_F} {L : xw_G} (x1 : Int32) (h : xr_R xc_Q I F G J K) : sm_X7_total x1 I F G (fun r I1 F1 G1 => sm_X8_total x1 J K L (fun r2 J1 K1 _ => r2 = r ∧ xr_R xc_Q I1 F1 G1 J1 K1 ∧ xr_im K K1)) := by
  unfold sm_X7_total
  refine xq_car h (fun n ps mb mc oc op cl hd hb mg mr st rk T lk C mv ch I1 F1 G1 hok hT hlk hN hM hfo hC hpl hk hma htx hR => ?_)
  obtain ⟨o1, o2, o3, o4, o5, o6, o7, o8, o9, o10, o11, o12, o13, o14⟩ := id hok
  obtain ⟨⟨w1, w2, w3, w4, w5, w6, w7⟩, wT, wl⟩ := hN
  obtain ⟨⟨v1, v2, v3, v4, v5, v6, v7⟩, vT, vl⟩ := id hM
  obtain ⟨f1, f2, f3⟩ := hfo
  have hlt : ∀ w, w < 12 → lk w < 2 ^ T := fun w hw => (hlk w hw).1
  have hmc3 := xa_mc3 o3 o4
  have hE : xe_MP ps op cl hd K := ⟨fun p hp hb => ⟨(v3 p hp hb).1, (v3 p hp hb).2.1, (v3 p hp hb).2.2, (o8 p hp hb).1, by have := (o8 p hp hb).2.1; omega⟩, v4⟩
  rw [w2]
  refine ⟨fun zx => ?_, fun zx => ?_, fun zx => ?_, fun zx => ?_, fun zx => ?_, fun zx => xs_clinks hT hlt wl ?_, fun zx => xs_ccross (a := fun p => xg_wf lk (op p) (cl p)) (b := fun p => xg_wt lk (op p) (cl p)) o2 (fun p hp hb => ⟨(f2 p hp hb).1, (f2 p hp hb).2, (xg_w8 _ _ _).1, (xg_w8 _ _ _).2⟩) ?_, fun zx => xs_cholds (ps := ps) (hd := hd) o2 w2 (fun p hp hb => ⟨(w5 p hp hb).2.2.1, (o8 p hp hb).2.2.1⟩) ?_, fun z0 z1 z2 z3 z4 z5 z6 z7 => ?_⟩
  · subst zx
    intro k85 k126 k155 k185 k193 k250 r85 r126 r155 r185 r193 r250
    unfold bd_X8_total_0
    refine xs_in (s := 0) (a := 0) (b := 7) (by omega) (by omega) (by omega) (fun _ _ => ⟨fun _ => xs_mall hok hT hlt hM.1 vT vl hC hk (fun J1 K1 L1 e1 e2 e3 e4 e5 e6 e7 => ?_), fun y => absurd y (by decide)⟩) (fun y => absurd ⟨by omega, by omega⟩ y)
    have hR1 := hR J1 K1 (fun j hj => e6 j (by omega)) (fun j hj => e7 j (by omega))
    have hK1 := e7 1 (by decide)
    have hK2 := e7 2 (by decide)
    have hK3 := e7 3 (by decide)
    have hK6 := e7 6 (by decide)
    have hJ2 := e6 2 (by decide)
    have hE1 : xe_MP ps op cl hd K1 := ⟨fun p hp hb => by rw [hK1, hK2, hK3]; exact hE.1 p hp hb, fun p hp hb => by rw [hK1, hK3]; exact hE.2 p hp hb⟩
    refine ⟨fun _ => ?_, fun z => absurd z (by decide), fun z => absurd z (by decide), fun z => absurd z (by decide), fun z => absurd z (by decide), fun z => absurd z (by decide), fun z => absurd z (by decide), fun z0 z1 z2 z3 z4 z5 z6 => absurd rfl z0⟩
    refine ⟨?_, hR1⟩
    rw [e1, xn_sh40 e2]; exact hpl.1.symm
  · subst zx
    intro k85 k126 k155 k185 k193 k250 r85 r126 r155 r185 r193 r250
    unfold bd_X8_total_0
    refine xs_in (s := 1) (a := 0) (b := 7) (by omega) (by omega) (by omega) (fun _ _ => ⟨fun _ => xs_mall hok hT hlt hM.1 vT vl hC hk (fun J1 K1 L1 e1 e2 e3 e4 e5 e6 e7 => ?_), fun y => absurd y (by decide)⟩) (fun y => absurd ⟨by omega, by omega⟩ y)
    have hR1 := hR J1 K1 (fun j hj => e6 j (by omega)) (fun j hj => e7 j (by omega))
    have hK1 := e7 1 (by decide)
    have hK2 := e7 2 (by decide)
    have hK3 := e7 3 (by decide)
    have hK6 := e7 6 (by decide)
    have hJ2 := e6 2 (by decide)
    have hE1 : xe_MP ps op cl hd K1 := ⟨fun p hp hb => by rw [hK1, hK2, hK3]; exact hE.1 p hp hb, fun p hp hb => by rw [hK1, hK3]; exact hE.2 p hp hb⟩
    refine ⟨fun z => absurd z (by decide), fun _ => ?_, fun z => absurd z (by decide), fun z => absurd z (by decide), fun z => absurd z (by decide), fun z => absurd z (by decide), fun z => absurd z (by decide), fun z0 z1 z2 z3 z4 z5 z6 => absurd rfl z1⟩
    refine ⟨?_, hR1⟩
    rw [e3]; exact hma.1.symm
  · subst zx
    intro k85 k126 k155 k185 k193 k250 r85 r126 r155 r185 r193 r250
    unfold bd_X8_total_0
    refine xs_in (s := 2) (a := 0) (b := 7) (by omega) (by omega) (by omega) (fun _ _ => ⟨fun _ => xs_mall hok hT hlt hM.1 vT vl hC hk (fun J1 K1 L1 e1 e2 e3 e4 e5 e6 e7 => ?_), fun y => absurd y (by decide)⟩) (fun y => absurd ⟨by omega, by omega⟩ y)
    have hR1 := hR J1 K1 (fun j hj => e6 j (by omega)) (fun j hj => e7 j (by omega))
    have hK1 := e7 1 (by decide)
    have hK2 := e7 2 (by decide)
    have hK3 := e7 3 (by decide)
    have hK6 := e7 6 (by decide)
    have hJ2 := e6 2 (by decide)
    have hE1 : xe_MP ps op cl hd K1 := ⟨fun p hp hb => by rw [hK1, hK2, hK3]; exact hE.1 p hp hb, fun p hp hb => by rw [hK1, hK3]; exact hE.2 p hp hb⟩
    refine ⟨fun z => absurd z (by decide), fun z => absurd z (by decide), fun _ => ?_, fun z => absurd z (by decide), fun z => absurd z (by decide), fun z => absurd z (by decide), fun z => absurd z (by decide), fun z0 z1 z2 z3 z4 z5 z6 => absurd rfl z2⟩
    exact xs_there o2 hE1 ⟨rfl, hR1⟩
  · subst zx
    intro k85 k126 k155 k185 k193 k250 r85 r126 r155 r185 r193 r250
    unfold bd_X8_total_0
    refine xs_in (s := 3) (a := 0) (b := 7) (by omega) (by omega) (by omega) (fun _ _ => ⟨fun _ => xs_mall hok hT hlt hM.1 vT vl hC hk (fun J1 K1 L1 e1 e2 e3 e4 e5 e6 e7 => ?_), fun y => absurd y (by decide)⟩) (fun y => absurd ⟨by omega, by omega⟩ y)
    have hR1 := hR J1 K1 (fun j hj => e6 j (by omega)) (fun j hj => e7 j (by omega))
    have hK1 := e7 1 (by decide)
    have hK2 := e7 2 (by decide)
    have hK3 := e7 3 (by decide)
    have hK6 := e7 6 (by decide)
    have hJ2 := e6 2 (by decide)
    have hE1 : xe_MP ps op cl hd K1 := ⟨fun p hp hb => by rw [hK1, hK2, hK3]; exact hE.1 p hp hb, fun p hp hb => by rw [hK1, hK3]; exact hE.2 p hp hb⟩
    refine ⟨fun z => absurd z (by decide), fun z => absurd z (by decide), fun z => absurd z (by decide), fun _ => ?_, fun z => absurd z (by decide), fun z => absurd z (by decide), fun z => absurd z (by decide), fun z0 z1 z2 z3 z4 z5 z6 => absurd rfl z3⟩
    rw [f1]
    refine xl_up (fun i (_ : Unit) => k85 (nI (xg_ms lk ps op cl i)) (nI i) J1 K1 L1) 5 (fun _ _ => True) ?_ ?_ 0 () (by omega) trivial
    · intro i _ hi _ ih
      have ih := ih () trivial
      rw [xg_ms] at ih
      apply r85
      unfold bd_X8_total_85
      refine ⟨fun z => absurd ((xn_le (a := 5) (by omega) (by omega)).mp z) (by omega), fun _ => xs_isThere hE1 hi (fun e => ⟨fun z => absurd z (by decide), fun _ => ?_⟩) (fun e => ⟨fun _ va ea vb eb => ?_, fun z => absurd rfl z⟩)⟩
      · obtain ⟨b1, b2, b3, b4, b5⟩ := hE1.1 i hi e
        have hun := xg_256 (xg_un_lt (a := op i) hlt (cl i) b5) hT
        refine xs_linksOf (fun w hw => by rw [hK6]; exact vl w hw) hi b1 b2 b4 b5 ⟨fun y va ea vb eb => ?_, fun y va ea vb eb => ?_⟩
        · rw [if_neg (fun x => y (by rw [x.2]; rfl))] at ih
          rw [xn_or0] at ea
          rw [nI_1] at eb
          rw [ea, eb]; exact ih
        · rw [if_pos ⟨e, (xn_eq (b := 0) (by omega) (by omega)).mp y⟩] at ih
          rw [xn_or2 _ (by omega)] at ea
          rw [nI_1] at eb
          rw [ea, eb]; exact ih
      · rw [if_neg (fun x => by rw [e] at x; cases x.1)] at ih
        rw [xn_or0] at ea
        rw [nI_1] at eb
        rw [ea, eb]; exact ih
    · intro _ _
      apply r85
      unfold bd_X8_total_85
      exact ⟨fun _ => ⟨rfl, hR1⟩, fun z => absurd ((xn_le (a := 5) (b := 5) (by omega) (by omega)).mpr (by omega)) z⟩
  · subst zx
    intro k85 k126 k155 k185 k193 k250 r85 r126 r155 r185 r193 r250
    unfold bd_X8_total_0
    refine xs_in (s := 4) (a := 0) (b := 7) (by omega) (by omega) (by omega) (fun _ _ => ⟨fun _ => xs_mall hok hT hlt hM.1 vT vl hC hk (fun J1 K1 L1 e1 e2 e3 e4 e5 e6 e7 => ?_), fun y => absurd y (by decide)⟩) (fun y => absurd ⟨by omega, by omega⟩ y)
    have hR1 := hR J1 K1 (fun j hj => e6 j (by omega)) (fun j hj => e7 j (by omega))
    have hK1 := e7 1 (by decide)
    have hK2 := e7 2 (by decide)
    have hK3 := e7 3 (by decide)
    have hK6 := e7 6 (by decide)
    have hJ2 := e6 2 (by decide)
    have hE1 : xe_MP ps op cl hd K1 := ⟨fun p hp hb => by rw [hK1, hK2, hK3]; exact hE.1 p hp hb, fun p hp hb => by rw [hK1, hK3]; exact hE.2 p hp hb⟩
    refine ⟨fun z => absurd z (by decide), fun z => absurd z (by decide), fun z => absurd z (by decide), fun z => absurd z (by decide), fun _ => ?_, fun z => absurd z (by decide), fun z => absurd z (by decide), fun z0 z1 z2 z3 z4 z5 z6 => absurd rfl z4⟩
    rw [w3, ← xa_om_mb (mr := mr) (mc := mc) o3 o12 (fun m hm hb => (o14 m hm hb).2)]
    refine xl_up (fun i (_ : Unit) => k126 (nI (xa_om mr i)) (nI i) J1 K1 L1) mc (fun _ _ => True) ?_ ?_ 0 () (by omega) trivial
    · intro i _ hi _ ih
      have ih := ih () trivial
      rw [xa_om] at ih
      have hm3 := (o12 i hi).1
      apply r126
      unfold bd_X8_total_126
      rw [e6 1 (by decide), v2]
      refine ⟨fun z => absurd ((xn_le (by omega) (by omega)).mp z) (by omega), fun _ => ⟨vp_in_nI (show i < 3 by omega) (by omega), fun v58 e58 va ea vb eb => ?_⟩⟩
      rw [nI_clamp (by omega), e7 5 (by decide), v7 i hi] at e58
      subst e58
      rw [xn_or2 _ (by omega)] at ea
      rw [nI_1] at eb
      rw [ea, eb]; exact ih
    · intro _ _
      apply r126
      unfold bd_X8_total_126
      rw [e6 1 (by decide), v2]
      exact ⟨fun _ => ⟨rfl, hR1⟩, fun z => absurd ((xn_le (by omega) (by omega)).mpr (by omega)) z⟩
  · subst zx
    intro k85 k126 k155 k185 k193 k250 r85 r126 r155 r185 r193 r250
    unfold bd_X8_total_0
    refine xs_in (s := 5) (a := 0) (b := 7) (by omega) (by omega) (by omega) (fun _ _ => ⟨fun _ => xs_mall hok hT hlt hM.1 vT vl hC hk (fun J1 K1 L1 e1 e2 e3 e4 e5 e6 e7 => ?_), fun y => absurd y (by decide)⟩) (fun y => absurd ⟨by omega, by omega⟩ y)
    have hR1 := hR J1 K1 (fun j hj => e6 j (by omega)) (fun j hj => e7 j (by omega))
    have hK1 := e7 1 (by decide)
    have hK2 := e7 2 (by decide)
    have hK3 := e7 3 (by decide)
    have hK6 := e7 6 (by decide)
    have hJ2 := e6 2 (by decide)
    have hE1 : xe_MP ps op cl hd K1 := ⟨fun p hp hb => by rw [hK1, hK2, hK3]; exact hE.1 p hp hb, fun p hp hb => by rw [hK1, hK3]; exact hE.2 p hp hb⟩
    refine ⟨fun z => absurd z (by decide), fun z => absurd z (by decide), fun z => absurd z (by decide), fun z => absurd z (by decide), fun z => absurd z (by decide), fun _ => ?_, fun z => absurd z (by decide), fun z0 z1 z2 z3 z4 z5 z6 => absurd rfl z5⟩
    rw [xt_sum_ext (n := n) 12 o1 (fun w h1 h2 => by rw [(hlk w h2).2 h1, xt_bc0])]
    refine xl_up (fun i (_ : Unit) => k155 (nI (xt_sum (fun w => xt_bc (lk w) 12) i)) (nI i) J1 K1 L1) n (fun _ _ => True) ?_ ?_ 0 () (by omega) trivial
    · intro i _ hi _ ih
      have ih := ih () trivial
      apply r155
      unfold bd_X8_total_155
      rw [e6 0 (by decide), v1]
      have h256 := xg_256 (hlt i (by omega)) hT
      refine ⟨fun z => absurd ((xn_le (by omega) (by omega)).mp z) (by omega), fun _ => ⟨vp_in_nI (show i < 12 by omega) (by omega), fun v62 e62 => ?_⟩⟩
      rw [nI_clamp (by omega), hK6, vl i (by omega)] at e62
      subst e62
      refine xs_mbits (by omega) (fun va ea vb eb => ?_)
      rw [nI_add] at ea
      rw [nI_1] at eb
      rw [ea, eb]; exact ih
    · intro _ _
      apply r155
      unfold bd_X8_total_155
      rw [e6 0 (by decide), v1]
      exact ⟨fun _ => ⟨rfl, hR1⟩, fun z => absurd ((xn_le (by omega) (by omega)).mpr (by omega)) z⟩
  · subst zx
    intro k85 k126 k155 k185 k193 k250 r85 r126 r155 r185 r193 r250
    unfold bd_X8_total_0
    refine xs_in (s := 6) (a := 0) (b := 7) (by omega) (by omega) (by omega) (fun _ _ => ⟨fun _ => xs_mall hok hT hlt hM.1 vT vl hC hk (fun J1 K1 L1 e1 e2 e3 e4 e5 e6 e7 => ?_), fun y => absurd y (by decide)⟩) (fun y => absurd ⟨by omega, by omega⟩ y)
    have hR1 := hR J1 K1 (fun j hj => e6 j (by omega)) (fun j hj => e7 j (by omega))
    have hK1 := e7 1 (by decide)
    have hK2 := e7 2 (by decide)
    have hK3 := e7 3 (by decide)
    have hK6 := e7 6 (by decide)
    have hJ2 := e6 2 (by decide)
    have hE1 : xe_MP ps op cl hd K1 := ⟨fun p hp hb => by rw [hK1, hK2, hK3]; exact hE.1 p hp hb, fun p hp hb => by rw [hK1, hK3]; exact hE.2 p hp hb⟩
    refine ⟨fun z => absurd z (by decide), fun z => absurd z (by decide), fun z => absurd z (by decide), fun z => absurd z (by decide), fun z => absurd z (by decide), fun z => absurd z (by decide), fun _ => ?_, fun z0 z1 z2 z3 z4 z5 z6 => absurd rfl z6⟩
    rw [xt_ysum]
    obtain ⟨Y, hY⟩ : ∃ Y, Y = xt_y ps (fun p => xg_wf lk (op p) (cl p)) (fun p => xg_wt lk (op p) (cl p)) := ⟨_, rfl⟩
    rw [← hY]
    refine xl_up (fun i (_ : Unit) => k185 (nI (xt_sum (fun p => xt_sum (Y p) p) i)) (nI i) J1 K1 L1) 5 (fun _ _ => True) ?_ ?_ 0 () (by omega) trivial
    · intro p _ hp _ ih
      have ih := ih () trivial
      obtain ⟨s, hs⟩ : ∃ s, s = xt_sum (fun p => xt_sum (Y p) p) p := ⟨_, rfl⟩
      rw [xt_sum, ← hs] at ih
      rw [← hs]
      apply r185
      unfold bd_X8_total_185
      refine ⟨fun z => absurd ((xn_le (a := 5) (by omega) (by omega)).mp z) (by omega), fun _ => ?_⟩
      refine xl_up (fun q (_ : Unit) => k193 (nI (s + xt_sum (Y p) q)) (nI p) (nI q) J1 K1 L1) p (fun _ _ => True) ?_ ?_ 0 () (by omega) trivial
      · intro q _ hq _ ihq
        have ihq := ihq () trivial
        rw [xt_sum] at ihq
        have hYq : Y p q = (ps.testBit p && (ps.testBit q && xt_x (fun p => xg_wf lk (op p) (cl p)) (fun p => xg_wt lk (op p) (cl p)) p q)).toNat := by rw [hY]; rfl
        rw [hYq] at ihq
        apply r193
        unfold bd_X8_total_193
        refine ⟨fun z => absurd ((xn_le (by omega) (by omega)).mp z) (by omega), fun _ => xs_isThere hE1 hp (fun e => ⟨fun z => absurd z (by decide), fun _ => xs_isThere hE1 (show q < 5 by omega) (fun ee => ⟨fun z => absurd z (by decide), fun _ => xs_mcross (by rw [hJ2]; exact vT) (fun w hw => by rw [hK6]; exact vl w hw) hT hlt hE1 hp (by omega) e ee (fun e3 => ⟨fun z => absurd z (by decide), fun _ va ea vb eb => ?_⟩) (fun e3 => ⟨fun _ va ea vb eb => ?_, fun z => absurd rfl z⟩)⟩) (fun ee => ⟨fun _ va ea vb eb => ?_, fun z => absurd rfl z⟩)⟩) (fun e => ⟨fun _ va ea vb eb => ?_, fun z => absurd rfl z⟩)⟩
        · rw [e, ee, e3] at ihq
          rw [nI_1] at ea eb
          rw [ea, eb]; exact ihq
        · rw [e3, Bool.and_false, Bool.and_false] at ihq
          rw [xn_lit0, nI_add] at ea
          rw [nI_1] at eb
          rw [ea, eb]; exact ihq
        · rw [ee, Bool.false_and, Bool.and_false] at ihq
          rw [xn_lit0, nI_add] at ea
          rw [nI_1] at eb
          rw [ea, eb]; exact ihq
        · rw [e, Bool.false_and] at ihq
          rw [xn_lit0, nI_add] at ea
          rw [nI_1] at eb
          rw [ea, eb]; exact ihq
      · intro _ _
        apply r193
        unfold bd_X8_total_193
        refine ⟨fun _ v ev => ?_, fun z => absurd ((xn_le (by omega) (by omega)).mpr (by omega)) z⟩
        rw [ev, nI_1]; exact ih
    · intro _ _
      apply r185
      unfold bd_X8_total_185
      exact ⟨fun _ => ⟨rfl, hR1⟩, fun z => absurd ((xn_le (a := 5) (b := 5) (by omega) (by omega)).mpr (by omega)) z⟩
  · subst zx
    intro k85 k126 k155 k185 k193 k250 r85 r126 r155 r185 r193 r250
    unfold bd_X8_total_0
    refine xs_in (s := 7) (a := 0) (b := 7) (by omega) (by omega) (by omega) (fun _ _ => ⟨fun _ => xs_mall hok hT hlt hM.1 vT vl hC hk (fun J1 K1 L1 e1 e2 e3 e4 e5 e6 e7 => ?_), fun y => absurd y (by decide)⟩) (fun y => absurd ⟨by omega, by omega⟩ y)
    have hR1 := hR J1 K1 (fun j hj => e6 j (by omega)) (fun j hj => e7 j (by omega))
    have hK1 := e7 1 (by decide)
    have hK2 := e7 2 (by decide)
    have hK3 := e7 3 (by decide)
    have hK6 := e7 6 (by decide)
    have hJ2 := e6 2 (by decide)
    have hE1 : xe_MP ps op cl hd K1 := ⟨fun p hp hb => by rw [hK1, hK2, hK3]; exact hE.1 p hp hb, fun p hp hb => by rw [hK1, hK3]; exact hE.2 p hp hb⟩
    refine ⟨fun z => absurd z (by decide), fun z => absurd z (by decide), fun z => absurd z (by decide), fun z => absurd z (by decide), fun z => absurd z (by decide), fun z => absurd z (by decide), fun z => absurd z (by decide), fun _ _ _ _ _ _ _ => ?_⟩
    refine xl_up (fun i (_ : Unit) => k250 (nI (xt_sum (xt_hs ps hd) i)) (nI i) J1 K1 L1) 5 (fun _ _ => True) ?_ ?_ 0 () (by omega) trivial
    · intro i _ hi _ ih
      have ih := ih () trivial
      rw [xt_sum, xt_hs] at ih
      apply r250
      unfold bd_X8_total_250
      refine ⟨fun z => absurd ((xn_le (a := 5) (by omega) (by omega)).mp z) (by omega), fun _ => xs_isThere hE1 hi (fun e => ⟨fun z => absurd z (by decide), fun _ => ⟨vp_in_nI hi (by omega), fun v88 e88 => ?_⟩⟩) (fun e => ⟨fun _ va ea vb eb => ?_, fun z => absurd rfl z⟩)⟩
      · rw [nI_clamp (by omega), (hE1.1 i hi e).2.2.1] at e88
        subst e88
        have := (o8 i hi e).2.2.1
        refine xs_mbits (by omega) (fun va ea vb eb => ?_)
        rw [if_pos e] at ih
        rw [nI_add] at ea
        rw [nI_1] at eb
        rw [ea, eb]; exact ih
      · rw [if_neg (by rw [e]; decide)] at ih
        rw [xn_lit0, nI_add] at ea
        rw [nI_1] at eb
        rw [ea, eb]; exact ih
    · intro _ _
      apply r250
      unfold bd_X8_total_250
      exact ⟨fun _ => ⟨rfl, hR1⟩, fun z => absurd ((xn_le (a := 5) (b := 5) (by omega) (by omega)).mpr (by omega)) z⟩
  · intro k85 k126 k155 k185 k193 k250 r85 r126 r155 r185 r193 r250
    unfold bd_X8_total_0
    have hbad : ∀ w : Nat, w ≤ 7 → x1 ≠ nI w := by
      intro w hw he
      obtain rfl | rfl | rfl | rfl | rfl | rfl | rfl | rfl : w = 0 ∨ w = 1 ∨ w = 2 ∨ w = 3 ∨ w = 4 ∨ w = 5 ∨ w = 6 ∨ w = 7 := by omega
      exacts [z0 he, z1 he, z2 he, z3 he, z4 he, z5 he, z6 he, z7 he]
    exact xs_inx (b := 7) (by omega) hbad ⟨fun y => absurd rfl y, fun _ => ⟨rfl, hR J K (fun _ _ => rfl) (fun _ _ => rfl)⟩⟩
theorem xq_sign {I : xw_I} {F : xw_F} {G : xw_G} {J : xw_I} {K : xw_F} {L : xw_G} (x1 : Int32) (h : xr_R xc_Q I F G J K) : sm_X7_sign x1 I F G (fun r I1 F1 G1 => sm_X8_sign x1 J K L (fun r2 J1 K1 _ => r2 = r ∧ xr_R xc_Q I1 F1 G1 J1 K1 ∧ xr_im K K1)) := by
  unfold sm_X7_sign
  refine xq_car h (fun n ps mb mc oc op cl hd hb mg mr st rk T lk C mv ch I1 F1 G1 hok hT hlk hN hM hfo hC hpl hk hma htx hR => ?_)
  obtain ⟨o1, o2, o3, o4, o5, o6, o7, o8, o9, o10, o11, o12, o13, o14⟩ := id hok
  obtain ⟨⟨v1, v2, v3, v4, v5, v6, v7⟩, vT, vl⟩ := id hM
  have hlt : ∀ w, w < 12 → lk w < 2 ^ T := fun w hw => (hlk w hw).1
  have hmc3 := xa_mc3 o3 o4
  have hsp := xd_span o2 (fun p q hp hq a b => (o9 p q hp hq a b).2) hC (fun p a b hp hab hb => (xd_code_le hp (xg_w8 _ _ _).1 (xg_w8 _ _ _).2 (by omega) (by omega)).2) (by decide) ps o2 (Nat.and_self ps) _ 0 T rfl (by omega) (Nat.le_refl _)
  obtain ⟨hP, hH, -⟩ := xc_P hok hT hsp (xk_gq_rise hk).1
  have hlen := xt_len (ps := ps) (T := T) (mc := mc) (hd := hd) (hb := hb) (fr := xd_fr (C ps 0 T)) (to := xd_to (C ps 0 T)) (mr := mr) (mt := xk_gq ch) hT hmc3
  obtain ⟨l, hl⟩ : ∃ l, l = xt_cat (xt_all ps T mc hd hb (xd_fr (C ps 0 T)) (xd_to (C ps 0 T)) mr (xk_gq ch)) (T + 1) := ⟨_, rfl⟩
  rw [← hl] at hlen htx
  have hgo : ∀ r : Int32, (∀ J2 K2 (P : Int32 → Prop), xt_L (J2 5) (K2 13) l → P r → (¬ x1 = (-1 : Int32) → sm_X8_in x1 (0 : Int32) ((J2 5) - (1 : Int32)) (fun r19 => ((r19 = 0 → P (-6 : Int32)) ∧ (¬ (r19 = 0) → vp_in x1 30 ∧ ∀ v21 : Int32, v21 = K2 13 x1.toNatClampNeg → P v21)))) ∧ (x1 = (-1 : Int32) → P (J2 5))) → sm_X8_sign x1 J K L (fun r2 J1 K1 _ => r2 = r ∧ xr_R xc_Q I1 F1 G1 J1 K1 ∧ xr_im K K1) := by
    intro r hr k11 k32 r11 r32
    unfold bd_X8_sign_0
    refine xs_mall hok hT hlt hM.1 vT vl hC hk (fun J1 K1 L1 e1 e2 e3 e4 e5 e6 e7 J2 eJ2 => ?_)
    have hJ2 : ∀ j, j ≠ 5 → J2 j = J1 j := fun j hj => by rw [eJ2, xw_upn hj]
    have hY : xt_Y ps T mc op cl hd (xd_fr (C ps 0 T)) (xd_to (C ps 0 T)) mr (xk_gq ch) J2 K1 := by
      refine ⟨⟨fun p hp hb => ?_, fun p hp hb => ?_⟩, ⟨?_, ?_⟩, fun p hp hb => e4 p hp, fun i hi => ⟨?_, e5 i hi⟩⟩
      · rw [e7 1 (by decide), e7 2 (by decide), e7 3 (by decide)]
        exact ⟨(v3 p hp hb).1, (v3 p hp hb).2.1, (v3 p hp hb).2.2, (o8 p hp hb).1, by have := (o8 p hp hb).2.1; omega⟩
      · rw [e7 1 (by decide), e7 3 (by decide)]; exact v4 p hp hb
      · rw [hJ2 1 (by decide), e6 1 (by decide)]; exact v2
      · rw [hJ2 2 (by decide), e6 2 (by decide)]; exact vT
      · rw [e7 5 (by decide)]; exact v7 i hi
    refine xs_msign hP hH hY k11 k32 r11 r32 (by rw [eJ2, xw_ups]) (fun J3 K3 hL hf => ?_)
    rw [← hl] at hL
    have hR1 := hR J3 K3 (fun j hj => by rw [hf.1 j (by omega), hJ2 j (by omega), e6 j (by omega)]) (fun j hj => by rw [hf.2 j (by omega), e7 j (by omega)])
    exact hr J3 K3 (fun r2 => r2 = r ∧ xr_R xc_Q I1 F1 G1 J3 K3 ∧ xr_im K K3) hL ⟨rfl, hR1⟩
  refine ⟨fun zx => ⟨fun z => hgo _ (fun J2 K2 P hL hP => ⟨fun _ => ⟨fun _ => ⟨fun _ => hP, fun y => absurd rfl y⟩, fun y => absurd z y⟩, fun y => absurd y zx⟩), fun z => ?_⟩, fun zx => hgo _ (fun J2 K2 P hL hP => ⟨fun y => absurd zx y, fun _ => by rw [hL.1, ← htx.1]; exact hP⟩)⟩
  obtain ⟨i, hi, rfl⟩ := nI_of z
  rw [htx.1]
  refine ⟨fun y => ?_, fun y => ?_⟩
  · have y : i < l.length := (xn_lt hi (by omega)).mp y
    refine ⟨vp_in_nI (show i < 21 by omega) (by omega), fun v ev => ?_⟩
    rw [nI_clamp hi, htx.2 i _ (List.getElem?_eq_getElem y)] at ev
    subst ev
    refine hgo _ (fun J2 K2 P hL hP => ⟨fun _ => ?_, fun w => absurd w zx⟩)
    rw [hL.1, show (1 : Int32) = nI 1 from rfl, xn_sub (by omega)]
    refine xs_in (a := 0) hi (by omega) (by omega) (fun _ _ => ⟨fun w => absurd w (by decide), fun _ => ⟨vp_in_nI (show i < 30 by omega) (by omega), fun v21 e21 => ?_⟩⟩) (fun w => absurd ⟨by omega, by omega⟩ w)
    rw [nI_clamp hi, hL.2 i _ (List.getElem?_eq_getElem y)] at e21
    rw [e21]; exact hP
  · have y : ¬ i < l.length := fun w => y ((xn_lt hi (by omega)).mpr w)
    refine hgo _ (fun J2 K2 P hL hP => ⟨fun _ => ?_, fun w => absurd w zx⟩)
    rw [hL.1]
    by_cases h0 : l.length = 0
    · rw [h0]
      unfold sm_X8_in
      refine ⟨fun w => absurd w (nI_pos hi), fun _ => ⟨fun _ => ⟨fun _ => hP, fun u => absurd rfl u⟩, fun w => ?_⟩⟩
      exact absurd (Int32.lt_of_lt_of_le (show nI 0 - 1 < 0 by decide) ((xn_le (a := 0) (by omega) hi).mpr (by omega))) w
    · rw [show (1 : Int32) = nI 1 from rfl, xn_sub (by omega)]
      exact xs_in (a := 0) hi (by omega) (by omega) (fun _ w => absurd w (by omega)) (fun _ => ⟨fun _ => hP, fun u => absurd rfl u⟩)
