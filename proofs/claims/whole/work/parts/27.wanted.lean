/-! ===== where pairs and marks are wanted: both sides ===== -/
/-- behind the greatest of the first k bits -/
def xg_bg (s : Nat) : Nat → Nat
  | 0 => 0
  | k + 1 => if s.testBit k = true then k + 1 else xg_bg s k
def xg_b (s : Nat) : Nat := xg_bg s 8
/-- the least bit from k on, d of them -/
def xg_lb (s : Nat) : Nat → Nat → Nat
  | _, 0 => 0
  | k, d + 1 => if s.testBit k = true then k else xg_lb s (k + 1) d
def xg_l (s : Nat) : Nat := xg_lb s 0 8
def xg_nr (lk : Nat → Nat) : Nat → Nat
  | 0 => 0
  | j + 1 => if lk j = 0 then xg_nr lk j else lk j
def xg_an (lk : Nat → Nat) (g : Nat) : Nat := xg_b (xg_nr lk g)
def xg_un (lk : Nat → Nat) (a : Nat) : Nat → Nat
  | 0 => 0
  | w + 1 => if a ≤ w then xg_un lk a w ||| lk w else xg_un lk a w
def xg_wf (lk : Nat → Nat) (a b : Nat) : Nat := if xg_un lk a b = 0 then xg_an lk a else xg_l (xg_un lk a b)
def xg_wt (lk : Nat → Nat) (a b : Nat) : Nat := if xg_un lk a b = 0 then xg_an lk a else xg_b (xg_un lk a b)
theorem xg_bg_le (s : Nat) : ∀ k, xg_bg s k ≤ k
  | 0 => Nat.le_refl 0
  | k + 1 => by rw [xg_bg]; split; exact Nat.le_refl _; have := xg_bg_le s k; omega
theorem xg_bg_T {s T : Nat} (h : s < 2 ^ T) : ∀ k, T ≤ k → xg_bg s k = xg_bg s T
  | 0, hk => by rw [show T = 0 by omega]
  | k + 1, hk => by
    by_cases hT : T = k + 1
    · rw [hT]
    · rw [xg_bg, if_neg (by rw [Nat.testBit_lt_two_pow (Nat.lt_of_lt_of_le h (Nat.pow_le_pow_right (by decide) (by omega)))]; decide)]
      exact xg_bg_T h k (by omega)
theorem xg_b_le {s T : Nat} (h : s < 2 ^ T) (hT : T ≤ 8) : xg_b s ≤ T := by
  rw [xg_b, xg_bg_T h 8 hT]; exact xg_bg_le s T
theorem xg_nr_lt {lk : Nat → Nat} {T : Nat} (h : ∀ w, w < 12 → lk w < 2 ^ T) : ∀ g, g ≤ 12 → xg_nr lk g < 2 ^ T
  | 0, _ => Nat.two_pow_pos T
  | g + 1, hg => by rw [xg_nr]; split; exact xg_nr_lt h g (by omega); exact h g (by omega)
theorem xg_un_lt {lk : Nat → Nat} {T a : Nat} (h : ∀ w, w < 12 → lk w < 2 ^ T) : ∀ b, b ≤ 12 → xg_un lk a b < 2 ^ T
  | 0, _ => Nat.two_pow_pos T
  | b + 1, hb => by
    rw [xg_un]; split
    · exact Nat.or_lt_two_pow (xg_un_lt h b (by omega)) (h b (by omega))
    · exact xg_un_lt h b (by omega)
theorem xg_lb_le : ∀ s, s < 256 → xg_l s ≤ xg_b s ∧ (s ≠ 0 → xg_l s < xg_b s) := by decide +kernel
theorem xg_an_le {lk : Nat → Nat} {T g : Nat} (h : ∀ w, w < 12 → lk w < 2 ^ T) (hT : T ≤ 8) (hg : g ≤ 12) : xg_an lk g ≤ T := xg_b_le (xg_nr_lt h g hg) hT
theorem xg_256 {s T : Nat} (h : s < 2 ^ T) (hT : T ≤ 8) : s < 256 := Nat.lt_of_lt_of_le h (Nat.pow_le_pow_right (by decide) hT : 2 ^ T ≤ 2 ^ 8)
theorem xg_w_le {lk : Nat → Nat} {T a b : Nat} (h : ∀ w, w < 12 → lk w < 2 ^ T) (hT : T ≤ 8) (ha : a ≤ 12) (hb : b ≤ 12) : xg_wf lk a b ≤ xg_wt lk a b ∧ xg_wt lk a b ≤ T := by
  unfold xg_wf xg_wt
  split
  · exact ⟨Nat.le_refl _, xg_an_le h hT ha⟩
  · exact ⟨(xg_lb_le _ (xg_256 (xg_un_lt h b hb) hT)).1, xg_b_le (xg_un_lt h b hb) hT⟩
-- the class
theorem xs_linked {lk : Nat → Nat} {a b : Nat} {I : xw_I} {F : xw_F} {G : xw_G} {post : Int32 → Prop} (hl : ∀ w, w < 12 → F 20 w = nI (lk w)) (ha : a ≤ 12) (hb : b ≤ 12) (h : post (nI (xg_un lk a b))) : sm_X3_linkedBetween (nI a) (nI b) I F G post := by
  intro k hk
  refine xl_up (fun i (_ : Unit) => k (nI (xg_un lk a (min i b))) (nI i)) 12 (fun _ _ => True) ?_ ?_ 0 () (by omega) trivial
  · intro i _ hi _ ih
    apply hk
    unfold bd_X3_linkedBetween_5
    refine ⟨fun c => absurd ((xn_le (a := 12) (by omega) (by omega)).mp c) (by omega), fun _ => ⟨fun c => ?_, fun c => ⟨fun c2 => ?_, fun c2 => ?_⟩⟩⟩
    · have c := (xn_lt (by omega) (by omega)).mp c
      intro v ev
      rw [ev, nI_1]
      have := ih () trivial
      by_cases hib : i < b
      · rw [show min (i + 1) b = i + 1 by omega, xg_un, if_neg (by omega)] at this
        rw [show min i b = i by omega]; exact this
      · rw [show min (i + 1) b = b by omega] at this
        rw [show min i b = b by omega]; exact this
    · have c2 := (xn_le (by omega) (by omega)).mp c2
      intro v ev
      rw [ev, nI_1]
      have := ih () trivial
      rw [show min (i + 1) b = b by omega] at this
      rw [show min i b = b by omega]; exact this
    · have c : a ≤ i := Nat.not_lt.mp (fun z => c ((xn_lt (by omega) (by omega)).mpr z))
      have c2 : i < b := Nat.not_le.mp (fun z => c2 ((xn_le (by omega) (by omega)).mpr z))
      refine ⟨vp_in_nI hi (by omega), fun v ev w ew u eu => ?_⟩
      rw [ew, eu, nI_1, ev, nI_clamp (by omega), hl i hi, xb_or]
      have := ih () trivial
      rw [show min (i + 1) b = i + 1 by omega, xg_un, if_pos c] at this
      rw [show min i b = i by omega]; exact this
  · intro _ _
    apply hk
    unfold bd_X3_linkedBetween_5
    exact ⟨fun _ => by rw [show min 12 b = b by omega]; exact h, fun c => absurd ((xn_le (a := 12) (b := 12) (by omega) (by omega)).mpr (by omega)) c⟩
theorem xs_behind {s : Nat} {post : Int32 → Prop} (hs : s < 2 ^ 31) (h : post (nI (xg_b s))) : sm_X3_behindGreatest (nI s) post := by
  intro k hk
  have key : ∀ j, j ≤ 8 → xg_bg s j = xg_b s → (match j with | 0 => k (-1) | i + 1 => k (nI i)) := by
    intro j
    induction j with
    | zero =>
      intro _ e
      apply hk
      unfold bd_X3_behindGreatest_3
      refine ⟨fun _ => ?_, fun c => absurd (by decide) c⟩
      rw [← e] at h; exact h
    | succ i ih =>
      intro hi e
      apply hk
      unfold bd_X3_behindGreatest_3
      refine ⟨fun c => absurd c (nI_pos (by omega)), fun _ => xs_has hs (by omega) (fun hb => ⟨fun _ v ev => ?_, fun c => absurd rfl c⟩) (fun hb => ⟨fun c => absurd c (by decide), fun _ => ?_⟩)⟩
      · rw [xg_bg, if_neg (by rw [hb]; decide)] at e
        have := ih (by omega) e
        cases i with
        | zero => rw [ev]; exact this
        | succ i => rw [ev, xn_dec (by omega)]; exact this
      · rw [xg_bg, if_pos hb] at e
        rw [nI_1, e]; exact h
  exact key 8 (Nat.le_refl _) rfl
theorem xs_least {s : Nat} {post : Int32 → Prop} (hs : s < 2 ^ 31) (h : post (nI (xg_l s))) : sm_X3_least (nI s) post := by
  intro k hk
  have key : ∀ d i, i + d = 8 → xg_lb s i d = xg_l s → k (nI i) := by
    intro d
    induction d with
    | zero =>
      intro i hi e
      apply hk
      unfold bd_X3_least_2
      refine ⟨fun _ => by rw [← e] at h; exact h, fun c => absurd ((xn_le (a := 8) (by omega) (by omega)).mpr (by omega)) c⟩
    | succ d ih =>
      intro i hi e
      apply hk
      unfold bd_X3_least_2
      refine ⟨fun c => absurd ((xn_le (a := 8) (by omega) (by omega)).mp c) (by omega), fun _ => xs_has hs (by omega) (fun hb => ⟨fun _ v ev => ?_, fun c => absurd rfl c⟩) (fun hb => ⟨fun c => absurd c (by decide), fun _ => ?_⟩)⟩
      · rw [xg_lb, if_neg (by rw [hb]; decide)] at e
        rw [ev, nI_1]; exact ih (i + 1) (by omega) e
      · rw [xg_lb, if_pos hb] at e
        rw [e]; exact h
  exact key 8 0 rfl rfl
theorem xs_anchor {lk : Nat → Nat} {T g : Nat} {I : xw_I} {F : xw_F} {G : xw_G} {post : Int32 → Prop} (hl : ∀ w, w < 12 → F 20 w = nI (lk w)) (hT : T ≤ 8) (hlt : ∀ w, w < 12 → lk w < 2 ^ T) (hg : g ≤ 12) (h : post (nI (xg_an lk g))) : sm_X3_anchor (nI g) I F G post := by
  intro k hk
  refine xl_up (fun i (_ : Unit) => k (nI (xg_nr lk (min i g))) (nI i)) 12 (fun _ _ => True) ?_ ?_ 0 () (by omega) trivial
  · intro i _ hi _ ih
    apply hk
    unfold bd_X3_anchor_4
    have h256 := xg_256 (hlt i hi) hT
    refine ⟨fun c => absurd ((xn_le (a := 12) (by omega) (by omega)).mp c) (by omega), fun _ => ⟨fun c => ?_, fun c => ?_⟩⟩
    · have c := (xn_le (by omega) (by omega)).mp c
      intro v ev
      rw [ev, nI_1]
      have := ih () trivial
      rw [show min (i + 1) g = g by omega] at this
      rw [show min i g = g by omega]; exact this
    · have c : i < g := Nat.not_le.mp (fun z => c ((xn_le (by omega) (by omega)).mpr z))
      refine ⟨vp_in_nI hi (by omega), fun v ev => ?_⟩
      rw [nI_clamp (by omega), hl i hi] at ev
      have := ih () trivial
      rw [show min (i + 1) g = i + 1 by omega, xg_nr] at this
      rw [show min i g = i by omega]
      refine ⟨fun z w ew => ?_, fun z => ⟨vp_in_nI hi (by omega), fun w ew u eu => ?_⟩⟩
      · rw [ev] at z
        have z : lk i = 0 := (xn_eq (b := 0) (by omega) (by omega)).mp z
        rw [if_pos z] at this
        rw [ew, nI_1]; exact this
      · have z : lk i ≠ 0 := fun y => z (by rw [ev, y]; rfl)
        rw [if_neg z] at this
        rw [ew, eu, nI_1, nI_clamp (by omega), hl i hi]; exact this
  · intro _ _
    apply hk
    unfold bd_X3_anchor_4
    refine ⟨fun _ => ?_, fun c => absurd ((xn_le (a := 12) (b := 12) (by omega) (by omega)).mpr (by omega)) c⟩
    rw [show min 12 g = g by omega]
    have := xg_256 (xg_nr_lt hlt g hg) hT
    exact xs_behind (by omega) h
-- the reference
theorem xs_manchor {lk : Nat → Nat} {T g : Nat} {I : xw_I} {F : xw_F} {G : xw_G} {post : Int32 → Prop} (hI : I 2 = nI T) (hl : ∀ w, w < 12 → F 6 w = nI (lk w)) (hT : T ≤ 8) (hlt : ∀ w, w < 12 → lk w < 2 ^ T) (hg : g ≤ 12) (h : post (nI (xg_an lk g))) : sm_X8_anchor (nI g) I F G post := by
  intro k4 k15 r4 r15
  have key : ∀ j, j ≤ 12 → xg_an lk j = xg_an lk g → (match j with | 0 => k4 (-1) | i + 1 => k4 (nI i)) := by
    intro j
    induction j with
    | zero =>
      intro _ e
      apply r4
      unfold bd_X8_anchor_4
      refine ⟨fun _ => ?_, fun c => absurd (by decide) c⟩
      rw [← e, show xg_an lk 0 = 0 from (by unfold xg_an xg_nr; decide)] at h; exact h
    | succ i ih =>
      intro hi e
      have h256 := xg_256 (hlt i (by omega)) hT
      have hnext : lk i = 0 → ∀ v : Int32, v = nI i + (-1) → k4 v := by
        intro z v ev
        rw [xg_an, xg_nr, if_pos z] at e
        have := ih (by omega) e
        cases i with
        | zero => rw [ev]; exact this
        | succ i => rw [ev, xn_dec (by omega)]; exact this
      have inner : ∀ t, t ≤ T → xg_bg (lk i) t = xg_bg (lk i) T → (match t with | 0 => k15 (nI i) (-1) | q + 1 => k15 (nI i) (nI q)) := by
        intro t
        induction t with
        | zero =>
          intro _ e2
          apply r15
          unfold bd_X8_anchor_15
          refine ⟨fun _ => hnext ?_, fun c => absurd (by decide) c⟩
          have hz : xg_b (lk i) = 0 := by rw [xg_b, xg_bg_T (hlt i (by omega)) 8 hT, ← e2]; rfl
          have := xg_lb_le (lk i) h256
          rw [hz] at this
          exact Decidable.byContradiction (fun y => by have := this.2 y; omega)
        | succ q ih2 =>
          intro hq e2
          apply r15
          unfold bd_X8_anchor_15
          refine ⟨fun c => absurd c (nI_pos (by omega)), fun _ => ⟨vp_in_nI (by omega) (by omega), fun v ev => ?_⟩⟩
          rw [nI_clamp (by omega), hl i (by omega)] at ev
          subst ev
          rw [xb_bit (by omega) (by omega), xn_b1]
          refine ⟨fun z w ew => ?_, fun z => ?_⟩
          · rw [xg_bg, if_neg z] at e2
            have := ih2 (by omega) e2
            cases q with
            | zero => rw [ew]; exact this
            | succ q => rw [ew, xn_dec (by omega)]; exact this
          · rw [xg_bg, if_pos z] at e2
            have hne : lk i ≠ 0 := fun y => by rw [y] at z; simp at z
            rw [xg_an, xg_nr, if_neg hne, xg_b, xg_bg_T (hlt i (by omega)) 8 hT, ← e2] at e
            rw [nI_1, e]; exact h
      apply r4
      unfold bd_X8_anchor_4
      refine ⟨fun c => absurd c (nI_pos (by omega)), fun _ v ev => ?_⟩
      have := inner T (Nat.le_refl _) rfl
      rw [hI] at ev
      cases T with
      | zero => rw [ev]; exact this
      | succ T => rw [ev, nI_pred]; exact this
  unfold bd_X8_anchor_0
  intro v ev
  have := key g hg rfl
  cases g with
  | zero => rw [ev]; exact this
  | succ g => rw [ev, nI_pred]; exact this
theorem xs_linksOf {lk : Nat → Nat} {p a b : Nat} {I : xw_I} {F : xw_F} {G : xw_G} {post : Int32 → Prop} (hl : ∀ w, w < 12 → F 6 w = nI (lk w)) (hp : p < 5) (h1 : F 1 p = nI a) (h2 : F 2 p = nI b) (hab : a ≤ b) (hb : b ≤ 12) (h : post (nI (xg_un lk a b))) : sm_X8_linksOf (nI p) I F G post := by
  intro k hk
  have hin := vp_in_nI hp (show 5 < 2 ^ 31 by omega)
  have hz : ∀ j, j ≤ a → xg_un lk a j = 0 := by
    intro j
    induction j with
    | zero => intro _; rfl
    | succ j ih => intro hj; rw [xg_un, if_neg (by omega)]; exact ih (by omega)
  have key : ∀ d i, a ≤ i → i + d = b → k (nI (xg_un lk a i)) (nI i) := by
    intro d
    induction d with
    | zero =>
      intro i hi e
      apply hk
      unfold bd_X8_linksOf_9
      refine ⟨hin, fun v ev => ?_⟩
      rw [nI_clamp (by omega), h2] at ev
      rw [ev]
      exact ⟨fun _ => by rw [show i = b by omega]; exact h, fun c => absurd ((xn_le (by omega) (by omega)).mpr (by omega)) c⟩
    | succ d ih =>
      intro i hi e
      apply hk
      unfold bd_X8_linksOf_9
      refine ⟨hin, fun v ev => ?_⟩
      rw [nI_clamp (by omega), h2] at ev
      rw [ev]
      refine ⟨fun c => absurd ((xn_le (by omega) (by omega)).mp c) (by omega), fun _ => ⟨vp_in_nI (by omega) (by omega), fun w ew u eu x ex => ?_⟩⟩
      rw [nI_clamp (by omega), hl i (by omega)] at ew
      rw [eu, ex, ew, nI_1, xb_or]
      have := ih (i + 1) (by omega) (by omega)
      rw [xg_un, if_pos hi] at this
      exact this
  unfold bd_X8_linksOf_0
  refine ⟨hin, fun v ev => ?_⟩
  rw [nI_clamp (by omega), h1] at ev
  rw [ev]
  have := key (b - a) a (Nat.le_refl _) (by omega)
  rw [hz a (Nat.le_refl _)] at this
  exact this
theorem xs_mwf {lk : Nat → Nat} {T p a b : Nat} {I : xw_I} {F : xw_F} {G : xw_G} {post : Int32 → Prop} (hI : I 2 = nI T) (hl : ∀ w, w < 12 → F 6 w = nI (lk w)) (hT : T ≤ 8) (hlt : ∀ w, w < 12 → lk w < 2 ^ T) (hp : p < 5) (h1 : F 1 p = nI a) (h2 : F 2 p = nI b) (hab : a ≤ b) (hb : b ≤ 12) (h : post (nI (xg_wf lk a b))) : sm_X8_wantedFrom (nI p) I F G post := by
  intro k hk
  unfold bd_X8_wantedFrom_0
  have hu := xg_256 (xg_un_lt (a := a) hlt b hb) hT
  refine xs_linksOf hl hp h1 h2 hab hb ⟨fun z => ?_, fun z => ⟨vp_in_nI hp (by omega), fun v ev => ?_⟩⟩
  · have z : xg_un lk a b ≠ 0 := fun y => z (by rw [y]; rfl)
    rw [xg_wf, if_neg z] at h
    have key : ∀ d i, i + d = 8 → (∀ q, q < i → (xg_un lk a b).testBit q = false) → xg_lb (xg_un lk a b) i d = xg_l (xg_un lk a b) → k (nI (xg_un lk a b)) (nI i) := by
      intro d
      induction d with
      | zero =>
        intro i hi hq _
        exfalso
        apply z
        apply Nat.eq_of_testBit_eq
        intro q
        rw [Nat.zero_testBit]
        by_cases hq8 : q < i
        · exact hq q hq8
        · exact Nat.testBit_lt_two_pow (Nat.lt_of_lt_of_le hu (Nat.pow_le_pow_right (by decide) (by omega) : 2 ^ 8 ≤ 2 ^ q))
      | succ d ih =>
        intro i hi hq e
        apply hk
        unfold bd_X8_wantedFrom_23
        rw [xb_bit (by omega) (by omega)]
        refine ⟨fun y => ?_, fun y => ?_⟩
        · have y : (xg_un lk a b).testBit i = true := by
            cases hb : (xg_un lk a b).testBit i
            · rw [hb] at y; exact absurd rfl y
            · rfl
          rw [xg_lb, if_pos y] at e
          rw [e]; exact h
        · have y : (xg_un lk a b).testBit i = false := by
            cases hb : (xg_un lk a b).testBit i
            · rfl
            · rw [hb] at y; exact absurd y (by decide)
          intro v ev
          rw [ev, nI_1]
          rw [xg_lb, if_neg (by rw [y]; decide)] at e
          refine ih (i + 1) (by omega) (fun q hq2 => ?_) e
          by_cases hqi : q = i
          · rw [hqi]; exact y
          · exact hq q (by omega)
    exact key 8 0 rfl (fun q hq => by omega) rfl
  · rw [nI_clamp (by omega), h1] at ev
    have z : xg_un lk a b = 0 := (xn_eq (b := 0) (by omega) (by omega)).mp z
    rw [xg_wf, if_pos z] at h
    rw [ev]
    exact xs_manchor hI hl hT hlt (by omega) h
theorem xs_mwt {lk : Nat → Nat} {T p a b : Nat} {I : xw_I} {F : xw_F} {G : xw_G} {post : Int32 → Prop} (hI : I 2 = nI T) (hl : ∀ w, w < 12 → F 6 w = nI (lk w)) (hT : T ≤ 8) (hlt : ∀ w, w < 12 → lk w < 2 ^ T) (hp : p < 5) (h1 : F 1 p = nI a) (h2 : F 2 p = nI b) (hab : a ≤ b) (hb : b ≤ 12) (h : post (nI (xg_wt lk a b))) : sm_X8_wantedTo (nI p) I F G post := by
  intro k hk
  unfold bd_X8_wantedTo_0
  have hut := xg_un_lt (a := a) hlt b hb
  have hu := xg_256 hut hT
  refine xs_linksOf hl hp h1 h2 hab hb ⟨fun z v ev => ?_, fun z => ⟨vp_in_nI hp (by omega), fun v ev => ?_⟩⟩
  · have z : xg_un lk a b ≠ 0 := fun y => z (by rw [y]; rfl)
    rw [xg_wt, if_neg z, xg_b, xg_bg_T hut 8 hT] at h
    have key : ∀ t, t ≤ T → xg_bg (xg_un lk a b) t = xg_bg (xg_un lk a b) T → k (nI (xg_un lk a b)) (nI t) := by
      intro t
      induction t with
      | zero =>
        intro _ e
        exfalso
        have := xg_lb_le _ hu
        rw [xg_b, xg_bg_T hut 8 hT, ← e, xg_bg] at this
        have := this.2 z
        omega
      | succ t ih =>
        intro ht e
        apply hk
        unfold bd_X8_wantedTo_26
        rw [nI_pred, xb_bit (by omega) (by omega)]
        refine ⟨fun y => ?_, fun y => ?_⟩
        · have y : (xg_un lk a b).testBit t = true := by
            cases hb : (xg_un lk a b).testBit t
            · rw [hb] at y; exact absurd rfl y
            · rfl
          rw [xg_bg, if_pos y] at e
          rw [e]; exact h
        · have y : (xg_un lk a b).testBit t = false := by
            cases hb : (xg_un lk a b).testBit t
            · rfl
            · rw [hb] at y; exact absurd y (by decide)
          intro v ev
          rw [ev, xn_dec (by omega)]
          rw [xg_bg, if_neg (by rw [y]; decide)] at e
          exact ih (by omega) e
    rw [ev, hI]
    exact key T (Nat.le_refl _) rfl
  · rw [nI_clamp (by omega), h1] at ev
    have z : xg_un lk a b = 0 := (xn_eq (b := 0) (by omega) (by omega)).mp z
    rw [xg_wt, if_pos z] at h
    rw [ev]
    exact xs_manchor hI hl hT hlt (by omega) h
/-- which pairs are missing, of the first k -/
def xg_ms (lk : Nat → Nat) (ps : Nat) (op cl : Nat → Nat) : Nat → Nat
  | 0 => 0
  | p + 1 => if ps.testBit p = true ∧ xg_un lk (op p) (cl p) = 0 then xg_ms lk ps op cl p ||| 2 ^ p else xg_ms lk ps op cl p
/-- what find leaves behind -/
def xw_found (lk : Nat → Nat) (I : xw_I) (F : xw_F) : xa_R → Prop
  | (_, ps, mb, _, _, op, cl, _, _, mg, _, _, _) => I 13 = nI (xg_ms lk ps op cl 5) ∧
    (∀ p, p < 5 → ps.testBit p = true → F 22 p = nI (xg_wf lk (op p) (cl p)) ∧ F 23 p = nI (xg_wt lk (op p) (cl p))) ∧ (∀ m, m < 3 → mb.testBit m = true → F 24 m = nI (xg_an lk (mg m)))
theorem xs_findPair {lk : Nat → Nat} {T p a b : Nat} {I : xw_I} {F : xw_F} {G : xw_G} {post : xw_I → xw_F → xw_G → Prop} (hl : ∀ w, w < 12 → F 20 w = nI (lk w)) (hT : T ≤ 8) (hlt : ∀ w, w < 12 → lk w < 2 ^ T) (hp : p < 5) (h1 : F 13 p = nI a) (h2 : F 14 p = nI b) (hab : a ≤ b) (hb : b ≤ 12)
    (h : ∀ I1 F1, I1 13 = (if xg_un lk a b = 0 then I 13 ||| nI (2 ^ p) else I 13) → (∀ j, j ≠ 13 → I1 j = I j) → F1 22 p = nI (xg_wf lk a b) → F1 23 p = nI (xg_wt lk a b) → (∀ q, q ≠ p → F1 22 q = F 22 q ∧ F1 23 q = F 23 q) → (∀ j, j ≠ 22 → j ≠ 23 → F1 j = F j) → post I1 F1 G) : sm_X5_findPair (nI p) I F G post := by
  have hin := vp_in_nI hp (show 5 < 2 ^ 31 by omega)
  have hu := xg_256 (xg_un_lt (a := a) hlt b hb) hT
  have hcp : (nI p).toNatClampNeg = p := nI_clamp (by omega)
  unfold sm_X5_findPair
  refine ⟨hin, fun v ev => ⟨hin, fun w ew => ?_⟩⟩
  rw [hcp, h1] at ev
  rw [hcp, h2] at ew
  subst ev ew
  refine xs_linked hl (by omega) hb ⟨fun z => ?_, fun z I1 eI1 => ?_⟩
  · have z : xg_un lk a b ≠ 0 := fun y => z (by rw [y]; rfl)
    refine xs_least (by omega) ⟨hin, fun F1 eF1 => ?_⟩
    refine xs_behind (by omega) ⟨hin, fun F2 eF2 => ?_⟩
    rw [hcp] at eF1 eF2
    refine h I F2 (by rw [if_neg z]) (fun _ _ => rfl) ?_ ?_ ?_ ?_
    · rw [eF2, xw_upn (by decide), eF1, xw_ups, xb_updi, if_pos rfl, xg_wf, if_neg z]
    · rw [eF2, xw_ups, xb_updi, if_pos rfl, xg_wt, if_neg z]
    · intro q hq
      rw [eF2, xw_upn (by decide), xw_ups, xb_updi, if_neg hq, eF1, xw_ups, xb_updi, if_neg hq, xw_upn (by decide)]; exact ⟨rfl, rfl⟩
    · intro j a b; rw [eF2, xw_upn b, eF1, xw_upn a]
  · have z : xg_un lk a b = 0 := (xn_eq (b := 0) (by omega) (by omega)).mp z
    refine xs_anchor hl hT hlt (by omega) ⟨hin, fun F1 eF1 => ⟨hin, fun v ev => ⟨hin, fun F2 eF2 => ?_⟩⟩⟩
    rw [hcp] at eF1 ev eF2
    rw [xb_shl p (by omega)] at eI1
    rw [eF1, xw_ups, xb_updi, if_pos rfl] at ev
    refine h I1 F2 (by rw [if_pos z, eI1, xw_ups]) (fun j hj => by rw [eI1, xw_upn hj]) ?_ ?_ ?_ ?_
    · rw [eF2, xw_upn (by decide), eF1, xw_ups, xb_updi, if_pos rfl, xg_wf, if_pos z]
    · rw [eF2, xw_ups, xb_updi, if_pos rfl, ev, xg_wt, if_pos z]
    · intro q hq
      rw [eF2, xw_upn (by decide), xw_ups, xb_updi, if_neg hq, eF1, xw_ups, xb_updi, if_neg hq, xw_upn (by decide)]; exact ⟨rfl, rfl⟩
    · intro j a b; rw [eF2, xw_upn b, eF1, xw_upn a]
theorem xs_find {lk : Nat → Nat} {T : Nat} {A : xa_R} {I : xw_I} {F : xw_F} {G : xw_G} {post : xw_I → xw_F → xw_G → Prop} (hok : xa_ok A) (hN : xe_N I F A) (hl : ∀ w, w < 12 → F 20 w = nI (lk w)) (hT : T ≤ 8) (hlt : ∀ w, w < 12 → lk w < 2 ^ T)
    (h : ∀ I1 F1, xw_found lk I1 F1 A → (∀ j, j ≠ 13 → I1 j = I j) → (∀ j, j < 22 ∨ 24 < j → F1 j = F j) → post I1 F1 G) : sm_X5_find I F G post := by
  obtain ⟨n, ps, mb, mc, oc, op, cl, hd, hb, mg, mr, st, rk⟩ := A
  obtain ⟨o1, o2, o3, o4, o5, o6, o7, o8, o9, o10, o11, o12, o13, o14⟩ := hok
  obtain ⟨e1, e2, e3, e4, e5, e6, e7⟩ := hN
  intro k7 k40 r7 r40
  unfold bd_X5_find_0
  intro I0 eI0
  refine xl_up (fun i (S : xw_I × xw_F) => k7 (nI i) S.1 S.2 G) 5 (fun i S => S.1 13 = nI (xg_ms lk ps op cl i) ∧ (∀ p, p < i → ps.testBit p = true → S.2 22 p = nI (xg_wf lk (op p) (cl p)) ∧ S.2 23 p = nI (xg_wt lk (op p) (cl p))) ∧ (∀ j, j ≠ 13 → S.1 j = I j) ∧ ∀ j, j < 22 ∨ 23 < j → S.2 j = F j) ?_ ?_ 0 (I0, F) (by omega) ⟨by dsimp only; rw [eI0, xw_ups]; rfl, fun p hp => by omega, fun j hj => by dsimp only; rw [eI0, xw_upn hj], fun _ _ => rfl⟩
  · rintro i ⟨I1, F1⟩ hi ⟨v1, v2, v3, v4⟩ ih
    dsimp only at v1 v2 v3 v4 ⊢
    apply r7
    unfold bd_X5_find_7
    refine ⟨fun c => absurd ((xn_le (a := 5) (by omega) (by omega)).mp c) (by omega), fun _ => ?_⟩
    rw [v3 8 (by decide), e2]
    refine xs_has (by omega) (by omega) (fun hb0 => ⟨fun _ v ev => ?_, fun c => absurd rfl c⟩) (fun hb1 => ⟨fun c => absurd c (by decide), fun _ => ?_⟩)
    · rw [ev, nI_1]
      refine ih (I1, F1) ⟨?_, fun p hp hpb => ?_, v3, v4⟩
      · rw [xg_ms, if_neg (fun y => by rw [hb0] at y; cases y.1)]; exact v1
      · by_cases hpi : p = i
        · rw [hpi, hb0] at hpb; cases hpb
        · exact v2 p (by omega) hpb
    · obtain ⟨b1, b2, b3, b4⟩ := e5 i hi hb1
      obtain ⟨c1, c2, c3, c4, c5⟩ := o8 i hi hb1
      refine xs_findPair (fun w hw => by rw [v4 20 (by omega)]; exact hl w hw) hT hlt hi (by rw [v4 13 (by omega)]; exact b1) (by rw [v4 14 (by omega)]; exact b2) c1 (by omega) (fun I2 F2 w1 w2 w3 w4 w5 w6 => ?_)
      intro v ev
      rw [ev, nI_1]
      refine ih (I2, F2) ⟨?_, fun p hp hpb => ?_, fun j hj => (w2 j hj).trans (v3 j hj), fun j hj => (w6 j (by omega) (by omega)).trans (v4 j hj)⟩
      · dsimp only
        rw [w1, v1, xg_ms]
        by_cases hz : xg_un lk (op i) (cl i) = 0
        · rw [if_pos hz, if_pos ⟨hb1, hz⟩, xb_or]
        · rw [if_neg hz, if_neg (fun y => hz y.2)]
      · dsimp only
        by_cases hpi : p = i
        · subst hpi; exact ⟨w3, w4⟩
        · rw [(w5 p hpi).1, (w5 p hpi).2]; exact v2 p (by omega) hpb
  · rintro ⟨I1, F1⟩ ⟨v1, v2, v3, v4⟩
    dsimp only at v1 v2 v3 v4 ⊢
    apply r7
    unfold bd_X5_find_7
    refine ⟨fun _ => ?_, fun c => absurd ((xn_le (a := 5) (b := 5) (by omega) (by omega)).mpr (by omega)) c⟩
    refine xl_up (fun i Fs => k40 (nI i) I1 Fs G) 3 (fun i Fs => (∀ p, p < 5 → ps.testBit p = true → Fs 22 p = nI (xg_wf lk (op p) (cl p)) ∧ Fs 23 p = nI (xg_wt lk (op p) (cl p))) ∧ (∀ m, m < i → mb.testBit m = true → Fs 24 m = nI (xg_an lk (mg m))) ∧ ∀ j, j < 22 ∨ 24 < j → Fs j = F j) ?_ ?_ 0 F1 (by omega) ⟨v2, fun m hm => by omega, fun j hj => v4 j (by omega)⟩
    · intro i Fs hi hw ih
      apply r40
      unfold bd_X5_find_40
      refine ⟨fun c => absurd ((xn_le (a := 3) (by omega) (by omega)).mp c) (by omega), fun _ => ?_⟩
      rw [v3 9 (by decide), e3]
      refine xs_has (by omega) (by omega) (fun hb0 => ⟨fun _ v ev => ?_, fun c => absurd rfl c⟩) (fun hb1 => ⟨fun c => absurd c (by decide), fun _ => ⟨vp_in_nI hi (by omega), fun v ev => ?_⟩⟩)
      · rw [ev, nI_1]
        refine ih Fs ⟨hw.1, fun m hm hmb => ?_, hw.2.2⟩
        by_cases hmi : m = i
        · rw [hmi, hb0] at hmb; cases hmb
        · exact hw.2.1 m (by omega) hmb
      · rw [nI_clamp (by omega), hw.2.2 17 (by omega), e6 i hi hb1] at ev
        subst ev
        have hg := (o14 i hi hb1).1
        refine xs_anchor (fun w hw2 => by rw [hw.2.2 20 (by omega)]; exact hl w hw2) hT hlt (by omega) ⟨vp_in_nI hi (by omega), fun F2 eF2 u eu => ?_⟩
        rw [nI_clamp (by omega)] at eF2
        rw [eu, nI_1]
        refine ih F2 ⟨fun p hp hpb => ?_, fun m hm hmb => ?_, fun j hj => ?_⟩
        · rw [eF2, xw_upn (by decide), xw_upn (by decide)]; exact hw.1 p hp hpb
        · rw [eF2, xw_ups, xb_updi]
          by_cases hmi : m = i
          · subst hmi; rw [if_pos rfl]
          · rw [if_neg hmi]; exact hw.2.1 m (by omega) hmb
        · rw [eF2, xw_upn (by omega)]; exact hw.2.2 j hj
    · intro Fs hw
      apply r40
      unfold bd_X5_find_40
      refine ⟨fun _ => ?_, fun c => absurd ((xn_le (a := 3) (b := 3) (by omega) (by omega)).mpr (by omega)) c⟩
      exact h I1 Fs ⟨v1, hw.1, hw.2.1⟩ v3 hw.2.2
