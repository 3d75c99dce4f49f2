/-! ===== one gap, and all gaps, of the class ===== -/
def xt_set (P : Nat → Bool) : Nat → Nat
  | 0 => 0
  | k + 1 => if P k = true then xt_set P k ||| 2 ^ k else xt_set P k
theorem xt_set_bit (P : Nat → Bool) (p : Nat) : ∀ k, (xt_set P k).testBit p = (decide (p < k) && P p)
  | 0 => by rw [xt_set, Nat.zero_testBit]; simp
  | k + 1 => by
    rw [xt_set]
    by_cases h : P k = true
    · rw [if_pos h, xa_bit_or, xt_set_bit P p k]
      by_cases hk : k = p
      · subst hk; simp [h]
      · have : decide (p < k + 1) = decide (p < k) := decide_eq_decide.mpr (by omega)
        rw [this, decide_eq_false hk, Bool.or_false]
    · rw [if_neg h, xt_set_bit P p k]
      by_cases hk : k = p
      · subst hk; simp [h]
      · have : decide (p < k + 1) = decide (p < k) := decide_eq_decide.mpr (by omega)
        rw [this]
theorem xt_set_lt (P : Nat → Bool) : ∀ k, xt_set P k < 2 ^ k
  | 0 => by show 0 < 2 ^ 0; decide
  | k + 1 => by
    have h := xt_set_lt P k
    rw [xt_set]
    split
    · exact Nat.or_lt_two_pow (by rw [Nat.pow_succ]; omega) (Nat.pow_lt_pow_right (by decide) (by omega))
    · rw [Nat.pow_succ]; omega
theorem xt_set5 (P : Nat → Bool) : xt_set P 5 < 32 := xt_set_lt P 5
theorem xt_set5b (P : Nat → Bool) {p : Nat} (hp : p < 5) : (xt_set P 5).testBit p = P p := by rw [xt_set_bit, decide_eq_true hp, Bool.true_and]
/-- all that one of a set holds -/
def xt_hd (hd : Nat → Nat) (S : Nat) : Nat → Nat
  | 0 => 0
  | k + 1 => if S.testBit k = true then xt_hd hd S k ||| hd k else xt_hd hd S k
theorem xt_hd_lt {hd : Nat → Nat} {S : Nat} (h : ∀ p, p < 5 → S.testBit p = true → hd p < 32) : ∀ k, k ≤ 5 → xt_hd hd S k < 32
  | 0, _ => by show 0 < 32; decide
  | k + 1, hk => by
    rw [xt_hd]
    have h1 := xt_hd_lt h k (by omega)
    split
    · rename_i hb; exact Nat.or_lt_two_pow (n := 5) h1 (h k (by omega) hb)
    · exact h1
theorem xt_held {ps S : Nat} {hd : Nat → Nat} {I : xw_I} {F : xw_F} {G : xw_G} {post : Int32 → Prop} (hF : ∀ p, p < 5 → ps.testBit p = true → F 15 p = nI (hd p)) (hS : S < 32) (hsp : ∀ p, p < 5 → S.testBit p = true → ps.testBit p = true) (h : post (nI (xt_hd hd S 5))) : sm_X6_heldByAny (nI S) I F G post := by
  intro k hk
  refine xl_up (fun i (_ : Unit) => k (nI (xt_hd hd S i)) (nI i)) 5 (fun _ _ => True) ?_ ?_ 0 () (by omega) trivial
  · intro i _ hi _ ih
    have ih := ih () trivial
    apply hk
    unfold bd_X6_heldByAny_4
    refine ⟨fun z => absurd ((xn_le (a := 5) (by omega) (by omega)).mp z) (by omega), fun _ => xs_has (by omega) (by omega) (fun e => ⟨fun _ v ev => ?_, fun z => absurd rfl z⟩) (fun e => ⟨fun z => absurd z (by decide), fun _ => ⟨vp_in_nI hi (by omega), fun v11 e11 v12 e12 v13 e13 => ?_⟩⟩)⟩
    · rw [ev, nI_1]
      rw [xt_hd, if_neg (by rw [e]; decide)] at ih
      exact ih
    · rw [nI_clamp (by omega), hF i hi (hsp i hi e)] at e11
      rw [e11, xb_or] at e12
      rw [nI_1] at e13
      rw [e12, e13]
      rw [xt_hd, if_pos e] at ih
      exact ih
  · intro _ _
    apply hk
    unfold bd_X6_heldByAny_4
    exact ⟨fun _ => h, fun z => absurd ((xn_le (a := 5) (b := 5) (by omega) (by omega)).mpr (by omega)) z⟩
def xt_mk (mr mt : Nat → Nat) (g i : Nat) : List Nat := if mt i = g then [120 + mr i] else []
theorem xt_addMarks {mc g : Nat} {mr mt : Nat → Nat} {l : List Nat} {I : xw_I} {F : xw_F} {G : xw_G} {post : xw_I → xw_F → xw_G → Prop} (hmc : mc ≤ 3) (hg : g ≤ 8) (hI : I 10 = nI mc) (hm : ∀ i, i < mc → F 18 i = nI (mr i) ∧ mr i < 3 ∧ F 33 (mr i) = nI (mt i) ∧ mt i ≤ 8) (hL : xt_L (I 17) (F 37) l) (hb : l.length + (xt_cat (xt_mk mr mt g) mc).length ≤ 21)
    (h : ∀ I1 F1, xt_L (I1 17) (F1 37) (l ++ xt_cat (xt_mk mr mt g) mc) → xt_fs I I1 F F1 → post I1 F1 G) : sm_X6_addMarks (nI g) I F G post := by
  intro k hk
  refine xl_up (fun i (s : xw_I × xw_F) => k (nI i) s.1 s.2 G) mc (fun i s => xt_L (s.1 17) (s.2 37) (l ++ xt_cat (xt_mk mr mt g) i) ∧ xt_fs I s.1 F s.2) ?_ ?_ 0 (I, F) (by omega) ⟨by rw [xt_cat, List.append_nil]; exact hL, xt_fs.rf⟩
  · intro i s hi h12 ih
    obtain ⟨h1, h2⟩ := h12
    obtain ⟨m1, m2, m3, m4⟩ := hm i hi
    apply hk
    unfold bd_X6_addMarks_3
    rw [h2.1 10 (by decide), hI]
    refine ⟨fun z => absurd ((xn_le (by omega) (by omega)).mp z) (by omega), fun _ => ⟨vp_in_nI (show i < 3 by omega) (by omega), fun v8 e8 => ?_⟩⟩
    rw [nI_clamp (by omega), h2.2 18 (by decide), m1] at e8
    subst e8
    refine ⟨vp_in_nI m2 (by omega), fun v9 e9 => ?_⟩
    rw [nI_clamp (by omega), h2.2 33 (by decide), m3] at e9
    subst e9
    refine ⟨fun z v ev => ?_, fun z => ?_⟩
    · rw [ev, nI_1]
      exact ih s ⟨by rw [xt_cat, xt_mk, if_neg (fun x => z (by rw [x])), List.append_nil]; exact h1, h2⟩
    · have z : mt i = g := (xn_eq (by omega) (by omega)).mp z
      have hlen := xt_cat_le (xt_mk mr mt g) (show i + 1 ≤ mc by omega)
      have hc : xt_cat (xt_mk mr mt g) (i + 1) = xt_cat (xt_mk mr mt g) i ++ [120 + mr i] := by rw [xt_cat, xt_mk, if_pos z]
      have hlen2 : (xt_cat (xt_mk mr mt g) (i + 1)).length = (xt_cat (xt_mk mr mt g) i).length + 1 := by rw [hc, List.length_append]; rfl
      rw [xn_120]
      refine xt_add (by rw [List.length_append]; omega) h1 (fun I1 F1 g1 g2 v ev => ?_)
      rw [ev, nI_1]
      exact ih (I1, F1) ⟨by rw [hc, ← List.append_assoc]; exact g1, h2.tr g2⟩
  · intro s h12
    apply hk
    unfold bd_X6_addMarks_3
    rw [h12.2.1 10 (by decide), hI]
    exact ⟨fun _ => h s.1 s.2 h12.1 h12.2, fun z => absurd ((xn_le (by omega) (by omega)).mpr (by omega)) z⟩
def xt_E (ps : Nat) (fr to : Nat → Nat) (g : Nat) : Nat := xt_set (fun p => ps.testBit p && (decide (fr p = g) && decide (to p = g))) 5
def xt_C (ps : Nat) (fr to : Nat → Nat) (g : Nat) : Nat := xt_set (fun p => ps.testBit p && (decide (to p = g) && !decide (fr p = g))) 5
def xt_O (ps : Nat) (fr to : Nat → Nat) (g : Nat) : Nat := xt_set (fun p => ps.testBit p && (decide (fr p = g) && !decide (to p = g))) 5
def xt_mi (a b : Nat) : Nat := xt_set (fun p => a.testBit p && !b.testBit p) 5
theorem xt_no : ∀ a, a < 32 → ∀ b, b < 32 → nI a &&& (nI b ^^^ (-1 : Int32)) = nI (xt_mi a b) := by decide +kernel
def xt_Fi (ps : Nat) (hd fr to : Nat → Nat) (g : Nat) : Nat := xt_E ps fr to g &&& xt_hd hd (xt_C ps fr to g) 5
def xt_La (ps : Nat) (hd fr to : Nat → Nat) (g : Nat) : Nat := xt_mi (xt_E ps fr to g) (xt_Fi ps hd fr to g) &&& xt_hd hd (xt_O ps fr to g) 5
def xt_Mi (ps : Nat) (hd fr to : Nat → Nat) (g : Nat) : Nat := xt_mi (xt_mi (xt_E ps fr to g) (xt_Fi ps hd fr to g)) (xt_La ps hd fr to g)
def xt_gap (ps mc : Nat) (hd hb fr to mr mt : Nat → Nat) (g : Nat) : List Nat :=
  xt_cat (xt_em (xt_Fi ps hd fr to g)) 5 ++ (xt_ord 97 (xt_cf fr (fun x => xa_pop (hb x))) 5 (xt_C ps fr to g) ++ (xt_cat (xt_mk mr mt g) mc ++ (xt_cat (xt_em (xt_Mi ps hd fr to g)) 5 ++ (xt_ord 65 (xt_of to (fun x => xa_pop (hb x))) 5 (xt_O ps fr to g) ++ xt_cat (xt_em (xt_La ps hd fr to g)) 5))))
/-- what the writer of the class reads -/
def xt_X (ps T mc : Nat) (hd hb fr to mr mt : Nat → Nat) (I : xw_I) (F : xw_F) : Prop := (I 8 = nI ps ∧ I 10 = nI mc ∧ I 12 = nI T) ∧ (∀ p, p < 5 → ps.testBit p = true → F 15 p = nI (hd p) ∧ F 16 p = nI (hb p) ∧ F 26 p = nI (fr p) ∧ F 27 p = nI (to p)) ∧ ∀ i, i < mc → F 18 i = nI (mr i) ∧ F 33 (mr i) = nI (mt i)
def xt_P (ps T mc : Nat) (hd hb fr to mr mt : Nat → Nat) : Prop := (ps < 32 ∧ T ≤ 8 ∧ mc ≤ 3) ∧ (∀ p, p < 5 → ps.testBit p = true → hd p < 32 ∧ hb p < 32 ∧ fr p ≤ to p ∧ to p ≤ T) ∧ ∀ i, i < mc → mr i < 3 ∧ mt i ≤ T
theorem xt_X.to {ps T mc : Nat} {hd hb fr to mr mt : Nat → Nat} {I I1 : xw_I} {F F1 : xw_F} (h : xt_X ps T mc hd hb fr to mr mt I F) (h2 : xt_fc I I1 F F1) : xt_X ps T mc hd hb fr to mr mt I1 F1 := by
  obtain ⟨⟨a, b, c⟩, d, e⟩ := h
  refine ⟨⟨by rw [h2.1 8 (by decide)]; exact a, by rw [h2.1 10 (by decide)]; exact b, by rw [h2.1 12 (by decide)]; exact c⟩, fun p hp hb => ?_, fun i hi => ?_⟩
  · rw [h2.2 15 (by decide), h2.2 16 (by decide), h2.2 26 (by decide), h2.2 27 (by decide)]; exact d p hp hb
  · rw [h2.2 18 (by decide), h2.2 33 (by decide)]; exact e i hi
theorem xn_or0 (a : Nat) : nI a ||| (0 : Int32) = nI a := by rw [xn_lit0, xb_or, Nat.or_zero]
theorem xn_or2 {p : Nat} (a : Nat) (hp : p < 31) : nI a ||| ((1 : Int32) <<< (nI p &&& 31)) = nI (a ||| 2 ^ p) := by rw [xb_shl p hp, xb_or]
theorem xt_and5 {a b : Nat} (h : a < 32) : a &&& b < 32 := Nat.lt_of_le_of_lt Nat.and_le_left h
theorem xt_inps {ps : Nat} {Q : Nat → Bool} {p : Nat} (hp : p < 5) (h : (xt_set (fun p => ps.testBit p && Q p) 5).testBit p = true) : ps.testBit p = true := by
  rw [xt_set5b _ hp] at h; revert h; cases ps.testBit p <;> simp
theorem xt_writeGap {ps T mc g : Nat} {hd hb fr to mr mt : Nat → Nat} {l : List Nat} {I : xw_I} {F : xw_F} {G : xw_G} {post : xw_I → xw_F → xw_G → Prop} (hP : xt_P ps T mc hd hb fr to mr mt) (hd4 : ∀ p, p < 5 → ps.testBit p = true → xa_pop (hb p) ≤ 4) (hX : xt_X ps T mc hd hb fr to mr mt I F) (hg : g ≤ T) (hL : xt_L (I 17) (F 37) l) (hb2 : l.length + (xt_gap ps mc hd hb fr to mr mt g).length ≤ 21)
    (h : ∀ I1 F1, xt_L (I1 17) (F1 37) (l ++ xt_gap ps mc hd hb fr to mr mt g) → xt_fc I I1 F F1 → post I1 F1 G) : sm_X6_writeGap (nI g) I F G post := by
  intro k12 k47 k66 k88 k111 r12 r47 r66 r88 r111
  obtain ⟨⟨p1, p2, p3⟩, p4, p5⟩ := hP
  have hX0 := hX
  obtain ⟨⟨x1, x2, x3⟩, x4, x5⟩ := hX0
  have hEs : ∀ k, xt_set (fun p => ps.testBit p && (decide (fr p = g) && decide (to p = g))) (k + 1) = if (ps.testBit k && (decide (fr k = g) && decide (to k = g))) = true then xt_set (fun p => ps.testBit p && (decide (fr p = g) && decide (to p = g))) k ||| 2 ^ k else xt_set (fun p => ps.testBit p && (decide (fr p = g) && decide (to p = g))) k := fun k => rfl
  have hCs : ∀ k, xt_set (fun p => ps.testBit p && (decide (to p = g) && !decide (fr p = g))) (k + 1) = if (ps.testBit k && (decide (to k = g) && !decide (fr k = g))) = true then xt_set (fun p => ps.testBit p && (decide (to p = g) && !decide (fr p = g))) k ||| 2 ^ k else xt_set (fun p => ps.testBit p && (decide (to p = g) && !decide (fr p = g))) k := fun k => rfl
  have hOs : ∀ k, xt_set (fun p => ps.testBit p && (decide (fr p = g) && !decide (to p = g))) (k + 1) = if (ps.testBit k && (decide (fr k = g) && !decide (to k = g))) = true then xt_set (fun p => ps.testBit p && (decide (fr p = g) && !decide (to p = g))) k ||| 2 ^ k else xt_set (fun p => ps.testBit p && (decide (fr p = g) && !decide (to p = g))) k := fun k => rfl
  obtain ⟨E, hE⟩ : ∃ E : Nat → Nat, E = xt_set (fun p => ps.testBit p && (decide (fr p = g) && decide (to p = g))) := ⟨_, rfl⟩
  obtain ⟨C, hC⟩ : ∃ C : Nat → Nat, C = xt_set (fun p => ps.testBit p && (decide (to p = g) && !decide (fr p = g))) := ⟨_, rfl⟩
  obtain ⟨O, hO⟩ : ∃ O : Nat → Nat, O = xt_set (fun p => ps.testBit p && (decide (fr p = g) && !decide (to p = g))) := ⟨_, rfl⟩
  rw [← hE] at hEs
  rw [← hC] at hCs
  rw [← hO] at hOs
  have h0E : (0 : Int32) = nI (E 0) := by rw [hE]; rfl
  have h0C : (0 : Int32) = nI (C 0) := by rw [hC]; rfl
  have h0O : (0 : Int32) = nI (O 0) := by rw [hO]; rfl
  have start : k12 (nI (E 0)) (nI (C 0)) (nI (O 0)) (nI 0) I F G → bd_X6_writeGap_0 (nI g) I F G post k12 k47 k66 k88 k111 := by
    rw [← h0E, ← h0C, ← h0O]; exact fun x => x
  apply start
  refine xl_up (fun i (_ : Unit) => k12 (nI (E i)) (nI (C i)) (nI (O i)) (nI i) I F G) 5 (fun _ _ => True) ?_ ?_ 0 () (by omega) trivial
  · intro i _ hi _ ih
    have ih := ih () trivial
    rw [hEs, hCs, hOs] at ih
    apply r12
    unfold bd_X6_writeGap_12
    rw [x1]
    refine ⟨fun z => absurd ((xn_le (a := 5) (by omega) (by omega)).mp z) (by omega), fun _ => xs_has (by omega) (by omega) (fun e => ⟨fun _ v ev => ?_, fun z => absurd rfl z⟩) (fun e => ⟨fun z => absurd z (by decide), fun _ => ⟨vp_in_nI hi (by omega), fun v38 e38 => ?_⟩⟩)⟩
    · rw [ev, nI_1]
      rw [e] at ih
      exact ih
    · obtain ⟨_, _, q3, q4⟩ := x4 i hi e
      obtain ⟨_, _, q5, q6⟩ := p4 i hi e
      rw [nI_clamp (by omega), q3] at e38
      subst e38
      rw [e] at ih
      have hto : ∀ x, (¬ nI (to i) = nI g → k66 (nI (E i)) (nI (C i)) (nI (O i)) (nI i) x 0 I F G) → (nI (to i) = nI g → k66 (nI (E i)) (nI (C i)) (nI (O i)) (nI i) x 1 I F G) → k47 (nI (E i)) (nI (C i)) (nI (O i)) (nI i) x I F G := by
        intro x ha hb
        apply r47
        unfold bd_X6_writeGap_47
        refine ⟨vp_in_nI hi (by omega), fun v40 e40 => ?_⟩
        rw [nI_clamp (by omega), q4] at e40
        subst e40
        exact ⟨ha, hb⟩
      have t1 : fr i = g → decide (fr i = g) = true := fun x => decide_eq_true x
      have t0 : ¬ fr i = g → decide (fr i = g) = false := fun x => decide_eq_false x
      have s1 : to i = g → decide (to i = g) = true := fun x => decide_eq_true x
      have s0 : ¬ to i = g → decide (to i = g) = false := fun x => decide_eq_false x
      refine ⟨fun z => ?_, fun z => ?_⟩
      · have z : ¬ fr i = g := fun x => z (by rw [x])
        rw [t0 z] at ih
        refine hto _ (fun y => ?_) (fun y => ?_)
        · have y : ¬ to i = g := fun x => y (by rw [x])
          rw [s0 y] at ih
          apply r66
          unfold bd_X6_writeGap_66
          refine ⟨fun _ => ?_, fun w => absurd rfl w⟩
          apply r88
          unfold bd_X6_writeGap_88
          intro v44 e44
          rw [xn_or0] at e44
          subst e44
          refine ⟨fun _ => ?_, fun w => absurd rfl w⟩
          apply r111
          unfold bd_X6_writeGap_111
          intro v47 e47
          rw [xn_or0] at e47
          subst e47
          refine ⟨fun _ v49 e49 v50 e50 => ?_, fun w => absurd rfl w⟩
          rw [xn_or0] at e49
          rw [nI_1] at e50
          rw [e49, e50]
          exact ih
        · have y : to i = g := (xn_eq (by omega) (by omega)).mp y
          rw [s1 y] at ih
          apply r66
          unfold bd_X6_writeGap_66
          refine ⟨fun _ => ?_, fun w => absurd rfl w⟩
          apply r88
          unfold bd_X6_writeGap_88
          intro v44 e44
          rw [xn_or0] at e44
          subst e44
          refine ⟨fun w => absurd w (by decide), fun _ => ⟨fun w => absurd rfl w, fun _ => ?_⟩⟩
          apply r111
          unfold bd_X6_writeGap_111
          intro v47 e47
          rw [xn_or2 _ (by omega)] at e47
          subst e47
          refine ⟨fun _ v49 e49 v50 e50 => ?_, fun w => absurd rfl w⟩
          rw [xn_or0] at e49
          rw [nI_1] at e50
          rw [e49, e50]
          exact ih
      · have z : fr i = g := (xn_eq (by omega) (by omega)).mp z
        rw [t1 z] at ih
        refine hto _ (fun y => ?_) (fun y => ?_)
        · have y : ¬ to i = g := fun x => y (by rw [x])
          rw [s0 y] at ih
          apply r66
          unfold bd_X6_writeGap_66
          refine ⟨fun w => absurd w (by decide), fun _ => ⟨fun _ => ?_, fun w => absurd rfl w⟩⟩
          apply r88
          unfold bd_X6_writeGap_88
          intro v44 e44
          rw [xn_or0] at e44
          subst e44
          refine ⟨fun _ => ?_, fun w => absurd rfl w⟩
          apply r111
          unfold bd_X6_writeGap_111
          intro v47 e47
          rw [xn_or0] at e47
          subst e47
          refine ⟨fun w => absurd w (by decide), fun _ => ⟨fun w => absurd rfl w, fun _ v54 e54 v55 e55 => ?_⟩⟩
          rw [xn_or2 _ (by omega)] at e54
          rw [nI_1] at e55
          rw [e54, e55]
          exact ih
        · have y : to i = g := (xn_eq (by omega) (by omega)).mp y
          rw [s1 y] at ih
          apply r66
          unfold bd_X6_writeGap_66
          refine ⟨fun w => absurd w (by decide), fun _ => ⟨fun w => absurd w (by decide), fun _ => ?_⟩⟩
          apply r88
          unfold bd_X6_writeGap_88
          intro v44 e44
          rw [xn_or2 _ (by omega)] at e44
          subst e44
          refine ⟨fun w => absurd w (by decide), fun _ => ⟨fun _ => ?_, fun w => absurd w (by decide)⟩⟩
          apply r111
          unfold bd_X6_writeGap_111
          intro v47 e47
          rw [xn_or0] at e47
          subst e47
          refine ⟨fun w => absurd w (by decide), fun _ => ⟨fun _ v52 e52 v53 e53 => ?_, fun w => absurd w (by decide)⟩⟩
          rw [xn_or0] at e52
          rw [nI_1] at e53
          rw [e52, e53]
          exact ih
  · intro _ _
    apply r12
    unfold bd_X6_writeGap_12
    refine ⟨fun _ => ?_, fun z => absurd ((xn_le (a := 5) (b := 5) (by omega) (by omega)).mpr (by omega)) z⟩
    have eE : E 5 = xt_E ps fr to g := by rw [hE]; rfl
    have eC : C 5 = xt_C ps fr to g := by rw [hC]; rfl
    have eO : O 5 = xt_O ps fr to g := by rw [hO]; rfl
    rw [eE, eC, eO]
    have bE : xt_E ps fr to g < 32 := xt_set5 _
    have bC : xt_C ps fr to g < 32 := xt_set5 _
    have bO : xt_O ps fr to g < 32 := xt_set5 _
    have iC : ∀ p, p < 5 → (xt_C ps fr to g).testBit p = true → ps.testBit p = true := fun p hp hh => xt_inps hp hh
    have iO : ∀ p, p < 5 → (xt_O ps fr to g).testBit p = true → ps.testBit p = true := fun p hp hh => xt_inps hp hh
    refine xt_held (ps := ps) (hd := hd) (fun p hp hh => (x4 p hp hh).1) bC iC (fun v26 e26 => ?_)
    rw [nx_and] at e26
    have e26 : v26 = nI (xt_Fi ps hd fr to g) := e26
    subst e26
    have bFi : xt_Fi ps hd fr to g < 32 := xt_and5 bE
    refine xt_held (ps := ps) (hd := hd) (fun p hp hh => (x4 p hp hh).1) bO iO (fun v28 e28 => ?_)
    rw [xt_no _ bE _ bFi, nx_and] at e28
    have e28 : v28 = nI (xt_La ps hd fr to g) := e28
    subst e28
    have bm : xt_mi (xt_E ps fr to g) (xt_Fi ps hd fr to g) < 32 := xt_set5 _
    have bLa : xt_La ps hd fr to g < 32 := xt_and5 bm
    rw [xt_no _ bE _ bFi, xt_no _ bm _ bLa, show xt_mi (xt_mi (xt_E ps fr to g) (xt_Fi ps hd fr to g)) (xt_La ps hd fr to g) = xt_Mi ps hd fr to g from rfl]
    have bMi : xt_mi (xt_mi (xt_E ps fr to g) (xt_Fi ps hd fr to g)) (xt_La ps hd fr to g) < 32 := xt_set5 _
    have bMi : xt_Mi ps hd fr to g < 32 := bMi
    unfold xt_gap at hb2 h
    simp only [List.length_append] at hb2
    refine xt_addEmpty bFi hL (by omega) (fun I1 F1 g1 f1 => ?_)
    have f1 := f1.fc
    have X1 := hX.to f1
    refine xt_rankClosing (ps := ps) (hb := hb) (u := fr) (fun p hp hh => ⟨(X1.2.1 p hp hh).2.1, (p4 p hp hh).2.1, (X1.2.1 p hp hh).2.2.1⟩) (fun Fa ra fa => ?_)
    rw [← fa 37 (by decide)] at g1
    have f1 := f1.tr (xt_fr (I := I1) fa)
    have X1 := hX.to f1
    refine xt_addRanked (Q := xt_C ps fr to g) (c := 97) (f := xt_cf fr (fun x => xa_pop (hb x))) (fun p q hp hq hhp hhq => by
      have a1 := iC p hp hhp
      have a2 := iC q (by omega) hhq
      have b1 := p4 p hp a1
      have b2 := p4 q (by omega) a2
      rw [ra p hp a1, ra q (by omega) a2]
      exact xt_rkc (u := fr) (dp := fun x => xa_pop (hb x)) hp hq ⟨by omega, hd4 p hp a1⟩ ⟨by omega, hd4 q (by omega) a2⟩) bC (fun _ _ z => z) g1 (by rw [List.length_append]; omega) (fun I2 F2 g2 f2 => ?_)
    have f2 := f2.fc
    have X2 := X1.to f2
    refine xt_addMarks p3 (by omega) X2.1.2.1 (fun i hi => ⟨(X2.2.2 i hi).1, (p5 i hi).1, (X2.2.2 i hi).2, by have := (p5 i hi).2; omega⟩) g2 (by simp only [List.length_append]; omega) (fun I3 F3 g3 f3 => ?_)
    have f3 := f3.fc
    have X3 := X2.to f3
    refine xt_addEmpty bMi g3 (by simp only [List.length_append]; omega) (fun I4 F4 g4 f4 => ?_)
    have f4 := f4.fc
    have X4 := X3.to f4
    refine xt_rankOpening (ps := ps) (hb := hb) (u := to) (fun p hp hh => ⟨(X4.2.1 p hp hh).2.1, (p4 p hp hh).2.1, hd4 p hp hh, (X4.2.1 p hp hh).2.2.2⟩) (fun Fb rb fb => ?_)
    rw [← fb 37 (by decide)] at g4
    have f4 := f4.tr (xt_fr (I := I4) fb)
    have X4 := X3.to f4
    have oO : ∀ p, p < 5 → (xt_O ps fr to g).testBit p = true → 1 ≤ to p := by
      intro p hp hh
      have a1 := p4 p hp (iO p hp hh)
      have a2 : (ps.testBit p && (decide (fr p = g) && !decide (to p = g))) = true := (xt_set5b _ hp).symm.trans hh
      simp only [Bool.and_eq_true, decide_eq_true_eq, Bool.not_eq_true', decide_eq_false_iff_not] at a2
      omega
    refine xt_addRanked (Q := xt_O ps fr to g) (c := 65) (f := xt_of to (fun x => xa_pop (hb x))) (fun p q hp hq hhp hhq => by
      have a1 := iO p hp hhp
      have a2 := iO q (by omega) hhq
      have b1 := p4 p hp a1
      have b2 := p4 q (by omega) a2
      have c1 := oO p hp hhp
      have c2 := oO q (by omega) hhq
      rw [rb p hp a1 c1, rb q (by omega) a2 c2]
      exact xt_rko (u := to) (dp := fun x => xa_pop (hb x)) hp hq ⟨c1, by omega, hd4 p hp a1⟩ ⟨c2, by omega, hd4 q (by omega) a2⟩) bO (fun _ _ z => z) g4 (by simp only [List.length_append]; omega) (fun I5 F5 g5 f5 => ?_)
    have f5 := f5.fc
    refine xt_addEmpty bLa g5 (by simp only [List.length_append]; omega) (fun I6 F6 g6 f6 => ?_)
    have f6 := f6.fc
    refine h I6 F6 ?_ (((((f1.tr f2).tr f3).tr f4).tr f5).tr f6)
    simpa only [List.append_assoc] using g6
def xt_all (ps T mc : Nat) (hd hb fr to mr mt : Nat → Nat) (g : Nat) : List Nat := xt_gap ps mc hd hb fr to mr mt g ++ (if g < T then [46] else [])
theorem xs_write {ps T mc : Nat} {hd hb fr to mr mt : Nat → Nat} {I : xw_I} {F : xw_F} {G : xw_G} {post : xw_I → xw_F → xw_G → Prop} (hP : xt_P ps T mc hd hb fr to mr mt) (hd4 : ∀ p, p < 5 → ps.testBit p = true → xa_pop (hb p) ≤ 4) (hX : xt_X ps T mc hd hb fr to mr mt I F) (hb2 : (xt_cat (xt_all ps T mc hd hb fr to mr mt) (T + 1)).length ≤ 21)
    (h : ∀ I1 F1, xt_L (I1 17) (F1 37) (xt_cat (xt_all ps T mc hd hb fr to mr mt) (T + 1)) → xt_fc I I1 F F1 → post I1 F1 G) : sm_X6_write I F G post := by
  intro k hk I0 e0
  have hT := hP.1.2.1
  refine xl_up (fun i (s : xw_I × xw_F) => k (nI i) s.1 s.2 G) (T + 1) (fun i s => xt_L (s.1 17) (s.2 37) (xt_cat (xt_all ps T mc hd hb fr to mr mt) i) ∧ xt_fc I s.1 F s.2) ?_ ?_ 0 (I0, F) (by omega) ⟨⟨by show I0 17 = nI 0; rw [e0, xw_ups]; rfl, fun i v hv => by rw [xt_cat] at hv; cases hv⟩, fun j hj => by show I0 j = I j; rw [e0, xw_upn hj], fun _ _ => rfl⟩
  · intro i s hi h12 ih
    obtain ⟨h1, h2⟩ := h12
    apply hk
    unfold bd_X6_write_8
    have X1 := hX.to h2
    rw [X1.1.2.2]
    have hlen := xt_cat_le (xt_all ps T mc hd hb fr to mr mt) (show i + 1 ≤ T + 1 by omega)
    have hc : xt_cat (xt_all ps T mc hd hb fr to mr mt) (i + 1) = xt_cat (xt_all ps T mc hd hb fr to mr mt) i ++ (xt_gap ps mc hd hb fr to mr mt i ++ (if i < T then [46] else [])) := rfl
    refine ⟨fun z => absurd ((xn_lt (by omega) (by omega)).mp z) (by omega), fun _ => xt_writeGap hP hd4 X1 (by omega) h1 (by rw [hc, List.length_append, List.length_append] at hlen; omega) (fun I1 F1 g1 f1 => ?_)⟩
    rw [(X1.to f1).1.2.2]
    refine ⟨fun z v ev => ?_, fun z => ?_⟩
    · have z : T ≤ i := (xn_le (by omega) (by omega)).mp z
      rw [ev, nI_1]
      exact ih (I1, F1) ⟨by rw [hc, if_neg (by omega), List.append_nil]; exact g1, h2.tr f1⟩
    · have z : i < T := Nat.not_le.mp (fun x => z ((xn_le (by omega) (by omega)).mpr x))
      rw [hc, if_pos z, List.length_append, List.length_append, List.length_singleton] at hlen
      refine xt_add (s := 46) (by rw [List.length_append]; omega) g1 (fun I2 F2 g2 f2 v ev => ?_)
      rw [ev, nI_1]
      exact ih (I2, F2) ⟨by rw [hc, if_pos z, ← List.append_assoc]; exact g2, (h2.tr f1).tr f2.fc⟩
  · intro s h12
    apply hk
    unfold bd_X6_write_8
    rw [(hX.to h12.2).1.2.2]
    exact ⟨fun _ => h s.1 s.2 h12.1 h12.2, fun z => absurd ((xn_lt (by omega) (by omega)).mpr (by omega)) z⟩
