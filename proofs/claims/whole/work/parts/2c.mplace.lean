/-! ===== the reference's search ===== -/
/-- what the reference holds of the pairs -/
def xe_MP (ps : Nat) (op cl hd : Nat → Nat) (F : xw_F) : Prop := (∀ p, p < 5 → ps.testBit p = true → F 1 p = nI (op p) ∧ F 2 p = nI (cl p) ∧ F 3 p = nI (hd p) ∧ op p ≤ cl p ∧ cl p ≤ 12) ∧ ∀ p, p < 5 → ps.testBit p = false → F 1 p = -6 ∧ F 3 p = 0
theorem xs_isThere {ps p : Nat} {op cl hd : Nat → Nat} {I : xw_I} {F : xw_F} {G : xw_G} {post : Int32 → Prop} (hE : xe_MP ps op cl hd F) (hp : p < 5) (h1 : ps.testBit p = true → post 1) (h0 : ps.testBit p = false → post 0) : sm_X8_isThere (nI p) I F G post := by
  unfold sm_X8_isThere
  refine xs_in (a := 0) (b := 4) (by omega) (by omega) (by omega) (fun _ _ => ⟨fun c => absurd c (by decide), fun _ => ⟨vp_in_nI hp (by omega), fun v ev => ?_⟩⟩) (fun c => absurd ⟨by omega, by omega⟩ c)
  rw [nI_clamp (by omega)] at ev
  cases hb : ps.testBit p
  · rw [(hE.2 p hp hb).1] at ev
    rw [ev]
    exact ⟨fun _ => h0 hb, fun c => absurd (by decide) c⟩
  · obtain ⟨e1, e2, e3, e4, e5⟩ := hE.1 p hp hb
    rw [e1] at ev
    rw [ev]
    exact ⟨fun c => absurd c (nI_pos (by omega)), fun _ => h1 hb⟩
theorem xm_mod : ∀ s, s < 32 → ∀ i, i < 5 → (s.testBit i = true → s % 2 ^ i ||| 2 ^ i = s % 2 ^ (i + 1)) ∧ (s.testBit i = false → s % 2 ^ i = s % 2 ^ (i + 1)) := by decide +kernel
theorem xs_there {ps : Nat} {op cl hd : Nat → Nat} {I : xw_I} {F : xw_F} {G : xw_G} {post : Int32 → Prop} (hps : ps < 32) (hE : xe_MP ps op cl hd F) (h : post (nI ps)) : sm_X8_there I F G post := by
  intro k hk
  unfold bd_X8_there_0
  have h00 : (0 : Int32) = nI (ps % 2 ^ 0) := by rw [Nat.pow_zero, Nat.mod_one]; rfl
  rw [show (k (0 : Int32) (0 : Int32)) = k (nI (ps % 2 ^ 0)) (nI 0) by rw [← h00]; rfl]
  refine xl_up (fun i (_ : Unit) => k (nI (ps % 2 ^ i)) (nI i)) 5 (fun _ _ => True) ?_ ?_ 0 () (by omega) trivial
  · intro i _ hi _ ih
    apply hk
    unfold bd_X8_there_4
    refine ⟨fun c => absurd ((xn_le (a := 5) (by omega) (by omega)).mp c) (by omega), fun _ => xs_isThere hE hi (fun hb => ⟨fun c => absurd c (by decide), fun _ v ev w ew => ?_⟩) (fun hb => ⟨fun _ v ev w ew => ?_, fun c => absurd rfl c⟩)⟩
    · rw [ev, ew, nI_1, xb_shl i (by omega), xb_or, (xm_mod ps hps i hi).1 hb]; exact ih () trivial
    · rw [ev, ew, nI_1, Int32.or_zero, (xm_mod ps hps i hi).2 hb]; exact ih () trivial
  · intro _ _
    apply hk
    unfold bd_X8_there_4
    refine ⟨fun _ => ?_, fun c => absurd ((xn_le (a := 5) (b := 5) (by omega) (by omega)).mpr (by omega)) c⟩
    rw [Nat.mod_eq_of_lt (by omega)]; exact h
theorem xs_mapart {ps : Nat} {op cl hd : Nat → Nat} {o r : Nat} {I : xw_I} {F : xw_F} {G : xw_G} {post : Int32 → Prop} (hps : ps < 32) (hhd : ∀ p, p < 5 → ps.testBit p = true → hd p < 32) (hE : xe_MP ps op cl hd F) (ho : o < 32) (hr : r < 32) (hop : o &&& ps = o) (hrp : r &&& ps = r) (h1 : xd_ap hd o r → post 1) (h0 : ¬ xd_ap hd o r → post 0) : sm_X8_areApart (nI o) (nI r) I F G post := by
  intro k5 k36 r5 r36
  -- what is seen of the first i
  have hone : ∀ i, i < 5 → ∀ x, x < 32 → (ps.testBit i = true) → (nI (hd i) &&& nI x = 0 ↔ ∀ q, q < 5 → x.testBit q = true → (hd i).testBit q = false) := by
    intro i hi x hx hb
    have hand : hd i &&& x < 32 := Nat.and_lt_two_pow (n := 5) _ hx
    rw [nx_and, xn_0 (by omega), xm_and _ (hhd i hi hb) x hx]
  have hbad : ∀ d i, i + d = 5 → ¬ xd_ap hd o r → k5 0 (nI i) := by
    intro d
    induction d with
    | zero =>
      intro i hi hno
      apply r5
      unfold bd_X8_areApart_5
      refine ⟨fun _ => ⟨xe_0, h0 hno⟩, fun c => absurd ((xn_le (a := 5) (by omega) (by omega)).mpr (by omega)) c⟩
    | succ d ih =>
      intro i hi hno
      apply r5
      unfold bd_X8_areApart_5
      refine ⟨fun c => absurd ((xn_le (a := 5) (by omega) (by omega)).mp c) (by omega), fun _ => ⟨fun _ v ev => ?_, fun c => absurd rfl c⟩⟩
      rw [ev, nI_1]; exact ih (i + 1) (by omega) hno
  have hgood : ∀ d i, i + d = 5 → (∀ p q, p < i → q < 5 → (o.testBit p = true → r.testBit q = true → (hd p).testBit q = false) ∧ (r.testBit p = true → o.testBit q = true → (hd p).testBit q = false)) → k5 1 (nI i) := by
    intro d
    induction d with
    | zero =>
      intro i hi hv
      apply r5
      unfold bd_X8_areApart_5
      refine ⟨fun _ => ⟨xe_1, h1 (fun p q hp hq hop2 hrq => ⟨(hv p q (by omega) hq).1 hop2 hrq, (hv q p (by omega) hp).2 hrq hop2⟩)⟩, fun c => absurd ((xn_le (a := 5) (by omega) (by omega)).mpr (by omega)) c⟩
    | succ d ih =>
      intro i hi hv
      have hi5 : i < 5 := by omega
      have hin := vp_in_nI hi5 (show 5 < 2 ^ 31 by omega)
      have hsec : (∀ q, q < 5 → o.testBit i = true → r.testBit q = true → (hd i).testBit q = false) → k36 (nI i) := by
        intro hfst
        apply r36
        unfold bd_X8_areApart_36
        rw [xb_bit (by omega) (by omega)]
        have hnext : (∀ q, q < 5 → r.testBit i = true → o.testBit q = true → (hd i).testBit q = false) → ∀ v : Int32, v = nI i + 1 → k5 1 v := by
          intro hsnd v ev
          rw [ev, nI_1]
          refine ih (i + 1) (by omega) (fun p q hp hq => ?_)
          by_cases hpi : p = i
          · subst hpi; exact ⟨hfst q hq, hsnd q hq⟩
          · exact hv p q (by omega) hq
        refine ⟨fun z => hnext (fun q hq hrb => ?_), fun z => ⟨hin, fun v ev => ?_⟩⟩
        · rw [hrb] at z; exact absurd z (by decide)
        · have hrb : r.testBit i = true := by cases hb : r.testBit i; rw [hb] at z; exact absurd rfl z; rfl
          have hpb := xm_in r hr ps hps hrp i hi5 hrb
          rw [nI_clamp (by omega), (hE.1 i hi5 hpb).2.2.1] at ev
          rw [ev, hone i hi5 o ho hpb]
          refine ⟨fun y v ev => ?_, fun y => hnext (fun q hq _ => y q hq)⟩
          rw [ev, nI_1]
          exact hbad d (i + 1) (by omega) (fun hap => y (fun q hq hoq => (hap q i hq hi5 hoq hrb).2))
      apply r5
      unfold bd_X8_areApart_5
      refine ⟨fun c => absurd ((xn_le (a := 5) (by omega) (by omega)).mp c) (by omega), fun _ => ⟨fun c => absurd c (by decide), fun _ => ?_⟩⟩
      rw [xb_bit (by omega) (by omega)]
      refine ⟨fun z => hsec (fun q hq hob => ?_), fun z => ⟨hin, fun v ev => ?_⟩⟩
      · rw [hob] at z; exact absurd z (by decide)
      · have hob : o.testBit i = true := by cases hb : o.testBit i; rw [hb] at z; exact absurd rfl z; rfl
        have hpb := xm_in o ho ps hps hop i hi5 hob
        rw [nI_clamp (by omega), (hE.1 i hi5 hpb).2.2.1] at ev
        rw [ev, hone i hi5 r hr hpb]
        refine ⟨fun y v ev => ?_, fun y => hsec (fun q hq _ => y q hq)⟩
        rw [ev, nI_1]
        exact hbad d (i + 1) (by omega) (fun hap => y (fun q hq hrq => (hap i q hi5 hq hob hrq).1))
  exact hgood 5 0 rfl (fun p q hp => by omega)
theorem xs_mheld {ps p r : Nat} {op cl hd : Nat → Nat} {I : xw_I} {F : xw_F} {G : xw_G} {post : Int32 → Prop} (hps : ps < 32) (hhd : ∀ p, p < 5 → ps.testBit p = true → hd p < 32) (hE : xe_MP ps op cl hd F) (hp : p < 5) (hr : r < 32) (hrp : r &&& ps = r) (h0 : xd_top hd r p → post 0) (h1 : ¬ xd_top hd r p → post 1) : sm_X8_isHeld (nI p) (nI r) I F G post := by
  intro k5 r5
  have hbad : ∀ d i, i + d = 5 → ¬ xd_top hd r p → k5 1 (nI i) := by
    intro d
    induction d with
    | zero =>
      intro i hi hno
      apply r5
      unfold bd_X8_isHeld_5
      refine ⟨fun _ => ⟨xe_1, h1 hno⟩, fun c => absurd ((xn_le (a := 5) (by omega) (by omega)).mpr (by omega)) c⟩
    | succ d ih =>
      intro i hi hno
      apply r5
      unfold bd_X8_isHeld_5
      refine ⟨fun c => absurd ((xn_le (a := 5) (by omega) (by omega)).mp c) (by omega), fun _ => ⟨fun _ v ev => ?_, fun c => absurd c (by decide)⟩⟩
      rw [ev, nI_1]; exact ih (i + 1) (by omega) hno
  have hgood : ∀ d i, i + d = 5 → (∀ q, q < i → r.testBit q = true → (hd q).testBit p = false) → k5 0 (nI i) := by
    intro d
    induction d with
    | zero =>
      intro i hi hv
      apply r5
      unfold bd_X8_isHeld_5
      refine ⟨fun _ => ⟨xe_0, h0 (fun q hq => hv q (by omega))⟩, fun c => absurd ((xn_le (a := 5) (by omega) (by omega)).mpr (by omega)) c⟩
    | succ d ih =>
      intro i hi hv
      have hi5 : i < 5 := by omega
      apply r5
      unfold bd_X8_isHeld_5
      refine ⟨fun c => absurd ((xn_le (a := 5) (by omega) (by omega)).mp c) (by omega), fun _ => ⟨fun c => absurd rfl c, fun _ => ?_⟩⟩
      rw [xb_bit (by omega) (by omega), xn_b1]
      have hnext : (r.testBit i = true → (hd i).testBit p = false) → ∀ v : Int32, v = nI i + 1 → k5 0 v := by
        intro hz v ev
        rw [ev, nI_1]
        refine ih (i + 1) (by omega) (fun q hq hrq => ?_)
        by_cases hqi : q = i
        · subst hqi; exact hz hrq
        · exact hv q (by omega) hrq
      refine ⟨fun z => hnext (fun y => absurd y z), fun z => ⟨vp_in_nI hi5 (by omega), fun v ev => ?_⟩⟩
      have hpb := xm_in r hr ps hps hrp i hi5 z
      have hlt := hhd i hi5 hpb
      rw [nI_clamp (by omega), (hE.1 i hi5 hpb).2.2.1] at ev
      rw [ev, xb_bit (by omega) (by omega), xn_b1]
      refine ⟨fun y => hnext (fun _ => by simpa using y), fun y v ev => ?_⟩
      rw [ev, nI_1]
      exact hbad d (i + 1) (by omega) (fun ht => by have := ht i hi5 z; rw [y] at this; cases this)
  exact hgood 5 0 rfl (fun q hq => by omega)
theorem xl_le {a b : Nat} (ha : a < 2 ^ 63) (hb : b < 2 ^ 63) : lN a ≤ lN b ↔ a ≤ b := by
  rw [Int64.le_iff_toInt_le, pf_lI ha, pf_lI hb]; omega
theorem xs_mleast {x y : Nat} {post : Int64 → Prop} (hx : x < 2 ^ 63) (hy : y < 2 ^ 63) (h : post (lN (min y x))) : sm_X8_least (lN x) (lN y) post := by
  unfold sm_X8_least
  rw [lg_cmp_ge, xl_le hy hx]
  refine ⟨fun z => ?_, fun z => ?_⟩
  · rw [show min y x = y by omega] at h; exact h
  · rw [show min y x = x by omega] at h; exact h
theorem xd_min.skip {S S2 : Nat → Prop} {N v x : Nat} (h : xd_min S N v) (hN : N ≤ x) (hx : ∀ y, S2 y ↔ S y ∨ y = x) : xd_min S2 N v := by
  obtain ⟨h1, h2, h3⟩ := h
  refine ⟨h1, fun y hy => ?_, ?_⟩
  · rcases (hx y).mp hy with h | h
    · exact h2 y h
    · omega
  · rcases h3 with h | h
    · exact Or.inl h
    · exact Or.inr ((hx v).mpr (Or.inl h))
def xd_mtab (B : Nat → Nat → Nat → Nat) (ps T s0 : Nat) (G : xw_G) : Prop := ∀ s a b, s < s0 → s < 32 → s &&& ps = s → a ≤ b → b ≤ T → G 9 (81 * s + 9 * a + b) = lN (B s a b) ∧ B s a b ≤ 2 ^ 62
theorem xn_at (s a b : Nat) : ((81 : Int32) * nI s) + ((9 : Int32) * nI a) + nI b = nI (81 * s + 9 * a + b) := by
  rw [show (81 : Int32) = nI 81 from rfl, show (9 : Int32) = nI 9 from rfl, xn_mul, xn_mul, nI_add, nI_add]
theorem xm_an : ∀ s, s < 32 → ∀ o, o < 32 → (nI o &&& nI s = nI o ↔ o &&& s = o) := by decide +kernel
theorem xs_leastOf {lk : Nat → Nat} {ps T s a b : Nat} {op cl hd wf wt : Nat → Nat} {B : Nat → Nat → Nat → Nat} {I : xw_I} {F : xw_F} {G : xw_G} {post : Int64 → Prop} (hps : ps < 32) (hhd : ∀ p, p < 5 → ps.testBit p = true → hd p < 32) (hE : xe_MP ps op cl hd F) (hI : I 2 = nI T) (hl : ∀ w, w < 12 → F 6 w = nI (lk w)) (hT : T ≤ 8) (hlt : ∀ w, w < 12 → lk w < 2 ^ T) (hwf : ∀ p, p < 5 → ps.testBit p = true → wf p = xg_wf lk (op p) (cl p) ∧ wt p = xg_wt lk (op p) (cl p)) (ht : xd_mtab B ps T s G) (hs0 : 0 < s) (hs : s < 32) (hsp : s &&& ps = s) (hab : a ≤ b) (hbT : b ≤ T)
    (h : ∀ v, xd_min (xd_SB hd (xd_code wf wt) B s a b) (2 ^ 62) v → post (lN v)) : sm_X8_leastOf (nI s) (nI a) (nI b) I F G post := by
  have hsub : ∀ o, o < 32 → o &&& s = o → o &&& ps = o := fun o ho hos => (xm_3 ps hps s hs hsp o ho hos).2.2
  intro k8 k41 k131 k171 k181 r8 r41 r131 r171 r181
  have h62 : (4611686018427387904 : Int64) = lN (2 ^ 62) := rfl
  unfold bd_X8_leastOf_0
  rw [h62]
  -- pairs round it
  have hpairs : ∀ d i v, i + d = 5 → xd_min (fun x => (∃ o c, 0 < o ∧ o < s ∧ o &&& s = o ∧ xd_ap hd o (s - o) ∧ a ≤ c ∧ c ≤ b ∧ x = B o a c + B (s - o) c b) ∨ (∃ p a' b', p < i ∧ p < 5 ∧ s.testBit p = true ∧ xd_top hd (s - 2 ^ p) p ∧ a ≤ a' ∧ a' ≤ b' ∧ b' ≤ b ∧ x = B (s - 2 ^ p) a' b' + xd_code wf wt p a' b')) (2 ^ 62) v → k131 (lN v) (nI i) := by
    intro d
    induction d with
    | zero =>
      intro i v hi hv
      apply r131
      unfold bd_X8_leastOf_131
      refine ⟨fun _ => h v (hv.same (fun y => ?_)), fun c => absurd ((xn_le (a := 5) (by omega) (by omega)).mpr (by omega)) c⟩
      unfold xd_SB
      exact ⟨fun q => q.elim Or.inl (fun ⟨p, x, y, p1, p2⟩ => Or.inr ⟨p, x, y, by omega, p1, p2⟩), fun q => q.elim Or.inl (fun ⟨p, x, y, p1, p2, p3⟩ => Or.inr ⟨p, x, y, p2, p3⟩)⟩
    | succ d ih =>
      intro i v hi hv
      have hi5 : i < 5 := by omega
      have hskip : ¬ (s.testBit i = true ∧ xd_top hd (s - 2 ^ i) i) → k131 (lN v) (nI (i + 1)) := by
        intro hno
        refine ih (i + 1) v (by omega) (hv.same (fun y => ⟨fun q => q.imp id (fun ⟨p, x, z, p1, p2, p3, p4, p5⟩ => ?_), fun q => q.imp id (fun ⟨p, x, z, p1, p2⟩ => ⟨p, x, z, by omega, p2⟩)⟩))
        by_cases hpi : p = i
        · subst hpi; exact absurd ⟨p3, p4⟩ hno
        · exact ⟨p, x, z, by omega, p2, p3, p4, p5⟩
      apply r131
      unfold bd_X8_leastOf_131
      refine ⟨fun c => absurd ((xn_le (a := 5) (by omega) (by omega)).mp c) (by omega), fun _ w ew => ?_⟩
      rw [xb_bit (by omega) (by omega), xn_b1]
      refine ⟨fun z u eu => ?_, fun z => ?_⟩
      · rw [eu, nI_1]; exact hskip (fun y => z y.1)
      · obtain ⟨b1, b2, b3⟩ := xm_bit s hs i hi5 z
        obtain ⟨t1, t2, t3⟩ := xm_two i hi5
        have hpi : ps.testBit i = true := xm_in s hs ps hps hsp i hi5 z
        have hr1 := (xm_sub s hs _ t2 b1).1
        have hrp := hsub (s - 2 ^ i) (by omega) hr1
        rw [xb_shl i (by omega), (xm_sb s hs _ t2).2 b1] at ew
        subst ew
        refine xs_mheld hps hhd hE hi5 (by omega) hrp (fun htop => ⟨fun c => absurd rfl c, fun _ => ?_⟩) (fun hno => ⟨fun _ u eu => ?_, fun c => absurd c (by decide)⟩)
        · obtain ⟨e1, e2, e3, e4, e5⟩ := hE.1 i hi5 hpi
          obtain ⟨f1, f2⟩ := hwf i hi5 hpi
          -- its spans
          have hrow : ∀ da x v, x + da = b + 1 → xd_min (fun q => ((∃ o c, 0 < o ∧ o < s ∧ o &&& s = o ∧ xd_ap hd o (s - o) ∧ a ≤ c ∧ c ≤ b ∧ q = B o a c + B (s - o) c b) ∨ (∃ p a' b', p < i ∧ p < 5 ∧ s.testBit p = true ∧ xd_top hd (s - 2 ^ p) p ∧ a ≤ a' ∧ a' ≤ b' ∧ b' ≤ b ∧ q = B (s - 2 ^ p) a' b' + xd_code wf wt p a' b')) ∨ ∃ a' b', a ≤ a' ∧ a' < x ∧ a' ≤ b' ∧ b' ≤ b ∧ q = B (s - 2 ^ i) a' b' + xd_code wf wt i a' b') (2 ^ 62) v → a ≤ x → k171 (lN v) (nI i) (nI (s - 2 ^ i)) (nI x) := by
            intro da
            induction da with
            | zero =>
              intro x v hx hv hax
              apply r171
              unfold bd_X8_leastOf_171
              refine ⟨fun _ u eu => ?_, fun c => absurd ((xn_lt (by omega) (by omega)).mpr (by omega)) c⟩
              rw [eu, nI_1]
              refine ih (i + 1) v (by omega) (hv.same (fun y => ⟨fun q => ?_, fun q => ?_⟩))
              · rcases q with q | ⟨p, x', z', p1, p2, p3, p4, p5, p6, p7, p8⟩
                · exact Or.inl (Or.inl q)
                · by_cases hpi2 : p = i
                  · subst hpi2; exact Or.inr ⟨x', z', p5, by omega, p6, p7, p8⟩
                  · exact Or.inl (Or.inr ⟨p, x', z', by omega, p2, p3, p4, p5, p6, p7, p8⟩)
              · rcases q with (q | ⟨p, x', z', p1, p2⟩) | ⟨x', z', q1, q2, q3, q4, q5⟩
                · exact Or.inl q
                · exact Or.inr ⟨p, x', z', by omega, p2⟩
                · exact Or.inr ⟨i, x', z', by omega, hi5, z, htop, q1, q3, q4, q5⟩
            | succ da iha =>
              intro x v hx hv hax
              apply r171
              unfold bd_X8_leastOf_171
              refine ⟨fun c => absurd ((xn_lt (by omega) (by omega)).mp c) (by omega), fun _ => ?_⟩
              have hcol : ∀ db y v, y + db = b + 1 → x ≤ y → xd_min (fun q => (((∃ o c, 0 < o ∧ o < s ∧ o &&& s = o ∧ xd_ap hd o (s - o) ∧ a ≤ c ∧ c ≤ b ∧ q = B o a c + B (s - o) c b) ∨ (∃ p a' b', p < i ∧ p < 5 ∧ s.testBit p = true ∧ xd_top hd (s - 2 ^ p) p ∧ a ≤ a' ∧ a' ≤ b' ∧ b' ≤ b ∧ q = B (s - 2 ^ p) a' b' + xd_code wf wt p a' b')) ∨ ∃ a' b', a ≤ a' ∧ a' < x ∧ a' ≤ b' ∧ b' ≤ b ∧ q = B (s - 2 ^ i) a' b' + xd_code wf wt i a' b') ∨ ∃ b', x ≤ b' ∧ b' < y ∧ q = B (s - 2 ^ i) x b' + xd_code wf wt i x b') (2 ^ 62) v → k181 (lN v) (nI i) (nI (s - 2 ^ i)) (nI x) (nI y) := by
                intro db
                induction db with
                | zero =>
                  intro y v hy hxy hv
                  apply r181
                  unfold bd_X8_leastOf_181
                  refine ⟨fun _ u eu => ?_, fun c => absurd ((xn_lt (by omega) (by omega)).mpr (by omega)) c⟩
                  rw [eu, nI_1]
                  refine iha (x + 1) v (by omega) (hv.same (fun y' => ⟨fun q => ?_, fun q => ?_⟩)) (by omega)
                  · rcases q with q | ⟨x', z', q1, q2, q3, q4, q5⟩
                    · exact Or.inl (Or.inl q)
                    · by_cases hxx : x' = x
                      · subst hxx; exact Or.inr ⟨z', q3, by omega, q5⟩
                      · exact Or.inl (Or.inr ⟨x', z', q1, by omega, q3, q4, q5⟩)
                  · rcases q with (q | ⟨x', z', q1, q2, q3⟩) | ⟨z', q1, q2, q3⟩
                    · exact Or.inl q
                    · exact Or.inr ⟨x', z', q1, by omega, q3⟩
                    · exact Or.inr ⟨x, z', hax, by omega, q1, by omega, q3⟩
                | succ db ihb =>
                  intro y v hy hxy hv
                  apply r181
                  unfold bd_X8_leastOf_181 sm_X8_at
                  refine ⟨fun c => absurd ((xn_lt (by omega) (by omega)).mp c) (by omega), fun _ => ?_⟩
                  rw [xn_at]
                  refine ⟨vp_in_nI (by omega) (by omega), fun u eu => ?_⟩
                  obtain ⟨g1, g2⟩ := ht (s - 2 ^ i) x y (by omega) (by omega) hrp hxy (by omega)
                  rw [nI_clamp (by omega), g1] at eu
                  rw [eu, h62, lg_cmp_ge, xl_le (by decide) (by omega)]
                  have hS : ∀ q, ((((∃ o c, 0 < o ∧ o < s ∧ o &&& s = o ∧ xd_ap hd o (s - o) ∧ a ≤ c ∧ c ≤ b ∧ q = B o a c + B (s - o) c b) ∨ (∃ p a' b', p < i ∧ p < 5 ∧ s.testBit p = true ∧ xd_top hd (s - 2 ^ p) p ∧ a ≤ a' ∧ a' ≤ b' ∧ b' ≤ b ∧ q = B (s - 2 ^ p) a' b' + xd_code wf wt p a' b')) ∨ ∃ a' b', a ≤ a' ∧ a' < x ∧ a' ≤ b' ∧ b' ≤ b ∧ q = B (s - 2 ^ i) a' b' + xd_code wf wt i a' b') ∨ ∃ b', x ≤ b' ∧ b' < y + 1 ∧ q = B (s - 2 ^ i) x b' + xd_code wf wt i x b') ↔ ((((∃ o c, 0 < o ∧ o < s ∧ o &&& s = o ∧ xd_ap hd o (s - o) ∧ a ≤ c ∧ c ≤ b ∧ q = B o a c + B (s - o) c b) ∨ (∃ p a' b', p < i ∧ p < 5 ∧ s.testBit p = true ∧ xd_top hd (s - 2 ^ p) p ∧ a ≤ a' ∧ a' ≤ b' ∧ b' ≤ b ∧ q = B (s - 2 ^ p) a' b' + xd_code wf wt p a' b')) ∨ ∃ a' b', a ≤ a' ∧ a' < x ∧ a' ≤ b' ∧ b' ≤ b ∧ q = B (s - 2 ^ i) a' b' + xd_code wf wt i a' b') ∨ ∃ b', x ≤ b' ∧ b' < y ∧ q = B (s - 2 ^ i) x b' + xd_code wf wt i x b') ∨ q = B (s - 2 ^ i) x y + xd_code wf wt i x y := by
                    intro q
                    constructor
                    · rintro (q1 | ⟨z', q1, q2, q3⟩)
                      · exact Or.inl (Or.inl q1)
                      · by_cases hzy : z' = y
                        · subst hzy; exact Or.inr q3
                        · exact Or.inl (Or.inr ⟨z', q1, by omega, q3⟩)
                    · rintro ((q1 | ⟨z', q1, q2, q3⟩) | q1)
                      · exact Or.inl q1
                      · exact Or.inr ⟨z', q1, by omega, q3⟩
                      · exact Or.inr ⟨y, hxy, by omega, q1⟩
                  refine ⟨fun c t et => ?_, fun c => ?_⟩
                  · rw [et, nI_1]
                    exact ihb (y + 1) v (by omega) (by omega) (hv.skip (show 2 ^ 62 ≤ B (s - 2 ^ i) x y + xd_code wf wt i x y by omega) hS)
                  · obtain ⟨q1, q2⟩ := xg_w_le (a := op i) (b := cl i) hlt hT (by omega) e5
                    have hcl := (xd_code_le (wf := wf) (wt := wt) (p := i) (a := x) (b := y) hi5 (by omega) (by omega) (by omega) (by omega)).2
                    refine xs_code hI hl hT hlt hi5 e1 e2 e4 e5 f1 f2 (by omega) (by omega) ?_
                    have hv1 := hv.1
                    rw [lN_add]
                    refine xs_mleast (by omega) (by omega) (fun t et => ?_)
                    rw [et, nI_1]
                    exact ihb (y + 1) _ (by omega) (by omega) (hv.more hS)
              exact hcol (b + 1 - x) x v (by omega) (Nat.le_refl _) (hv.same (fun q => ⟨fun z => z.elim id (fun ⟨_, _, _, _⟩ => by omega), fun z => Or.inl z⟩))
          exact hrow (b + 1 - a) a v (by omega) (hv.same (fun q => ⟨fun z => z.elim id (fun ⟨_, _, _, _, _⟩ => by omega), fun z => Or.inl z⟩)) (Nat.le_refl _)
        · rw [eu, nI_1]; exact hskip (fun y => hno y.2)
  -- parts
  have hparts : ∀ d i v, i + d = s → 0 < i → xd_min (fun x => ∃ o c, o < i ∧ 0 < o ∧ o < s ∧ o &&& s = o ∧ xd_ap hd o (s - o) ∧ a ≤ c ∧ c ≤ b ∧ x = B o a c + B (s - o) c b) (2 ^ 62) v → k8 (lN v) (nI i) := by
    intro d
    induction d with
    | zero =>
      intro i v hi hi0 hv
      apply r8
      unfold bd_X8_leastOf_8
      refine ⟨fun _ => ?_, fun c => absurd ((xn_le (by omega) (by omega)).mpr (by omega)) c⟩
      refine hpairs 5 0 v rfl (hv.same (fun y => ⟨fun q => ?_, fun ⟨o, c, o1, o2⟩ => Or.inl ⟨o, c, o2⟩⟩))
      rcases q with ⟨o, c, o1, o2, o3⟩ | ⟨p, _, _, p1, _⟩
      · exact ⟨o, c, by omega, o1, o2, o3⟩
      · omega
    | succ d ih =>
      intro i v hi hi0 hv
      have hi32 : i < 32 := by omega
      have hskip : ¬ (i &&& s = i ∧ xd_ap hd i (s - i)) → k8 (lN v) (nI (i + 1)) := by
        intro hno
        refine ih (i + 1) v (by omega) (by omega) (hv.same (fun y => ⟨fun ⟨o, c, o0, o1, o2, o3, o4, o5⟩ => ?_, fun ⟨o, c, o0, o1⟩ => ⟨o, c, by omega, o1⟩⟩))
        by_cases hoi : o = i
        · subst hoi; exact absurd ⟨o3, o4⟩ hno
        · exact ⟨o, c, by omega, o1, o2, o3, o4, o5⟩
      apply r8
      unfold bd_X8_leastOf_8
      refine ⟨fun c => absurd ((xn_le (by omega) (by omega)).mp c) (by omega), fun _ => ?_⟩
      rw [xm_an s hs i hi32]
      refine ⟨fun z u eu => ?_, fun z => ?_⟩
      · rw [eu, nI_1]; exact hskip (fun y => z y.1)
      · have hr1 := (xm_sub s hs i hi32 z).1
        have hip := hsub i hi32 z
        have hrp := hsub (s - i) (by omega) hr1
        rw [(xm_sb s hs i hi32).2 z]
        refine xs_mapart hps hhd hE hi32 (by omega) hip hrp (fun hap => ⟨fun c => absurd c (by decide), fun _ => ?_⟩) (fun hno => ⟨fun _ u eu => ?_, fun c => absurd rfl c⟩)
        · have hcut : ∀ dc c v, c + dc = b + 1 → a ≤ c → xd_min (fun x => (∃ o c, o < i ∧ 0 < o ∧ o < s ∧ o &&& s = o ∧ xd_ap hd o (s - o) ∧ a ≤ c ∧ c ≤ b ∧ x = B o a c + B (s - o) c b) ∨ ∃ c', a ≤ c' ∧ c' < c ∧ x = B i a c' + B (s - i) c' b) (2 ^ 62) v → k41 (lN v) (nI i) (nI c) := by
            intro dc
            induction dc with
            | zero =>
              intro c v hc hac hv
              apply r41
              unfold bd_X8_leastOf_41
              refine ⟨fun _ u eu => ?_, fun y => absurd ((xn_lt (by omega) (by omega)).mpr (by omega)) y⟩
              rw [eu, nI_1]
              refine ih (i + 1) v (by omega) (by omega) (hv.same (fun y => ⟨fun ⟨o, c', o0, o1, o2, o3, o4, o5, o6, o7⟩ => ?_, fun q => ?_⟩))
              · by_cases hoi : o = i
                · subst hoi; exact Or.inr ⟨c', o5, by omega, o7⟩
                · exact Or.inl ⟨o, c', by omega, o1, o2, o3, o4, o5, o6, o7⟩
              · rcases q with ⟨o, c', o0, o1⟩ | ⟨c', q1, q2, q3⟩
                · exact ⟨o, c', by omega, o1⟩
                · exact ⟨i, c', by omega, hi0, by omega, z, hap, q1, by omega, q3⟩
            | succ dc ihc =>
              intro c v hc hac hv
              apply r41
              unfold bd_X8_leastOf_41 sm_X8_at
              refine ⟨fun y => absurd ((xn_lt (by omega) (by omega)).mp y) (by omega), fun _ => ?_⟩
              rw [xn_at]
              refine ⟨vp_in_nI (by omega) (by omega), fun u eu => ?_⟩
              rw [(xm_sb s hs i hi32).2 z, xn_at]
              refine ⟨vp_in_nI (by omega) (by omega), fun t et => ?_⟩
              obtain ⟨g1, g2⟩ := ht i a c (by omega) hi32 hip hac (by omega)
              obtain ⟨g3, g4⟩ := ht (s - i) c b (by omega) (by omega) hrp (by omega) hbT
              rw [nI_clamp (by omega), g1] at eu
              rw [nI_clamp (by omega), g3] at et
              rw [eu, et, h62, lg_cmp_ge, xl_le (by decide) (by omega), lg_cmp_ge, xl_le (by decide) (by omega)]
              have hS : ∀ x, ((∃ o c, o < i ∧ 0 < o ∧ o < s ∧ o &&& s = o ∧ xd_ap hd o (s - o) ∧ a ≤ c ∧ c ≤ b ∧ x = B o a c + B (s - o) c b) ∨ ∃ c', a ≤ c' ∧ c' < c + 1 ∧ x = B i a c' + B (s - i) c' b) ↔ ((∃ o c, o < i ∧ 0 < o ∧ o < s ∧ o &&& s = o ∧ xd_ap hd o (s - o) ∧ a ≤ c ∧ c ≤ b ∧ x = B o a c + B (s - o) c b) ∨ ∃ c', a ≤ c' ∧ c' < c ∧ x = B i a c' + B (s - i) c' b) ∨ x = B i a c + B (s - i) c b := by
                intro x
                constructor
                · rintro (q1 | ⟨c', q1, q2, q3⟩)
                  · exact Or.inl (Or.inl q1)
                  · by_cases hcc : c' = c
                    · subst hcc; exact Or.inr q3
                    · exact Or.inl (Or.inr ⟨c', q1, by omega, q3⟩)
                · rintro ((q1 | ⟨c', q1, q2, q3⟩) | q1)
                  · exact Or.inl q1
                  · exact Or.inr ⟨c', q1, by omega, q3⟩
                  · exact Or.inr ⟨c, hac, by omega, q1⟩
              refine ⟨fun y w ew => ?_, fun y => ⟨fun y2 w ew => ?_, fun y2 => ?_⟩⟩
              · rw [ew, nI_1]; exact ihc (c + 1) v (by omega) (by omega) (hv.skip (show 2 ^ 62 ≤ B i a c + B (s - i) c b by omega) hS)
              · rw [ew, nI_1]; exact ihc (c + 1) v (by omega) (by omega) (hv.skip (show 2 ^ 62 ≤ B i a c + B (s - i) c b by omega) hS)
              · have hv1 := hv.1
                rw [lN_add]
                refine xs_mleast (by omega) (by omega) (fun w ew => ?_)
                rw [ew, nI_1]
                exact ihc (c + 1) _ (by omega) (by omega) (hv.more hS)
          exact hcut (b + 1 - a) a v (by omega) (Nat.le_refl _) (hv.same (fun y => ⟨fun q => q.elim id (fun ⟨_, _, _, _⟩ => by omega), fun q => Or.inl q⟩))
        · rw [eu, nI_1]; exact hskip (fun y => hno y.2)
  exact hparts (s - 1) 1 (2 ^ 62) (by omega) (by omega) ⟨Nat.le_refl _, fun x ⟨o, c, o1, o2, _⟩ => by omega, Or.inl rfl⟩
