/-! ===== the class's search ===== -/
theorem xl_lt {a b : Nat} (ha : a < 2 ^ 63) (hb : b < 2 ^ 63) : lN a < lN b ↔ a < b := by
  rw [Int64.lt_iff_toInt_lt, pf_lI ha, pf_lI hb]; omega
theorem xl_min {a b : Nat} (ha : a < 2 ^ 63) (hb : b < 2 ^ 63) : (if lN a < lN b then lN a else lN b) = lN (min a b) := by
  by_cases h : a < b
  · rw [if_pos ((xl_lt ha hb).mpr h), show min a b = a by omega]
  · rw [if_neg (fun z => h ((xl_lt ha hb).mp z)), show min a b = b by omega]
theorem xn_0 {a : Nat} (h : a < 2 ^ 31) : nI a = 0 ↔ a = 0 := xn_eq (b := 0) h (by omega)
theorem xm_and : ∀ x, x < 32 → ∀ r, r < 32 → (x &&& r = 0 ↔ ∀ q, q < 5 → r.testBit q = true → x.testBit q = false) := by decide +kernel
theorem xm_sb : ∀ s, s < 32 → ∀ o, o < 32 → (nI o &&& (nI s ^^^ (-1)) = 0 ↔ o &&& s = o) ∧ (o &&& s = o → nI s &&& (nI o ^^^ (-1)) = nI (s - o)) := by decide +kernel
/-- what the searches know of the pairs -/
def xd_K (ps : Nat) (hd hb rk : Nat → Nat) : Prop := ps < 32 ∧ (∀ p, p < 5 → ps.testBit p = true → hd p < 32 ∧ hb p < 32) ∧ (∀ p q, p < 5 → q < 5 → ps.testBit p = true → ps.testBit q = true → (hd q).testBit p = (hb p).testBit q) ∧ (∀ p q, p < 5 → q < 5 → ps.testBit p = true → (hd p).testBit q = true → rk p < rk q)
theorem xd_K.irr {ps : Nat} {hd hb rk : Nat → Nat} (h : xd_K ps hd hb rk) {p : Nat} (hp : p < 5) (hb : ps.testBit p = true) : (hd p).testBit p = false := by
  cases hz : (hd p).testBit p
  · rfl
  · have := h.2.2.2 p p hp hp hb hz; omega
def xd_Pt (hd : Nat → Nat) (s o : Nat) : Prop := 0 < o ∧ o < s ∧ o &&& s = o ∧ xd_ap hd o (s - o)
theorem xs_apart {ps : Nat} {hd hb rk : Nat → Nat} {o r : Nat} {I : xw_I} {F : xw_F} {G : xw_G} {post : Int32 → Prop} (hK : xd_K ps hd hb rk) (hF : ∀ p, p < 5 → ps.testBit p = true → F 15 p = nI (hd p) ∧ F 16 p = nI (hb p)) (ho : o < 32) (hr : r < 32) (hop : o &&& ps = o) (hrp : r &&& ps = r) (h1 : xd_ap hd o r → post 1) (h0 : ¬ xd_ap hd o r → post 0) : sm_X2_apart (nI o) (nI r) I F G post := by
  obtain ⟨k1, k2, k3, k4⟩ := hK
  intro k hk
  refine xl_up (fun i (_ : Unit) => k (nI i)) 5 (fun i _ => ∀ p q, p < i → q < 5 → o.testBit p = true → r.testBit q = true → (hd p).testBit q = false ∧ (hd q).testBit p = false) ?_ ?_ 0 () (by omega) (fun p q h => by omega)
  · intro i _ hi hv ih
    apply hk
    unfold bd_X2_apart_2
    refine ⟨fun c => absurd ((xn_le (a := 5) (by omega) (by omega)).mp c) (by omega), fun _ => xs_has (by omega) (by omega) (fun hb0 => ⟨fun _ v ev => ?_, fun c => absurd rfl c⟩) (fun hb1 => ⟨fun c => absurd c (by decide), fun _ => ?_⟩)⟩
    · rw [ev, nI_1]
      refine ih () (fun p q hp hq hop2 hrq => ?_)
      by_cases hpi : p = i
      · rw [hpi, hb0] at hop2; cases hop2
      · exact hv p q (by omega) hq hop2 hrq
    · have hpi : ps.testBit i = true := xm_in o ho ps k1 hop i hi hb1
      obtain ⟨f1, f2⟩ := hF i hi hpi
      obtain ⟨c1, c2⟩ := k2 i hi hpi
      have hin := vp_in_nI hi (show 5 < 2 ^ 31 by omega)
      refine ⟨hin, fun v ev => ⟨hin, fun w ew => ?_⟩⟩
      rw [nI_clamp (by omega), f1] at ev
      rw [nI_clamp (by omega), f2] at ew
      subst ev ew
      have hor : hd i ||| hb i < 32 := Nat.or_lt_two_pow (n := 5) c1 c2
      have hand : (hd i ||| hb i) &&& r < 32 := Nat.and_lt_two_pow (n := 5) _ hr
      rw [xb_or, nx_and, xn_0 (by omega), xm_and _ hor r hr]
      refine ⟨fun z v ev => ?_, fun z => h0 (fun hap => z ?_)⟩
      · rw [ev, nI_1]
        refine ih () (fun p q hp hq hop2 hrq => ?_)
        by_cases hpi2 : p = i
        · subst hpi2
          have := z q hq hrq
          rw [Nat.testBit_or, Bool.or_eq_false_iff] at this
          exact ⟨this.1, by rw [k3 p q hi hq hpi (xm_in r hr ps k1 hrp q hq hrq)]; exact this.2⟩
        · exact hv p q (by omega) hq hop2 hrq
      · intro q hq hrq
        rw [Nat.testBit_or, Bool.or_eq_false_iff]
        have := hap i q hi hq hb1 hrq
        exact ⟨this.1, by rw [← k3 i q hi hq hpi (xm_in r hr ps k1 hrp q hq hrq)]; exact this.2⟩
  · intro _ hv
    apply hk
    unfold bd_X2_apart_2
    exact ⟨fun _ => h1 (fun p q hp hq => hv p q hp hq), fun c => absurd ((xn_le (a := 5) (b := 5) (by omega) (by omega)).mpr (by omega)) c⟩
/-- the row of parts -/
def xd_row (hd : Nat → Nat) (s k : Nat) (f : Nat → Int32) : Prop := k < 32 ∧ (∀ i, i < k → ∃ o, f i = nI o ∧ xd_Pt hd s o) ∧ ∀ o, xd_Pt hd s o → ∃ i, i < k ∧ f i = nI o
theorem xs_parts {ps : Nat} {hd hb rk : Nat → Nat} {s : Nat} {I : xw_I} {F : xw_F} {G : xw_G} {post : xw_I → xw_F → xw_G → Prop} (hK : xd_K ps hd hb rk) (hF : ∀ p, p < 5 → ps.testBit p = true → F 15 p = nI (hd p) ∧ F 16 p = nI (hb p)) (hs0 : 0 < s) (hs : s < 32) (hsp : s &&& ps = s)
    (h : ∀ k I1 F1, I1 15 = nI k → (∀ j, j ≠ 15 → I1 j = I j) → xd_row hd s k (F1 31) → (∀ j, j ≠ 31 → F1 j = F j) → post I1 F1 G) : sm_X2_findParts (nI s) I F G post := by
  intro k7 r7
  unfold bd_X2_findParts_0
  intro I0 eI0
  have hsub : ∀ o, o < 32 → o &&& s = o → o &&& ps = o := fun o ho hos => (xm_3 ps hK.1 s hs hsp o ho hos).2.2
  have key : ∀ d i k I1 F1, i + d = s → 0 < i → k < i → I1 15 = nI k → (∀ j, j ≠ 15 → I1 j = I j) → (∀ q, q < k → ∃ o, F1 31 q = nI o ∧ xd_Pt hd s o) → (∀ o, o < i → xd_Pt hd s o → ∃ q, q < k ∧ F1 31 q = nI o) → (∀ j, j ≠ 31 → F1 j = F j) → k7 (nI i) I1 F1 G := by
    intro d
    induction d with
    | zero =>
      intro i k I1 F1 hid hi0 hki v1 v2 v3 v4 v5
      apply r7
      unfold bd_X2_findParts_7
      refine ⟨fun _ => h k I1 F1 v1 v2 ⟨by omega, v3, fun o ho => v4 o (by have := ho.2.1; omega) ho⟩ v5, fun c => absurd ((xn_le (by omega) (by omega)).mpr (by omega)) c⟩
    | succ d ih =>
      intro i k I1 F1 hid hi0 hki v1 v2 v3 v4 v5
      apply r7
      unfold bd_X2_findParts_7
      refine ⟨fun c => absurd ((xn_le (by omega) (by omega)).mp c) (by omega), fun _ => ?_⟩
      have hi32 : i < 32 := by omega
      rw [(xm_sb s hs i hi32).1]
      refine ⟨fun z v ev => ?_, fun z => ?_⟩
      · rw [ev, nI_1]
        refine ih (i + 1) k I1 F1 (by omega) (by omega) (by omega) v1 v2 v3 (fun o ho hp => ?_) v5
        by_cases hoi : o = i
        · subst hoi; exact absurd hp.2.2.1 z
        · exact v4 o (by omega) hp
      · rw [(xm_sb s hs i hi32).2 z]
        refine xs_apart hK (fun p hp hpb => by rw [v5 15 (by decide), v5 16 (by decide)]; exact hF p hp hpb) hi32 (by omega) (hsub i hi32 z) (hsub _ (by omega) (xm_sub s hs i hi32 z).1) (fun hap => ⟨fun c => absurd c (by decide), fun _ => ?_⟩) (fun hap => ⟨fun _ v ev => ?_, fun c => absurd rfl c⟩)
        · rw [v1]
          refine ⟨vp_in_nI (by omega) (by omega), fun F2 eF2 I2 eI2 v ev => ?_⟩
          rw [nI_clamp (by omega)] at eF2
          rw [nI_1] at eI2
          rw [ev, nI_1]
          have hPt : xd_Pt hd s i := ⟨hi0, by omega, z, hap⟩
          refine ih (i + 1) (k + 1) I2 F2 (by omega) (by omega) (by omega) (by rw [eI2, xw_ups]) (fun j hj => by rw [eI2, xw_upn hj]; exact v2 j hj) (fun q hq => ?_) (fun o ho hp => ?_) (fun j hj => by rw [eF2, xw_upn hj]; exact v5 j hj)
          · rw [eF2, xw_ups, xb_updi]
            by_cases hqk : q = k
            · rw [if_pos hqk]; exact ⟨i, rfl, hPt⟩
            · rw [if_neg hqk]; exact v3 q (by omega)
          · rw [eF2, xw_ups]
            by_cases hoi : o = i
            · subst hoi; exact ⟨k, by omega, by rw [xb_updi, if_pos rfl]⟩
            · obtain ⟨q, hq, e⟩ := v4 o (by omega) hp
              exact ⟨q, by omega, by rw [xb_updi, if_neg (by omega)]; exact e⟩
        · rw [ev, nI_1]
          refine ih (i + 1) k I1 F1 (by omega) (by omega) (by omega) v1 v2 v3 (fun o ho hp => ?_) v5
          by_cases hoi : o = i
          · subst hoi; exact absurd hp.2.2.2 hap
          · exact v4 o (by omega) hp
  exact key (s - 1) 1 0 I0 F (by omega) (by omega) (by omega) (by rw [eI0, xw_ups]; rfl) (fun j hj => by rw [eI0, xw_upn hj]) (fun q hq => by omega) (fun o ho hp => by have := hp.1; omega) (fun _ _ => rfl)
/-- one more candidate -/
theorem xd_min.more {S S2 : Nat → Prop} {N v x : Nat} (h : xd_min S N v) (hx : ∀ y, S2 y ↔ S y ∨ y = x) : xd_min S2 N (min x v) := by
  obtain ⟨h1, h2, h3⟩ := h
  refine ⟨by omega, fun y hy => ?_, ?_⟩
  · rcases (hx y).mp hy with h | h
    · have := h2 y h; omega
    · omega
  · by_cases hxv : x < v
    · rw [show min x v = x by omega]; exact Or.inr ((hx x).mpr (Or.inr rfl))
    · rw [show min x v = v by omega]
      rcases h3 with h | h
      · exact Or.inl h
      · exact Or.inr ((hx v).mpr (Or.inl h))
theorem xd_min.same {S S2 : Nat → Prop} {N v : Nat} (h : xd_min S N v) (hx : ∀ y, S2 y ↔ S y) : xd_min S2 N v := ⟨h.1, fun y hy => h.2.1 y ((hx y).mp hy), h.2.2.imp id (fun z => (hx v).mpr z)⟩
/-- the tables: prices of the pairs; sums of the sets that are less -/
def xd_tab (code C : Nat → Nat → Nat → Nat) (ps T s0 : Nat) (G : xw_G) : Prop := (∀ p a b, p < 5 → ps.testBit p = true → a ≤ b → b ≤ T → G 29 (p * 81 + a * 9 + b) = lN (code p a b)) ∧ (∀ s a b, s < s0 → s < 32 → s &&& ps = s → a ≤ b → b ≤ T → G 30 (s * 81 + a * 9 + b) = lN (C s a b) ∧ C s a b ≤ 2 ^ 60)
theorem xs_filled {ps T s a b : Nat} {hd hb rk : Nat → Nat} {code C : Nat → Nat → Nat → Nat} {I : xw_I} {F : xw_F} {G : xw_G} {post : Int64 → Prop} (hK : xd_K ps hd hb rk) (hF : ∀ p, p < 5 → ps.testBit p = true → F 16 p = nI (hb p)) (hT : T ≤ 8) (hM : ∀ p a b, p < 5 → ps.testBit p = true → a ≤ b → b ≤ T → code p a b ≤ 33 * 2 ^ 40) (ht : xd_tab code C ps T s G) (hs : s < 32) (hsp : s &&& ps = s) (hab : a ≤ b) (hbT : b ≤ T)
    (h : ∀ v, xd_min (fun x => ∃ p, p < 5 ∧ s.testBit p = true ∧ xd_top hd (s - 2 ^ p) p ∧ x = code p a b + C (s - 2 ^ p) a b) (2 ^ 60) v → post (lN v)) : sm_X2_filled (nI s) (nI (a * 9 + b)) I F G post := by
  obtain ⟨k1, k2, k3, k4⟩ := id hK
  intro k hk
  have h60 : (1152921504606846976 : Int64) = lN (2 ^ 60) := rfl
  unfold bd_X2_filled_0
  rw [h60]
  refine xl_up (fun i v => k (lN v) (nI i)) 5 (fun i v => xd_min (fun x => ∃ p, p < i ∧ p < 5 ∧ s.testBit p = true ∧ xd_top hd (s - 2 ^ p) p ∧ x = code p a b + C (s - 2 ^ p) a b) (2 ^ 60) v) ?_ ?_ 0 (2 ^ 60) (by omega) ⟨Nat.le_refl _, fun x ⟨p, hp, _⟩ => by omega, Or.inl rfl⟩
  · intro i v hi hv ih
    apply hk
    unfold bd_X2_filled_8
    have hskip : (∀ x, ¬ (s.testBit i = true ∧ xd_top hd (s - 2 ^ i) i ∧ x = code i a b + C (s - 2 ^ i) a b)) → k (lN v) (nI (i + 1)) := by
      intro hno
      refine ih v (hv.same (fun y => ⟨fun ⟨p, p1, p2, p3, p4, p5⟩ => ?_, fun ⟨p, p1, p2⟩ => ⟨p, by omega, p2⟩⟩))
      by_cases hpi : p = i
      · subst hpi; exact absurd ⟨p3, p4, p5⟩ (hno y)
      · exact ⟨p, by omega, p2, p3, p4, p5⟩
    refine ⟨fun c => absurd ((xn_le (a := 5) (by omega) (by omega)).mp c) (by omega), fun _ => xs_has (by omega) (by omega) (fun hb0 => ⟨fun _ w ew => ?_, fun c => absurd rfl c⟩) (fun hb1 => ⟨fun c => absurd c (by decide), fun _ => ?_⟩)⟩
    · rw [ew, nI_1]; exact hskip (fun x z => by rw [hb0] at z; cases z.1)
    · have hpi : ps.testBit i = true := xm_in s hs ps k1 hsp i hi hb1
      obtain ⟨c1, c2⟩ := k2 i hi hpi
      obtain ⟨b1, b2, b3⟩ := xm_bit s hs i hi hb1
      obtain ⟨t1, t2, t3⟩ := xm_two i hi
      have hand : hb i &&& s < 32 := Nat.and_lt_two_pow (n := 5) _ hs
      refine ⟨vp_in_nI hi (by omega), fun w ew => ?_⟩
      rw [nI_clamp (by omega), hF i hi hpi] at ew
      rw [ew, nx_and, xn_0 (by omega), xm_and _ c2 s hs]
      have htop : (∀ q, q < 5 → s.testBit q = true → (hb i).testBit q = false) ↔ xd_top hd (s - 2 ^ i) i := by
        constructor
        · intro z q hq hqs
          rw [(xm_sub s hs _ t2 b1).2 q hq] at hqs
          have hqs2 : s.testBit q = true := by cases hz : s.testBit q; rw [hz] at hqs; cases hqs; rfl
          rw [k3 i q hi hq hpi (xm_in s hs ps k1 hsp q hq hqs2)]; exact z q hq hqs2
        · intro z q hq hqs
          rw [← k3 i q hi hq hpi (xm_in s hs ps k1 hsp q hq hqs)]
          by_cases hqi : i = q
          · rw [← hqi]; exact hK.irr hi hpi
          · exact z q hq (by rw [(xm_sub s hs _ t2 b1).2 q hq, hqs, t3 q hq]; simp [hqi])
      refine ⟨fun z w2 ew2 => ?_, fun z => ?_⟩
      · rw [ew2, nI_1]; exact hskip (fun x y => z (htop.mpr y.2.1))
      · intro w2 ew2
        rw [xb_shl i (by omega), (xm_sb s hs _ t2).2 b1] at ew2
        subst ew2
        have hsub : (s - 2 ^ i) &&& ps = s - 2 ^ i := (xm_3 ps k1 s hs hsp _ (by omega) (xm_sub s hs _ t2 b1).1).2.2
        rw [show (81 : Int32) = nI 81 from rfl, xn_mul, nI_add, xn_mul, nI_add]
        refine ⟨vp_in_nI (by omega) (by omega), fun x ex => ⟨vp_in_nI (by omega) (by omega), fun y ey u eu t et => ?_⟩⟩
        rw [nI_clamp (by omega), ← Nat.add_assoc, ht.1 i a b hi hpi hab hbT] at ex
        obtain ⟨g1, g2⟩ := ht.2 (s - 2 ^ i) a b (by omega) (by omega) hsub hab hbT
        rw [nI_clamp (by omega), ← Nat.add_assoc, g1] at ey
        have hm := hM i a b hi hpi hab hbT
        have hv60 := hv.1
        rw [ex, ey, lN_add, xl_min (by omega) (by omega)] at eu
        rw [eu, et, nI_1]
        refine ih _ (hv.more (fun y => ⟨fun ⟨p, p1, p2, p3, p4, p5⟩ => ?_, fun z2 => ?_⟩))
        · by_cases hpi2 : p = i
          · subst hpi2; exact Or.inr p5
          · exact Or.inl ⟨p, by omega, p2, p3, p4, p5⟩
        · rcases z2 with ⟨p, p1, p2⟩ | z2
          · exact ⟨p, by omega, p2⟩
          · exact ⟨i, by omega, hi, hb1, htop.mp z, z2⟩
  · intro v hv
    apply hk
    unfold bd_X2_filled_8
    refine ⟨fun _ => h v (hv.same (fun y => ⟨fun ⟨p, p1, p2⟩ => ⟨p, p1, p1, p2⟩, fun ⟨p, p1, p2⟩ => ⟨p, p2⟩⟩)), fun c => absurd ((xn_le (a := 5) (b := 5) (by omega) (by omega)).mpr (by omega)) c⟩
theorem xs_parted {ps T s a b kc : Nat} {hd : Nat → Nat} {code C : Nat → Nat → Nat → Nat} {I : xw_I} {F : xw_F} {G : xw_G} {post : Int64 → Prop} (hps : ps < 32) (hT : T ≤ 8) (hI : I 15 = nI kc) (hrow : xd_row hd s kc (F 31)) (ht : xd_tab code C ps T s G) (hs : s < 32) (hsp : s &&& ps = s) (hab : a ≤ b) (hbT : b ≤ T)
    (h : ∀ v, xd_min (fun x => ∃ o c, xd_Pt hd s o ∧ a ≤ c ∧ c < b ∧ x = C o a c + C (s - o) c b) (2 ^ 60) v → post (lN v)) : sm_X2_parted (nI s) (nI a) (nI b) I F G post := by
  obtain ⟨w1, w2, w3⟩ := hrow
  have hsub : ∀ o, o < 32 → o &&& s = o → o &&& ps = o := fun o ho hos => (xm_3 ps hps s hs hsp o ho hos).2.2
  intro k8 k55 r8 r55
  have h60 : (1152921504606846976 : Int64) = lN (2 ^ 60) := rfl
  unfold bd_X2_parted_0
  rw [h60]
  refine xl_up (fun i v => k8 (lN v) (nI i)) kc (fun i v => xd_min (fun x => ∃ q o c, q < i ∧ F 31 q = nI o ∧ xd_Pt hd s o ∧ a ≤ c ∧ c < b ∧ x = C o a c + C (s - o) c b) (2 ^ 60) v) ?_ ?_ 0 (2 ^ 60) (by omega) ⟨Nat.le_refl _, fun x ⟨q, o, c, hq, _⟩ => by omega, Or.inl rfl⟩
  · intro i v hi hv ih
    apply r8
    unfold bd_X2_parted_8
    rw [hI]
    refine ⟨fun c => absurd ((xn_le (by omega) (by omega)).mp c) (by omega), fun _ => ?_⟩
    obtain ⟨o, eo, po⟩ := w2 i hi
    obtain ⟨o1, o2, o3, o4⟩ := id po
    have hin := vp_in_nI (show i < 32 by omega) (show 32 < 2 ^ 31 by omega)
    refine ⟨hin, fun x ex y ey => ⟨hin, fun x2 ex2 y2 ey2 => ?_⟩⟩
    rw [nI_clamp (by omega), eo] at ex ex2
    rw [ex, show (81 : Int32) = nI 81 from rfl, show (9 : Int32) = nI 9 from rfl, xn_mul, xn_mul, nI_add] at ey
    rw [ex2, (xm_sb s hs o (by omega)).2 o3, show (81 : Int32) = nI 81 from rfl, xn_mul, nI_add] at ey2
    subst ey ey2
    have hq1 := hsub o (by omega) o3
    have hq2 := hsub (s - o) (by omega) (xm_sub s hs o (by omega) o3).1
    have hinj : ∀ o', o' < s → nI o' = nI o → o' = o := fun o' h1 h2 => (xn_eq (by omega) (by omega)).mp h2
    have key : ∀ d c v, a ≤ c → c + d = b → xd_min (fun x => (∃ q o c, q < i ∧ F 31 q = nI o ∧ xd_Pt hd s o ∧ a ≤ c ∧ c < b ∧ x = C o a c + C (s - o) c b) ∨ ∃ c', a ≤ c' ∧ c' < c ∧ x = C o a c' + C (s - o) c' b) (2 ^ 60) v → k55 (lN v) (nI i) (nI (o * 81 + a * 9)) (nI ((s - o) * 81 + b)) (nI c) := by
      intro d
      induction d with
      | zero =>
        intro c v hac hcd hv
        apply r55
        unfold bd_X2_parted_55
        refine ⟨fun _ u eu => ?_, fun z => absurd ((xn_le (by omega) (by omega)).mpr (by omega)) z⟩
        rw [eu, nI_1]
        refine ih v (hv.same (fun y => ⟨fun ⟨q, o', c', q1, q2, q3, q4, q5, q6⟩ => ?_, fun z => ?_⟩))
        · by_cases hqi : q = i
          · subst hqi
            rw [eo] at q2
            have := hinj o' q3.2.1 q2.symm
            subst this
            exact Or.inr ⟨c', q4, by omega, q6⟩
          · exact Or.inl ⟨q, o', c', by omega, q2, q3, q4, q5, q6⟩
        · rcases z with ⟨q, o', c', q1, q2⟩ | ⟨c', z1, z2, z3⟩
          · exact ⟨q, o', c', by omega, q2⟩
          · exact ⟨i, o, c', by omega, eo, po, z1, by omega, z3⟩
      | succ d ihd =>
        intro c v hac hcd hv
        apply r55
        unfold bd_X2_parted_55
        refine ⟨fun z => absurd ((xn_le (by omega) (by omega)).mp z) (by omega), fun _ => ?_⟩
        rw [nI_add, show (9 : Int32) = nI 9 from rfl, xn_mul, nI_add]
        refine ⟨vp_in_nI (by omega) (by omega), fun x ex => ⟨vp_in_nI (by omega) (by omega), fun y ey u eu t et => ?_⟩⟩
        obtain ⟨g1, g2⟩ := ht.2 o a c o2 (by omega) hq1 hac (by omega)
        obtain ⟨g3, g4⟩ := ht.2 (s - o) c b (by omega) (by omega) hq2 (by omega) hbT
        rw [nI_clamp (by omega), g1] at ex
        rw [nI_clamp (by omega), show (s - o) * 81 + b + c * 9 = (s - o) * 81 + c * 9 + b by omega, g3] at ey
        have hv60 := hv.1
        rw [ex, ey, lN_add, xl_min (by omega) (by omega)] at eu
        rw [eu, et, nI_1]
        refine ihd (c + 1) _ (by omega) (by omega) (hv.more (fun y => ⟨fun z => ?_, fun z => ?_⟩))
        · rcases z with z | ⟨c', z1, z2, z3⟩
          · exact Or.inl (Or.inl z)
          · by_cases hcc : c' = c
            · subst hcc; exact Or.inr z3
            · exact Or.inl (Or.inr ⟨c', z1, by omega, z3⟩)
        · rcases z with (z | ⟨c', z1, z2, z3⟩) | z
          · exact Or.inl z
          · exact Or.inr ⟨c', z1, by omega, z3⟩
          · exact Or.inr ⟨c, hac, by omega, z⟩
    exact key (b - a) a v (Nat.le_refl _) (by omega) (hv.same (fun y => ⟨fun z => z.elim id (fun ⟨c', z1, z2, _⟩ => by omega), fun z => Or.inl z⟩))
  · intro v hv
    apply r8
    unfold bd_X2_parted_8
    rw [hI]
    refine ⟨fun _ => h v (hv.same (fun y => ⟨fun ⟨o, c, p1, p2, p3, p4⟩ => ?_, fun ⟨q, o, c, q1, q2, q3, q4, q5, q6⟩ => ⟨o, c, q3, q4, q5, q6⟩⟩)), fun c => absurd ((xn_le (by omega) (by omega)).mpr (Nat.le_refl _)) c⟩
    obtain ⟨q, hq, e⟩ := w3 o p1
    exact ⟨q, o, c, hq, e, p1, p2, p3, p4⟩
