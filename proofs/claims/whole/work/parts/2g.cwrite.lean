/-! ===== what is written: lists of signs; the class's writer ===== -/
def xt_L (c : Int32) (f : Nat → Int32) (l : List Nat) : Prop := c = nI l.length ∧ ∀ (i v : Nat), l[i]? = some v → f i = nI v
theorem xt_L.add {c : Int32} {f : Nat → Int32} {l : List Nat} {s : Nat} (h : xt_L c f l) : xt_L (nI (l.length + 1)) (upd f l.length (nI s)) (l ++ [s]) := by
  refine ⟨by rw [List.length_append]; rfl, fun i v hv => ?_⟩
  rw [xb_updi]
  by_cases hi : i < l.length
  · rw [List.getElem?_append_left hi] at hv
    rw [if_neg (by omega)]; exact h.2 i v hv
  · rw [List.getElem?_append_right (by omega)] at hv
    by_cases he : i = l.length
    · rw [he, Nat.sub_self] at hv
      rw [if_pos he]
      have hs : s = v := by simpa using hv
      rw [hs]
    · obtain ⟨d, hd⟩ : ∃ d, i - l.length = d + 1 := ⟨i - l.length - 1, by omega⟩
      rw [hd] at hv
      simp at hv
/-- the writer adds: its row of signs and their count alone -/
def xt_fs (I I1 : xw_I) (F F1 : xw_F) : Prop := (∀ j, j ≠ 17 → I1 j = I j) ∧ ∀ j, j ≠ 37 → F1 j = F j
theorem xt_fs.rf {I : xw_I} {F : xw_F} : xt_fs I I F F := ⟨fun _ _ => rfl, fun _ _ => rfl⟩
theorem xt_fs.tr {I I1 I2 : xw_I} {F F1 F2 : xw_F} (h : xt_fs I I1 F F1) (h2 : xt_fs I1 I2 F1 F2) : xt_fs I I2 F F2 := ⟨fun j a => (h2.1 j a).trans (h.1 j a), fun j q => (h2.2 j q).trans (h.2 j q)⟩
/-- its ranks too -/
def xt_fc (I I1 : xw_I) (F F1 : xw_F) : Prop := (∀ j, j ≠ 17 → I1 j = I j) ∧ ∀ j, j < 37 → F1 j = F j
theorem xt_fc.rf {I : xw_I} {F : xw_F} : xt_fc I I F F := ⟨fun _ _ => rfl, fun _ _ => rfl⟩
theorem xt_fc.tr {I I1 I2 : xw_I} {F F1 F2 : xw_F} (h : xt_fc I I1 F F1) (h2 : xt_fc I1 I2 F1 F2) : xt_fc I I2 F F2 := ⟨fun j a => (h2.1 j a).trans (h.1 j a), fun j q => (h2.2 j q).trans (h.2 j q)⟩
theorem xt_fs.fc {I I1 : xw_I} {F F1 : xw_F} (h : xt_fs I I1 F F1) : xt_fc I I1 F F1 := ⟨h.1, fun j q => h.2 j (by omega)⟩
theorem xt_fr {I : xw_I} {F F1 : xw_F} (h : ∀ j, j ≠ 38 → F1 j = F j) : xt_fc I I F F1 := ⟨fun _ _ => rfl, fun j q => h j (by omega)⟩
def xt_cat (f : Nat → List Nat) : Nat → List Nat
  | 0 => []
  | k + 1 => xt_cat f k ++ f k
theorem xt_cat_le (f : Nat → List Nat) {a : Nat} : ∀ {b : Nat}, a ≤ b → (xt_cat f a).length ≤ (xt_cat f b).length
  | 0, h => by rw [show a = 0 by omega]; exact Nat.le_refl _
  | b + 1, h => by
    by_cases hab : a = b + 1
    · rw [hab]; exact Nat.le_refl _
    · have := xt_cat_le f (show a ≤ b by omega)
      rw [xt_cat, List.length_append]; omega
theorem xt_cat_congr {f g : Nat → List Nat} : ∀ n, (∀ i, i < n → f i = g i) → xt_cat f n = xt_cat g n
  | 0, _ => rfl
  | n + 1, h => by rw [xt_cat, xt_cat, xt_cat_congr n (fun i hi => h i (by omega)), h n (by omega)]
theorem xt_add {s : Nat} {l : List Nat} {I : xw_I} {F : xw_F} {G : xw_G} {post : xw_I → xw_F → xw_G → Prop} (hl : l.length < 21) (hL : xt_L (I 17) (F 37) l) (h : ∀ I1 F1, xt_L (I1 17) (F1 37) (l ++ [s]) → xt_fs I I1 F F1 → post I1 F1 G) : sm_X6_add (nI s) I F G post := by
  unfold sm_X6_add
  rw [hL.1]
  refine ⟨fun z => absurd ((xn_le (a := 21) (by omega) (by omega)).mp z) (by omega), fun _ => ⟨vp_in_nI hl (by omega), fun F4 e4 I5 e5 => ?_⟩⟩
  rw [nI_clamp (by omega)] at e4
  rw [nI_1] at e5
  refine h I5 F4 ?_ ⟨fun j hj => by rw [e5, xw_upn hj], fun j hj => by rw [e4, xw_upn hj]⟩
  rw [e5, xw_ups, e4, xw_ups]
  exact hL.add
def xt_em (S p : Nat) : List Nat := if S.testBit p = true then [65 + p, 97 + p] else []
theorem xn_65 (i : Nat) : (65 : Int32) + nI i = nI (65 + i) := by rw [show (65 : Int32) = nI 65 from rfl, nI_add]
theorem xn_97 (i : Nat) : (97 : Int32) + nI i = nI (97 + i) := by rw [show (97 : Int32) = nI 97 from rfl, nI_add]
theorem xn_120 (i : Nat) : (120 : Int32) + nI i = nI (120 + i) := by rw [show (120 : Int32) = nI 120 from rfl, nI_add]
theorem xt_addEmpty {S : Nat} {l : List Nat} {I : xw_I} {F : xw_F} {G : xw_G} {post : xw_I → xw_F → xw_G → Prop} (hS : S < 32) (hL : xt_L (I 17) (F 37) l) (hb : l.length + (xt_cat (xt_em S) 5).length ≤ 21) (h : ∀ I1 F1, xt_L (I1 17) (F1 37) (l ++ xt_cat (xt_em S) 5) → xt_fs I I1 F F1 → post I1 F1 G) : sm_X6_addEmpty (nI S) I F G post := by
  intro k hk
  refine xl_up (fun i (s : xw_I × xw_F) => k (nI i) s.1 s.2 G) 5 (fun i s => xt_L (s.1 17) (s.2 37) (l ++ xt_cat (xt_em S) i) ∧ xt_fs I s.1 F s.2) ?_ ?_ 0 (I, F) (by omega) ⟨by rw [xt_cat, List.append_nil]; exact hL, xt_fs.rf⟩
  · intro i s hi h12 ih
    obtain ⟨h1, h2⟩ := h12
    apply hk
    unfold bd_X6_addEmpty_2
    refine ⟨fun z => absurd ((xn_le (a := 5) (by omega) (by omega)).mp z) (by omega), fun _ => xs_has (by omega) (by omega) (fun e => ⟨fun _ v ev => ?_, fun z => absurd rfl z⟩) (fun e => ⟨fun z => absurd z (by decide), fun _ => ?_⟩)⟩
    · rw [ev, nI_1]
      exact ih s ⟨by rw [xt_cat, xt_em, if_neg (by rw [e]; decide), List.append_nil]; exact h1, h2⟩
    · have hlen := xt_cat_le (xt_em S) (show i + 1 ≤ 5 by omega)
      have hc : xt_cat (xt_em S) (i + 1) = xt_cat (xt_em S) i ++ [65 + i, 97 + i] := by rw [xt_cat, xt_em, if_pos e]
      have hlen2 : (xt_cat (xt_em S) (i + 1)).length = (xt_cat (xt_em S) i).length + 2 := by rw [hc, List.length_append]; rfl
      rw [xn_65, xn_97]
      refine xt_add (by rw [List.length_append]; omega) h1 (fun I1 F1 g1 g2 => ?_)
      refine xt_add (by rw [List.length_append, List.length_append]; simp only [List.length_cons, List.length_nil]; omega) g1 (fun I2 F2 g3 g4 v ev => ?_)
      rw [ev, nI_1]
      exact ih (I2, F2) ⟨by rw [hc]; simpa only [List.append_assoc, List.cons_append, List.nil_append] using g3, (h2.tr g2).tr g4⟩
  · intro s h12
    apply hk
    unfold bd_X6_addEmpty_2
    exact ⟨fun _ => h s.1 s.2 h12.1 h12.2, fun z => absurd ((xn_le (a := 5) (b := 5) (by omega) (by omega)).mpr (by omega)) z⟩
/-- the bits of the first k -/
def xt_bc (s : Nat) : Nat → Nat
  | 0 => 0
  | k + 1 => xt_bc s k + (s.testBit k).toNat
def xt_b6 (x0 : Int32) : Int32 := x0 - ((x0.toUInt32 >>> ((1 : Int32).toUInt32 &&& Int32.toUInt32 31)).toInt32 &&& (1431655765 : Int32))
def xt_b7 (v6 : Int32) : Int32 := (v6 &&& (858993459 : Int32)) + ((v6.toUInt32 >>> ((2 : Int32).toUInt32 &&& Int32.toUInt32 31)).toInt32 &&& (858993459 : Int32))
def xt_b8 (v7 : Int32) : Int32 := (v7 + (v7.toUInt32 >>> ((4 : Int32).toUInt32 &&& Int32.toUInt32 31)).toInt32) &&& (252645135 : Int32)
def xt_b9 (v8 : Int32) : Int32 := v8 + (v8.toUInt32 >>> ((8 : Int32).toUInt32 &&& Int32.toUInt32 31)).toInt32
def xt_b10 (v9 : Int32) : Int32 := v9 + (v9.toUInt32 >>> ((16 : Int32).toUInt32 &&& Int32.toUInt32 31)).toInt32
theorem xt_bcv : ∀ s, s < 256 → xt_b10 (xt_b9 (xt_b8 (xt_b7 (xt_b6 (nI s))))) &&& (63 : Int32) = nI (xt_bc s 12) := by decide +kernel
theorem xt_bcp : ∀ s, s < 32 → xt_bc s 12 = xa_pop s := by decide +kernel
theorem xt_count {s : Nat} {post : Int32 → Prop} (hs : s < 256) (h : post (nI (xt_bc s 12))) : sm_J6_bitCount_0f7a4 (nI s) post := by
  intro v6 e6 v7 e7 v8 e8 v9 e9 v10 e10
  subst e6 e7 e8 e9 e10
  have h2 := xt_bcv s hs
  show post (xt_b10 (xt_b9 (xt_b8 (xt_b7 (xt_b6 (nI s))))) &&& (63 : Int32))
  rw [h2]; exact h
theorem xt_depth {hb : Nat → Nat} {p : Nat} {I : xw_I} {F : xw_F} {G : xw_G} {post : Int32 → Prop} (hp : p < 5) (hF : F 16 p = nI (hb p)) (hh : hb p < 32) (h : post (nI (xa_pop (hb p)))) : sm_X4_depth (nI p) I F G post := by
  refine ⟨vp_in_nI hp (by omega), fun v ev => ?_⟩
  rw [nI_clamp (by omega), hF] at ev
  subst ev
  refine xt_count (by omega) ?_
  rw [xt_bcp _ hh]; exact h
theorem xt_depthA {p : Nat} {I : xw_I} {F : xw_F} {G : xw_G} {post : Int32 → Prop} (hp : p < 5) (h : ∀ r, post r) : sm_X4_depth (nI p) I F G post := by
  refine ⟨vp_in_nI hp (by omega), fun v ev => ?_⟩
  intro v6 e6 v7 e7 v8 e8 v9 e9 v10 e10
  exact h _
def xt_cf (u dp : Nat → Nat) (p q : Nat) : Bool := decide (u q < u p) || (decide (u p = u q) && decide (dp q ≤ dp p))
def xt_of (u dp : Nat → Nat) (p q : Nat) : Bool := decide (u q < u p) || (decide (u p = u q) && decide (dp p < dp q))
theorem xa_pop5 : ∀ s, s < 32 → xa_pop s ≤ 5 := by decide +kernel
theorem xt_rkc {u dp : Nat → Nat} {p q : Nat} (hp : p < 5) (hq : q < p) (h1 : u p < 16 ∧ dp p ≤ 4) (h2 : u q < 16 ∧ dp q ≤ 4) : nI ((u p * 5 + dp p) * 5 + p) ≤ nI ((u q * 5 + dp q) * 5 + q) ↔ xt_cf u dp p q = false := by
  rw [xn_le (by omega) (by omega)]
  simp only [xt_cf, Bool.or_eq_false_iff, Bool.and_eq_false_iff, decide_eq_false_iff_not]
  omega
theorem xt_rko {u dp : Nat → Nat} {p q : Nat} (hp : p < 5) (hq : q < p) (h1 : 1 ≤ u p ∧ u p < 16 ∧ dp p ≤ 4) (h2 : 1 ≤ u q ∧ u q < 16 ∧ dp q ≤ 4) : nI ((u p * 5 - dp p) * 5 - p) ≤ nI ((u q * 5 - dp q) * 5 - q) ↔ xt_of u dp p q = false := by
  rw [xn_le (by omega) (by omega)]
  simp only [xt_of, Bool.or_eq_false_iff, Bool.and_eq_false_iff, decide_eq_false_iff_not]
  omega
theorem xt_rankClosing {ps : Nat} {hb u : Nat → Nat} {I : xw_I} {F : xw_F} {G : xw_G} {post : xw_I → xw_F → xw_G → Prop} (hF : ∀ p, p < 5 → ps.testBit p = true → F 16 p = nI (hb p) ∧ hb p < 32 ∧ F 26 p = nI (u p))
    (h : ∀ F1 : xw_F, (∀ p, p < 5 → ps.testBit p = true → F1 38 p = nI ((u p * 5 + xa_pop (hb p)) * 5 + p)) → (∀ j, j ≠ 38 → F1 j = F j) → post I F1 G) : sm_X6_rankClosing I F G post := by
  intro k hk
  refine xl_up (fun i (s : xw_F) => k (nI i) I s G) 5 (fun i s => (∀ p, p < i → ps.testBit p = true → s 38 p = nI ((u p * 5 + xa_pop (hb p)) * 5 + p)) ∧ ∀ j, j ≠ 38 → s j = F j) ?_ ?_ 0 F (by omega) ⟨fun p hp => absurd hp (Nat.not_lt_zero _), fun _ _ => rfl⟩
  · intro i s hi h12 ih
    obtain ⟨h1, h2⟩ := h12
    apply hk
    unfold bd_X6_rankClosing_2
    refine ⟨fun z => absurd ((xn_le (a := 5) (by omega) (by omega)).mp z) (by omega), fun _ => ⟨vp_in_nI hi (by omega), fun v6 e6 => ?_⟩⟩
    rw [nI_clamp (by omega), h2 26 (by decide)] at e6
    rw [nI_clamp (by omega)]
    have step : ∀ r7 : Int32, (ps.testBit i = true → r7 = nI (xa_pop (hb i))) → (vp_in (nI i) 5 ∧ ∀ F8 : xw_F, F8 = xw_up s 38 (upd (s 38) i ((((v6 * (5 : Int32)) + r7) * (5 : Int32)) + nI i)) → ∀ v9 : Int32, v9 = nI i + 1 → k v9 I F8 G) := by
      intro r7 hr
      refine ⟨vp_in_nI hi (by omega), fun F8 e8 v9 e9 => ?_⟩
      rw [e9, nI_1]
      refine ih F8 ⟨fun p hp hb => ?_, fun j hj => by rw [e8, xw_upn hj]; exact h2 j hj⟩
      rw [e8, xw_ups, xb_updi]
      by_cases hpi : p = i
      · subst hpi
        rw [if_pos rfl, hr hb, e6, (hF p hi hb).2.2, show (5 : Int32) = nI 5 from rfl, xn_mul, nI_add, xn_mul, nI_add]
      · rw [if_neg hpi]; exact h1 p (by omega) hb
    by_cases hb0 : ps.testBit i = true
    · exact xt_depth (hb := hb) hi (by rw [h2 16 (by decide)]; exact (hF i hi hb0).1) (hF i hi hb0).2.1 (step _ (fun _ => rfl))
    · exact xt_depthA hi (fun r => step r (fun z => absurd z hb0))
  · intro s h12
    apply hk
    unfold bd_X6_rankClosing_2
    exact ⟨fun _ => h s h12.1 h12.2, fun z => absurd ((xn_le (a := 5) (b := 5) (by omega) (by omega)).mpr (by omega)) z⟩
theorem xt_rankOpening {ps : Nat} {hb u : Nat → Nat} {I : xw_I} {F : xw_F} {G : xw_G} {post : xw_I → xw_F → xw_G → Prop} (hF : ∀ p, p < 5 → ps.testBit p = true → F 16 p = nI (hb p) ∧ hb p < 32 ∧ xa_pop (hb p) ≤ 4 ∧ F 27 p = nI (u p))
    (h : ∀ F1 : xw_F, (∀ p, p < 5 → ps.testBit p = true → 1 ≤ u p → F1 38 p = nI ((u p * 5 - xa_pop (hb p)) * 5 - p)) → (∀ j, j ≠ 38 → F1 j = F j) → post I F1 G) : sm_X6_rankOpening I F G post := by
  intro k hk
  refine xl_up (fun i (s : xw_F) => k (nI i) I s G) 5 (fun i s => (∀ p, p < i → ps.testBit p = true → 1 ≤ u p → s 38 p = nI ((u p * 5 - xa_pop (hb p)) * 5 - p)) ∧ ∀ j, j ≠ 38 → s j = F j) ?_ ?_ 0 F (by omega) ⟨fun p hp => absurd hp (Nat.not_lt_zero _), fun _ _ => rfl⟩
  · intro i s hi h12 ih
    obtain ⟨h1, h2⟩ := h12
    apply hk
    unfold bd_X6_rankOpening_2
    refine ⟨fun z => absurd ((xn_le (a := 5) (by omega) (by omega)).mp z) (by omega), fun _ => ⟨vp_in_nI hi (by omega), fun v6 e6 => ?_⟩⟩
    rw [nI_clamp (by omega), h2 27 (by decide)] at e6
    rw [nI_clamp (by omega)]
    have step : ∀ r7 : Int32, (ps.testBit i = true → r7 = nI (xa_pop (hb i))) → (vp_in (nI i) 5 ∧ ∀ F8 : xw_F, F8 = xw_up s 38 (upd (s 38) i ((((v6 * (5 : Int32)) - r7) * (5 : Int32)) - nI i)) → ∀ v9 : Int32, v9 = nI i + 1 → k v9 I F8 G) := by
      intro r7 hr
      refine ⟨vp_in_nI hi (by omega), fun F8 e8 v9 e9 => ?_⟩
      rw [e9, nI_1]
      refine ih F8 ⟨fun p hp hb h0 => ?_, fun j hj => by rw [e8, xw_upn hj]; exact h2 j hj⟩
      rw [e8, xw_ups, xb_updi]
      by_cases hpi : p = i
      · subst hpi
        have h4 := (hF p hi hb).2.2.1
        rw [if_pos rfl, hr hb, e6, (hF p hi hb).2.2.2, show (5 : Int32) = nI 5 from rfl, xn_mul, xn_sub (by omega), xn_mul, xn_sub (by omega)]
      · rw [if_neg hpi]; exact h1 p (by omega) hb h0
    by_cases hb0 : ps.testBit i = true
    · exact xt_depth (hb := hb) hi (by rw [h2 16 (by decide)]; exact (hF i hi hb0).1) (hF i hi hb0).2.1 (step _ (fun _ => rfl))
    · exact xt_depthA hi (fun r => step r (fun z => absurd z hb0))
  · intro s h12
    apply hk
    unfold bd_X6_rankOpening_2
    exact ⟨fun _ => h s h12.1 h12.2, fun z => absurd ((xn_le (a := 5) (b := 5) (by omega) (by omega)).mpr (by omega)) z⟩
/-- the first of a set, 5 if none -/
def xt_sel (f : Nat → Nat → Bool) (S : Nat) : Nat → Nat
  | 0 => 5
  | k + 1 => if S.testBit k = true ∧ (xt_sel f S k = 5 ∨ f k (xt_sel f S k) = true) then k else xt_sel f S k
theorem xt_sel_no {f : Nat → Nat → Bool} {S k : Nat} (h : S.testBit k = false) : xt_sel f S (k + 1) = xt_sel f S k := by
  rw [xt_sel, if_neg (fun x => by rw [h] at x; cases x.1)]
theorem xt_sel_yes {f : Nat → Nat → Bool} {S k : Nat} (h : S.testBit k = true) (h2 : xt_sel f S k = 5 ∨ f k (xt_sel f S k) = true) : xt_sel f S (k + 1) = k := by
  rw [xt_sel, if_pos ⟨h, h2⟩]
theorem xt_sel_nay {f : Nat → Nat → Bool} {S k : Nat} (h2 : ¬ (xt_sel f S k = 5 ∨ f k (xt_sel f S k) = true)) : xt_sel f S (k + 1) = xt_sel f S k := by
  rw [xt_sel, if_neg (fun x => h2 x.2)]
theorem xt_sel_in (f : Nat → Nat → Bool) (S : Nat) : ∀ k, k ≤ 5 → (xt_sel f S k = 5 ∧ ∀ p, p < k → S.testBit p = false) ∨ (xt_sel f S k < 5 ∧ S.testBit (xt_sel f S k) = true)
  | 0, _ => Or.inl ⟨rfl, fun p hp => by omega⟩
  | k + 1, hk => by
    rw [xt_sel]
    by_cases h : S.testBit k = true ∧ (xt_sel f S k = 5 ∨ f k (xt_sel f S k) = true)
    · rw [if_pos h]; exact Or.inr ⟨by omega, h.1⟩
    · rw [if_neg h]
      rcases xt_sel_in f S k (by omega) with h2 | h2
      · refine Or.inl ⟨h2.1, fun p hp => ?_⟩
        by_cases hpk : p = k
        · rw [hpk]; cases hz : S.testBit k
          · rfl
          · exact absurd ⟨hz, Or.inl h2.1⟩ h
        · exact h2.2 p (by omega)
      · exact Or.inr h2
theorem xt_sel_lt (f : Nat → Nat → Bool) (S : Nat) : ∀ k, xt_sel f S k = 5 ∨ xt_sel f S k < k
  | 0 => Or.inl rfl
  | k + 1 => by
    rw [xt_sel]
    by_cases h : S.testBit k = true ∧ (xt_sel f S k = 5 ∨ f k (xt_sel f S k) = true)
    · rw [if_pos h]; exact Or.inr (by omega)
    · rw [if_neg h]
      rcases xt_sel_lt f S k with h2 | h2
      · exact Or.inl h2
      · exact Or.inr (by omega)
theorem xt_sel_some {f : Nat → Nat → Bool} {S : Nat} (hS : S < 32) (h0 : S ≠ 0) : xt_sel f S 5 < 5 ∧ S.testBit (xt_sel f S 5) = true := by
  rcases xt_sel_in f S 5 (by omega) with h | h
  · obtain ⟨q, hq, hb⟩ := xm_some S hS h0
    rw [h.2 q hq] at hb; cases hb
  · exact h
def xt_ord (c : Nat) (f : Nat → Nat → Bool) : Nat → Nat → List Nat
  | 0, _ => []
  | n + 1, S => if S = 0 then [] else (c + xt_sel f S 5) :: xt_ord c f n (S - 2 ^ xt_sel f S 5)
theorem xt_rm : ∀ S, S < 32 → ∀ b, b < 5 → S.testBit b = true → nI S &&& (((1 : Int32) <<< (nI b &&& 31)) ^^^ (-1 : Int32)) = nI (S - 2 ^ b) := by decide +kernel
theorem xt_ordl {c : Nat} {f : Nat → Nat → Bool} : ∀ n S, S < 32 → xa_pop S ≤ n → (xt_ord c f n S).length = xa_pop S
  | 0, S, _, h => by rw [xt_ord, List.length_nil]; omega
  | n + 1, S, hS, h => by
    rw [xt_ord]
    by_cases h0 : S = 0
    · rw [if_pos h0, h0]; rfl
    · rw [if_neg h0]
      obtain ⟨a, b⟩ := xt_sel_some (f := f) hS h0
      have c1 := xm_bit S hS _ a b
      rw [List.length_cons, xt_ordl n _ (by omega) (by omega)]; omega
theorem xt_subb {S ps b : Nat} (hS : S < 32) (hsp : ∀ p, p < 5 → S.testBit p = true → ps.testBit p = true) (hb : b < 5) (hbS : S.testBit b = true) : ∀ p, p < 5 → (S - 2 ^ b).testBit p = true → ps.testBit p = true := by
  intro p hp h
  have h1 := xm_bit S hS b hb hbS
  rw [(xm_sub S hS (2 ^ b) (xm_two b hb).2.1 h1.1).2 p hp] at h
  exact hsp p hp (by revert h; cases S.testBit p <;> simp)
theorem xt_greatest {S : Nat} {f : Nat → Nat → Bool} {I : xw_I} {F : xw_F} {G : xw_G} {post : Int32 → Prop} (hR : ∀ p q, p < 5 → q < p → S.testBit p = true → S.testBit q = true → (F 38 p ≤ F 38 q ↔ f p q = false)) (hS : S < 32) (h0 : S ≠ 0) (h : post (nI (xt_sel f S 5))) : sm_X6_greatestRank (nI S) I F G post := by
  intro k hk
  have hen : ∀ i, i < 5 → (if i = 5 then (-1 : Int32) else nI i) = nI i := fun i hi => if_neg (by omega)
  refine xl_up (fun i (_ : Unit) => k (if xt_sel f S i = 5 then (-1 : Int32) else nI (xt_sel f S i)) (nI i)) 5 (fun _ _ => True) ?_ ?_ 0 () (by omega) trivial
  · intro i _ hi _ ih
    have ih := ih () trivial
    apply hk
    unfold bd_X6_greatestRank_4
    have hso := xt_sel_in f S i (by omega)
    refine ⟨fun z => absurd ((xn_le (a := 5) (by omega) (by omega)).mp z) (by omega), fun _ => xs_has (by omega) (by omega) (fun e => ⟨fun _ v ev => ?_, fun z => absurd rfl z⟩) (fun e => ⟨fun z => absurd z (by decide), fun _ => ⟨fun z v ev => ?_, fun z => ?_⟩⟩)⟩
    · rw [ev, nI_1]
      rw [xt_sel_no e] at ih
      exact ih
    · rw [ev, nI_1]
      by_cases h5 : xt_sel f S i = 5
      · rw [xt_sel_yes e (Or.inl h5), hen i hi] at ih; exact ih
      · rw [if_neg h5] at z
        exact absurd z (nI_pos (by have := (hso.resolve_left (fun x => h5 x.1)).1; omega))
    · by_cases h5 : xt_sel f S i = 5
      · rw [if_pos h5] at z; exact absurd (by decide) z
      · obtain ⟨b5, bS⟩ := hso.resolve_left (fun x => h5 x.1)
        have bi := (xt_sel_lt f S i).resolve_left h5
        rw [if_neg h5]
        refine ⟨vp_in_nI hi (by omega), fun v17 e17 => ⟨vp_in_nI b5 (by omega), fun v18 e18 => ?_⟩⟩
        rw [nI_clamp (by omega)] at e17
        rw [nI_clamp (by omega)] at e18
        have hr := hR i _ hi bi e bS
        rw [← e17, ← e18] at hr
        refine ⟨fun y v ev => ?_, fun y v ev => ?_⟩
        · rw [ev, nI_1]
          have y := hr.mp y
          rw [xt_sel_nay (fun x => by rcases x with w | w; exact h5 w; rw [y] at w; cases w), if_neg h5] at ih; exact ih
        · rw [ev, nI_1]
          have y : f i (xt_sel f S i) = true := by
            cases hz : f i (xt_sel f S i)
            · exact absurd (hr.mpr hz) y
            · rfl
          rw [xt_sel_yes e (Or.inr y), hen i hi] at ih; exact ih
  · intro _ _
    apply hk
    unfold bd_X6_greatestRank_4
    rw [if_neg (by have := (xt_sel_some (f := f) hS h0).1; omega)]
    exact ⟨fun _ => h, fun z => absurd ((xn_le (a := 5) (b := 5) (by omega) (by omega)).mpr (by omega)) z⟩
theorem xt_addRanked {Q S c : Nat} {f : Nat → Nat → Bool} {l : List Nat} {I : xw_I} {F : xw_F} {G : xw_G} {post : xw_I → xw_F → xw_G → Prop} (hR : ∀ p q, p < 5 → q < p → Q.testBit p = true → Q.testBit q = true → (F 38 p ≤ F 38 q ↔ f p q = false)) (hS : S < 32) (hsp : ∀ p, p < 5 → S.testBit p = true → Q.testBit p = true) (hL : xt_L (I 17) (F 37) l) (hb2 : l.length + (xt_ord c f 5 S).length ≤ 21)
    (h : ∀ I1 F1, xt_L (I1 17) (F1 37) (l ++ xt_ord c f 5 S) → xt_fs I I1 F F1 → post I1 F1 G) : sm_X6_addRanked (nI S) (nI c) I F G post := by
  intro k hk
  have key : ∀ n i S (l : List Nat) I1 F1, i + n = 5 → S < 32 → xa_pop S ≤ n → (∀ p, p < 5 → S.testBit p = true → Q.testBit p = true) → xt_L (I1 17) (F1 37) l → xt_fs I I1 F F1 → l.length + (xt_ord c f n S).length ≤ 21 → (∀ I2 F2, xt_L (I2 17) (F2 37) (l ++ xt_ord c f n S) → xt_fs I I2 F F2 → post I2 F2 G) → k (nI S) (nI i) I1 F1 G := by
    intro n
    induction n with
    | zero =>
      intro i S l I1 F1 hi _ _ _ h1 h2 _ h3
      apply hk
      unfold bd_X6_addRanked_5
      refine ⟨fun _ => h3 I1 F1 (by rw [xt_ord, List.append_nil]; exact h1) h2, fun z => absurd ((xn_le (a := 5) (by omega) (by omega)).mpr (by omega)) z⟩
    | succ n ihn =>
      intro i S l I1 F1 hi hS hp hsp h1 h2 hlen h3
      apply hk
      unfold bd_X6_addRanked_5
      refine ⟨fun z => absurd ((xn_le (a := 5) (by omega) (by omega)).mp z) (by omega), fun _ => ⟨fun z => ?_, fun z => ?_⟩⟩
      · have z : S = 0 := (xn_eq (b := 0) (by omega) (by omega)).mp z
        exact h3 I1 F1 (by rw [xt_ord, if_pos z, List.append_nil]; exact h1) h2
      · have z : S ≠ 0 := fun x => z (by rw [x]; rfl)
        rw [xt_ord, if_neg z] at h3 hlen
        obtain ⟨b5, bS⟩ := xt_sel_some (f := f) hS z
        have c1 := xm_bit S hS _ b5 bS
        rw [List.length_cons] at hlen
        refine xt_greatest (f := f) (fun p q hp5 hqp hbp hbq => by rw [h2.2 38 (by decide)]; exact hR p q hp5 hqp (hsp p hp5 hbp) (hsp q (by omega) hbq)) hS z ?_
        rw [nI_add]
        refine xt_add (by omega) h1 (fun I2 F2 g1 g2 v9 e9 v10 e10 => ?_)
        rw [xt_rm S hS _ b5 bS] at e9
        rw [nI_1] at e10
        rw [e9, e10]
        refine ihn (i + 1) _ _ I2 F2 (by omega) (by omega) (by omega) (xt_subb hS hsp b5 bS) g1 (h2.tr g2) (by rw [List.length_append, List.length_singleton]; omega) (fun I3 F3 g3 g4 => h3 I3 F3 ?_ g4)
        rw [List.append_assoc, List.singleton_append] at g3
        exact g3
  exact key 5 0 S l I F (by omega) hS (xa_pop5 S hS) hsp hL xt_fs.rf hb2 h
