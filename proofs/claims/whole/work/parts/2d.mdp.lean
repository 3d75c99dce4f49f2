/-! ===== the reference places its pairs ===== -/
theorem xc_d16 : ∀ a, a < 256 → nI a / (16 : Int32) = nI (a / 16) ∧ nI a - nI a / (16 : Int32) * (16 : Int32) = nI (a % 16) := by decide +kernel
theorem xs_mplace {lk : Nat → Nat} {ps T : Nat} {op cl hd wf wt : Nat → Nat} {I : xw_I} {F : xw_F} {G : xw_G} {post : xw_I → xw_F → xw_G → Prop} (hps : ps < 32) (hhd : ∀ p, p < 5 → ps.testBit p = true → hd p < 32) (hE : xe_MP ps op cl hd F) (hI : I 2 = nI T) (hl : ∀ w, w < 12 → F 6 w = nI (lk w)) (hT : T ≤ 8) (hlt : ∀ w, w < 12 → lk w < 2 ^ T) (hwf : ∀ p, p < 5 → ps.testBit p = true → wf p = xg_wf lk (op p) (cl p) ∧ wt p = xg_wt lk (op p) (cl p))
    (h : ∀ B F1 G1, xd_hB hd (xd_code wf wt) ps T (2 ^ 62) B → G1 0 0 = lN (B ps 0 T) → B ps 0 T ≤ 2 ^ 62 → (B ps 0 T < 2 ^ 62 → ∀ p, p < 5 → F1 10 p = nI (xd_fr (B ps 0 T) p) ∧ F1 11 p = nI (xd_to (B ps 0 T) p)) → (∀ j, j ≠ 10 → j ≠ 11 → F1 j = F j) → sm_X8_placeMarks I F1 G1 post) : sm_X8_place I F G post := by
  intro k7 k14 k25 k74 k113 r7 r14 r25 r74 r113
  have h62 : (4611686018427387904 : Int64) = lN (2 ^ 62) := rfl
  unfold bd_X8_place_0
  refine xs_there hps hE ?_
  -- what holds while the table is filled: sets below s, and of s the rows below a, and of a's row those below b
  have hfill : ∀ (d s : Nat) (B : Nat → Nat → Nat → Nat) (G1 : xw_G), s + d = ps + 1 → (∀ a b, B 0 a b = 0) → (∀ s', 0 < s' → s' < s → s' &&& ps = s' → ∀ a b, a ≤ b → b ≤ T → xd_min (xd_SB hd (xd_code wf wt) B s' a b) (2 ^ 62) (B s' a b)) → xd_mtab B ps T s G1 → k7 (nI ps) (nI s) I F G1 := by
    intro d
    induction d with
    | zero =>
      intro s B G1 hs hB0 hB ht
      apply r7
      unfold bd_X8_place_7 sm_X8_at
      refine ⟨fun _ => ?_, fun c => absurd ((xn_lt (by omega) (by omega)).mpr (by omega)) c⟩
      rw [hI, show (0 : Int32) = nI 0 from rfl, xn_at]
      refine ⟨vp_in_nI (by omega) (by omega), fun v ev G2 eG2 => ?_⟩
      obtain ⟨g1, g2⟩ := ht ps 0 T (by omega) hps (Nat.and_self ps) (by omega) (Nat.le_refl _)
      rw [nI_clamp (by omega), g1] at ev
      have hG0 : G2 0 0 = lN (B ps 0 T) := by rw [eG2, xw_ups]; exact ev
      have hBB : xd_hB hd (xd_code wf wt) ps T (2 ^ 62) B := ⟨hB0, fun s' s1 s2 s3 => hB s' s1 (by have := xm_le s' s2 ps hps s3; omega) s3⟩
      refine xl_up (fun i Fs => k113 (nI i) I Fs G2) 5 (fun i Fs => (B ps 0 T < 2 ^ 62 → ∀ p, p < i → Fs 10 p = nI (xd_fr (B ps 0 T) p) ∧ Fs 11 p = nI (xd_to (B ps 0 T) p)) ∧ ∀ j, j ≠ 10 → j ≠ 11 → Fs j = F j) ?_ ?_ 0 F (by omega) ⟨fun _ p hp => by omega, fun _ _ _ => rfl⟩
      · intro i Fs hi hv ih
        apply r113
        unfold bd_X8_place_113
        refine ⟨fun c => absurd ((xn_le (a := 5) (by omega) (by omega)).mp c) (by omega), fun _ w ew => ?_⟩
        have h16 : ¬ (16 : Int32) = 0 := by decide
        have hin := vp_in_nI hi (show 5 < 2 ^ 31 by omega)
        refine ⟨h16, hin, fun F2 e2 => ⟨h16, hin, fun F3 e3 u eu => ?_⟩⟩
        rw [nI_clamp (by omega)] at e2 e3
        rw [eu, nI_1]
        refine ih F3 ⟨fun hlt62 p hp => ?_, fun j a b => ?_⟩
        · rw [hG0, xc_sh i hi, pf_shr (xc_c63 _ (by omega)) hlt62, show (255 : Int64) = lN (2 ^ 8 - 1) from rfl, wb_mask (by have := Nat.div_le_self (B ps 0 T) (2 ^ (8 * (4 - i))); omega) (by omega), xn_l2i] at ew
          have hm := Nat.mod_lt (B ps 0 T / 2 ^ (8 * (4 - i))) (show 0 < 2 ^ 8 by decide)
          obtain ⟨d1, d2⟩ := xc_d16 _ hm
          rw [e3, xw_upn (by decide), xw_ups, e2, xw_ups, xw_upn (by decide)]
          simp only [xb_updi]
          by_cases hpi : p = i
          · subst hpi
            rw [if_pos rfl, if_pos rfl, ew, d2, d1]
            unfold xd_fr xd_to
            generalize B ps 0 T / 2 ^ (8 * (4 - p)) = q
            exact ⟨by rw [show q % 2 ^ 8 / 16 = q / 16 % 16 by omega], by rw [show q % 2 ^ 8 % 16 = q % 16 by omega]⟩
          · rw [if_neg hpi, if_neg hpi]; exact hv.1 hlt62 p (by omega)
        · rw [e3, xw_upn b, e2, xw_upn a]; exact hv.2 j a b
      · intro Fs hv
        apply r113
        unfold bd_X8_place_113
        exact ⟨fun _ => h B Fs G2 hBB hG0 g2 hv.1 hv.2, fun c => absurd ((xn_le (a := 5) (b := 5) (by omega) (by omega)).mpr (by omega)) c⟩
    | succ d ih =>
      intro s B G1 hs hB0 hB ht
      have hs32 : s < 32 := by omega
      apply r7
      unfold bd_X8_place_7
      refine ⟨fun c => absurd ((xn_lt (by omega) (by omega)).mp c) (by omega), fun _ => ?_⟩
      -- one set: its own sums V
      have hrows : ∀ (da a : Nat) (V : Nat → Nat → Nat) (G2 : xw_G), a + da = T + 1 → (∀ x y, x < a → x ≤ y → y ≤ T → s &&& ps = s → G2 9 (81 * s + 9 * x + y) = lN (V x y) ∧ V x y ≤ 2 ^ 62 ∧ (s = 0 → V x y = 0) ∧ (0 < s → xd_min (xd_SB hd (xd_code wf wt) B s x y) (2 ^ 62) (V x y))) → xd_mtab B ps T s G2 → k14 (nI ps) (nI s) (nI a) I F G2 := by
        intro da
        induction da with
        | zero =>
          intro a V G2 ha hV ht2
          apply r14
          unfold bd_X8_place_14
          rw [hI]
          refine ⟨fun _ u eu => ?_, fun c => absurd ((xn_lt (by omega) (by omega)).mpr (by omega)) c⟩
          rw [eu, nI_1]
          obtain ⟨B3, hB3, hB3n⟩ : ∃ B3 : Nat → Nat → Nat → Nat, (∀ x y, x ≤ y → y ≤ T → B3 s x y = if s &&& ps = s then V x y else 0) ∧ (∀ s', s' ≠ s → B3 s' = B s') := ⟨fun s' => if s' = s then (fun x y => if s &&& ps = s then V x y else 0) else B s', fun x y _ _ => by simp, fun s' h => by simp [h]⟩
          obtain ⟨B4, hB4, hB4n⟩ : ∃ B4 : Nat → Nat → Nat → Nat, (∀ x y, x ≤ y → y ≤ T → s &&& ps = s → B4 s x y = V x y) ∧ (∀ s', s' ≠ s → B4 s' = B s') := ⟨fun s' => if s' = s then V else B s', fun x y _ _ _ => by simp, fun s' h => by simp [h]⟩
          by_cases hs0 : s = 0
          · subst hs0
            refine ih 1 B G2 (by omega) hB0 (fun s' s1 s2 => by omega) (fun s' x y s1 s2 s3 hxy hyT => ?_)
            have : s' = 0 := by omega
            subst this
            obtain ⟨q1, q2, q3, q4⟩ := hV x y (by omega) hxy hyT s3
            rw [hB0, q1, q3 rfl]; exact ⟨rfl, Nat.zero_le _⟩
          · refine ih (s + 1) B4 G2 (by omega) (fun x y => by rw [hB4n 0 (Ne.symm hs0)]; exact hB0 x y) (fun s' s1 s2 s3 x y hxy hyT => ?_) (fun s' x y s1 s2 s3 hxy hyT => ?_)
            · have hSB : ∀ q, s' ≤ s → (xd_SB hd (xd_code wf wt) B4 s' x y q ↔ xd_SB hd (xd_code wf wt) B s' x y q) := by
                intro q hle
                unfold xd_SB
                constructor
                · rintro (⟨o, c, o1, o2, o3, o4, o5, o6, o7⟩ | ⟨p, x', y', p1, p2, p3, p4, p5, p6, p7⟩)
                  · rw [hB4n o (by omega), hB4n (s' - o) (by omega)] at o7; exact Or.inl ⟨o, c, o1, o2, o3, o4, o5, o6, o7⟩
                  · have h2p := (xm_two p p1).1
                    have hbt := (xm_bit s' (by omega) p p1 p2).2.1
                    rw [hB4n (s' - 2 ^ p) (by omega)] at p7; exact Or.inr ⟨p, x', y', p1, p2, p3, p4, p5, p6, p7⟩
                · rintro (⟨o, c, o1, o2, o3, o4, o5, o6, o7⟩ | ⟨p, x', y', p1, p2, p3, p4, p5, p6, p7⟩)
                  · exact Or.inl ⟨o, c, o1, o2, o3, o4, o5, o6, by rw [hB4n o (by omega), hB4n (s' - o) (by omega)]; exact o7⟩
                  · have h2p := (xm_two p p1).1
                    have hbt := (xm_bit s' (by omega) p p1 p2).2.1
                    exact Or.inr ⟨p, x', y', p1, p2, p3, p4, p5, p6, by rw [hB4n (s' - 2 ^ p) (by omega)]; exact p7⟩
              by_cases hss : s' = s
              · subst hss
                rw [hB4 x y hxy hyT s3]
                exact ((hV x y (by omega) hxy hyT s3).2.2.2 s1).same (fun q => hSB q (Nat.le_refl _))
              · rw [hB4n s' hss]
                exact (hB s' s1 (by omega) s3 x y hxy hyT).same (fun q => hSB q (by omega))
            · by_cases hss : s' = s
              · subst hss
                rw [hB4 x y hxy hyT s3]
                obtain ⟨q1, q2, q3, q4⟩ := hV x y (by omega) hxy hyT s3
                exact ⟨q1, q2⟩
              · rw [hB4n s' hss]; exact ht2 s' x y (by omega) s2 s3 hxy hyT
        | succ da iha =>
          intro a V G2 ha hV ht2
          apply r14
          unfold bd_X8_place_14
          rw [hI]
          refine ⟨fun c => absurd ((xn_lt (by omega) (by omega)).mp c) (by omega), fun _ => ?_⟩
          have hcols : ∀ (db b : Nat) (V : Nat → Nat → Nat) (G2 : xw_G), b + db = T + 1 → a ≤ b → (∀ x y, (x < a ∨ (x = a ∧ y < b)) → x ≤ y → y ≤ T → s &&& ps = s → G2 9 (81 * s + 9 * x + y) = lN (V x y) ∧ V x y ≤ 2 ^ 62 ∧ (s = 0 → V x y = 0) ∧ (0 < s → xd_min (xd_SB hd (xd_code wf wt) B s x y) (2 ^ 62) (V x y))) → xd_mtab B ps T s G2 → k25 (nI ps) (nI s) (nI a) (nI b) I F G2 := by
            intro db
            induction db with
            | zero =>
              intro b V G2 hb hab hV ht2
              apply r25
              unfold bd_X8_place_25
              rw [hI]
              refine ⟨fun _ u eu => ?_, fun c => absurd ((xn_lt (by omega) (by omega)).mpr (by omega)) c⟩
              rw [eu, nI_1]
              exact iha (a + 1) V G2 (by omega) (fun x y hx hxy hyT => hV x y (by omega) hxy hyT) ht2
            | succ db ihb =>
              intro b V G2 hb hab hV ht2
              have hstore : ∀ v : Nat, v ≤ 2 ^ 62 → (s &&& ps = s → (s = 0 → v = 0) ∧ (0 < s → xd_min (xd_SB hd (xd_code wf wt) B s a b) (2 ^ 62) v)) → k74 (nI ps) (nI s) (nI a) (nI b) (nI (81 * s + 9 * a + b)) (lN v) I F G2 := by
                intro v hv62 hvp
                apply r74
                unfold bd_X8_place_74
                refine ⟨vp_in_nI (by omega) (by omega), fun G3 eG3 u eu => ?_⟩
                rw [nI_clamp (by omega)] at eG3
                rw [eu, nI_1]
                obtain ⟨V3, hV3, hV3n⟩ : ∃ V3 : Nat → Nat → Nat, V3 a b = v ∧ ∀ x y, ¬ (x = a ∧ y = b) → V3 x y = V x y := ⟨fun x y => if x = a ∧ y = b then v else V x y, if_pos ⟨rfl, rfl⟩, fun x y h => if_neg h⟩
                refine ihb (b + 1) V3 G3 (by omega) (by omega) (fun x y hx hxy hyT hsp => ?_) (fun s' x y s1 s2 s3 hxy hyT => ?_)
                · rw [eG3, xw_ups, xb_updl]
                  by_cases hxa : x = a ∧ y = b
                  · obtain ⟨rfl, rfl⟩ := hxa
                    rw [if_pos rfl, hV3]
                    exact ⟨rfl, hv62, (hvp hsp).1, (hvp hsp).2⟩
                  · rw [if_neg (by omega), hV3n x y hxa]; exact hV x y (by omega) hxy hyT hsp
                · rw [eG3, xw_ups, xb_updl, if_neg (by omega)]; exact ht2 s' x y s1 s2 s3 hxy hyT
              apply r25
              unfold bd_X8_place_25 sm_X8_at
              rw [hI]
              refine ⟨fun c => absurd ((xn_lt (by omega) (by omega)).mp c) (by omega), fun _ => ?_⟩
              rw [xn_at, xm_an ps hps s hs32]
              refine ⟨fun z => ⟨fun y => ?_, fun y => ?_⟩, fun z => ?_⟩
              · rw [h62]; exact hstore (2 ^ 62) (Nat.le_refl _) (fun q => absurd q y)
              · have z : s ≠ 0 := fun q => z (by rw [q]; rfl)
                refine xs_leastOf hps hhd hE hI hl hT hlt hwf ht2 (by omega) hs32 y hab (by omega) (fun v hv => ?_)
                exact hstore v hv.1 (fun _ => ⟨fun q => absurd q z, fun _ => hv⟩)
              · have z : s = 0 := (xn_0 (by omega)).mp z
                exact hstore 0 (Nat.zero_le _) (fun _ => ⟨fun _ => rfl, fun q => by omega⟩)
          exact hcols (T + 1 - a) a V G2 (by omega) (Nat.le_refl _) (fun x y hx hxy hyT => hV x y (by omega) hxy hyT) ht2
      exact hrows (T + 1) 0 (fun _ _ => 0) G1 (by omega) (fun x y hx => by omega) ht
  exact hfill (ps + 1) 0 (fun _ _ _ => 0) G (by omega) (fun _ _ => rfl) (fun s' s1 s2 => by omega) (fun s' x y s1 => by omega)
