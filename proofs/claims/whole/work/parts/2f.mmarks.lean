/-! ===== the reference places its marks ===== -/
theorem xk_by {n mc i : Nat} (hi : i < mc) (hn : 0 < n) : n ^ mc / n ^ (i + 1) = n ^ (mc - 1 - i) := by
  rw [Nat.pow_div (by omega) hn]; congr 1; omega
theorem xk_pow {n mc : Nat} (hn : n ≤ 9) (hn0 : 0 < n) (hmc : mc ≤ 3) : n ^ mc ≤ 729 := by
  have h1 : n ^ mc ≤ 9 ^ mc := Nat.pow_le_pow_left hn mc
  have h2 : 9 ^ mc ≤ 9 ^ 3 := Nat.pow_le_pow_right (by decide) hmc
  exact Nat.le_trans h1 h2
theorem xk_remn {q n : Nat} (hq : q < 2 ^ 31) (hn : 0 < n) (hn2 : n < 2 ^ 31) : nI q - nI q / nI n * nI n = nI (q % n) := by
  rw [pk_div hq hn hn2, xn_mul, xn_sub (Nat.div_mul_le_self q n)]
  congr 1
  have := Nat.div_add_mod q n
  rw [Nat.mul_comm] at this
  omega
theorem xs_mmarks {lk : Nat → Nat} {mc T : Nat} {mr mg : Nat → Nat} {I : xw_I} {F : xw_F} {G : xw_G} {post : xw_I → xw_F → xw_G → Prop} (hmc : mc ≤ 3) (hT : T ≤ 8) (hI2 : I 2 = nI T) (hI1 : I 1 = nI mc) (hl : ∀ w, w < 12 → F 6 w = nI (lk w)) (hlt : ∀ w, w < 12 → lk w < 2 ^ T) (hr : ∀ i, i < mc → F 5 i = nI (mr i) ∧ mr i < 3 ∧ F 4 (mr i) = nI (mg (mr i)) ∧ mg (mr i) ≤ 12) (hinj : ∀ i j, i < mc → j < mc → mr i = mr j → i = j)
    (h : ∀ w I1 F1, xk_first (fun i => xg_an lk (mg (mr i))) mc T w → I1 4 = nI (xk_S (fun i => xg_an lk (mg (mr i))) (xk_dg (T + 1) mc w) 0 mc) → (∀ i, i < mc → F1 12 (mr i) = nI (xk_dg (T + 1) mc w i)) → (∀ j, j ≠ 4 → I1 j = I j) → (∀ j, j ≠ 12 → F1 j = F j) → post I1 F1 G) : sm_X8_placeMarks I F G post := by
  intro k11 k37 k59 k93 k158 k172 r11 r37 r59 r93 r158 r172
  obtain ⟨n, hn⟩ : ∃ n, n = T + 1 := ⟨_, rfl⟩
  obtain ⟨wn, hwn⟩ : ∃ wn : Nat → Nat, wn = fun i => xg_an lk (mg (mr i)) := ⟨_, rfl⟩
  rw [← hwn, ← hn] at h
  have hwn8 : ∀ i, i < mc → wn i ≤ T := fun i hi => by rw [hwn]; exact xg_an_le hlt hT (hr i hi).2.2.2
  have hn0 : 0 < n := by omega
  have hn9 : n ≤ 9 := by omega
  have hpow := xk_pow hn9 hn0 hmc
  have hpow0 : 0 < n ^ mc := Nat.pow_pos hn0
  have hnz : ¬ nI n = 0 := nI_ne0 hn0 (by omega)
  unfold bd_X8_placeMarks_0
  intro v ev
  rw [hI2, nI_1, ← hn] at ev
  rw [ev]
  -- how many ways
  have hways : ∀ d i, i + d = mc → k11 (nI n) (nI (n ^ i)) (nI i) I F G := by
    intro d
    induction d with
    | succ d ih =>
      intro i hi
      apply r11
      unfold bd_X8_placeMarks_11
      rw [hI1]
      refine ⟨fun z => absurd ((xn_le (by omega) (by omega)).mp z) (by omega), fun _ u eu w ew => ?_⟩
      rw [eu, ew, nI_1, xn_mul, ← Nat.pow_succ]
      exact ih (i + 1) (by omega)
    | zero =>
      intro i hi
      have : i = mc := by omega
      subst this
      apply r11
      unfold bd_X8_placeMarks_11
      rw [hI1]
      refine ⟨fun _ I0 eI0 => ?_, fun z => absurd ((xn_le (by omega) (by omega)).mpr (Nat.le_refl _)) z⟩
      -- the best of the ways before w
      obtain ⟨Bst, hBst⟩ : ∃ Bst : Nat → xw_I → xw_F → Prop, ∀ w I1 F1, Bst w I1 F1 ↔ ((w = 0 ∧ I1 4 = -6) ∨ ∃ b, b < w ∧ xk_rise i T (xk_dg n i b) ∧ (∀ w2, w2 < w → xk_rise i T (xk_dg n i w2) → xk_S wn (xk_dg n i b) 0 i ≤ xk_S wn (xk_dg n i w2) 0 i ∧ (xk_S wn (xk_dg n i w2) 0 i = xk_S wn (xk_dg n i b) 0 i → b ≤ w2)) ∧ I1 4 = nI (xk_S wn (xk_dg n i b) 0 i) ∧ ∀ j, j < i → F1 12 (mr j) = nI (xk_dg n i b j)) := ⟨_, fun _ _ _ => Iff.rfl⟩
      have hSle : ∀ x : Nat → Nat, (∀ j, j < i → x j ≤ 8) → ∀ d j, j + d = i → xk_S wn x j d ≤ 8 * d := by
        intro x hx d
        induction d with
        | zero => intro j _; exact Nat.le_refl _
        | succ d ih =>
          intro j hj
          rw [xk_S]
          have h1 := ih (j + 1) (by omega)
          have h2 := hx j (by omega)
          have h3 := hwn8 j (by omega)
          have : xd_ab (x j) (wn j) ≤ 8 := by unfold xd_ab; omega
          omega
      have hdg : ∀ w j, xk_dg n i w j ≤ T := fun w j => by have := Nat.mod_lt (w / n ^ (i - 1 - j)) hn0; unfold xk_dg; omega
      have hS24 : ∀ w, xk_S wn (xk_dg n i w) 0 i ≤ 24 := fun w => by have := hSle (xk_dg n i w) (fun j _ => by have := hdg w j; omega) i 0 (by omega); omega
      have hmain : ∀ dw w I1 F1, w + dw = n ^ i → Bst w I1 F1 → (∀ j, j ≠ 4 → I1 j = I j) → (∀ j, j ≠ 12 → F1 j = F j) → k37 (nI n) (nI (n ^ i)) (nI w) I1 F1 G := by
        intro dw
        induction dw with
        | zero =>
          intro w I1 F1 hw hB hI hF
          apply r37
          unfold bd_X8_placeMarks_37
          refine ⟨fun _ => ?_, fun z => absurd ((xn_le (by omega) (by omega)).mpr (by omega)) z⟩
          rcases (hBst w I1 F1).mp hB with ⟨h0, _⟩ | ⟨b, b1, b2, b3, b4, b5⟩
          · omega
          · refine h b I1 F1 ?_ b4 b5 hI hF
            unfold xk_first
            rw [← hn]
            exact ⟨by omega, b2, fun w2 hw2 hr2 => b3 w2 (by omega) hr2⟩
        | succ dw ihw =>
          intro w I1 F1 hw hB hI hF
          have hI1' : I1 1 = nI i := (hI 1 (by decide)).trans hI1
          have hI2' : I1 2 = nI T := (hI 2 (by decide)).trans hI2
          apply r37
          unfold bd_X8_placeMarks_37
          refine ⟨fun z => absurd ((xn_le (by omega) (by omega)).mp z) (by omega), fun _ => ⟨hnz, fun by0 eby => ?_⟩⟩
          rw [pk_div (by omega) hn0 (by omega)] at eby
          -- the next way, where this one is not better
          have hnext : (xk_rise i T (xk_dg n i w) → ∃ b, b < w ∧ xk_rise i T (xk_dg n i b) ∧ (∀ w2, w2 < w → xk_rise i T (xk_dg n i w2) → xk_S wn (xk_dg n i b) 0 i ≤ xk_S wn (xk_dg n i w2) 0 i ∧ (xk_S wn (xk_dg n i w2) 0 i = xk_S wn (xk_dg n i b) 0 i → b ≤ w2)) ∧ I1 4 = nI (xk_S wn (xk_dg n i b) 0 i) ∧ (∀ j, j < i → F1 12 (mr j) = nI (xk_dg n i b j)) ∧ xk_S wn (xk_dg n i b) 0 i ≤ xk_S wn (xk_dg n i w) 0 i) → ¬ (w = 0 ∧ ¬ xk_rise i T (xk_dg n i w)) → ∀ u : Int32, u = nI w + 1 → k37 (nI n) (nI (n ^ i)) u I1 F1 G := by
            intro hb hw0 u eu
            rw [eu, nI_1]
            refine ihw (w + 1) I1 F1 (by omega) ((hBst _ _ _).mpr (Or.inr ?_)) hI hF
            by_cases hrw : xk_rise i T (xk_dg n i w)
            · obtain ⟨b, b1, b2, b3, b4, b5, b6⟩ := hb hrw
              refine ⟨b, by omega, b2, fun w2 hw2 hr2 => ?_, b4, b5⟩
              by_cases hww : w2 = w
              · subst hww; exact ⟨b6, fun _ => by omega⟩
              · exact b3 w2 (by omega) hr2
            · rcases (hBst w I1 F1).mp hB with ⟨h0, _⟩ | ⟨b, b1, b2, b3, b4, b5⟩
              · exact absurd ⟨h0, hrw⟩ hw0
              · refine ⟨b, by omega, b2, fun w2 hw2 hr2 => ?_, b4, b5⟩
                by_cases hww : w2 = w
                · subst hww; exact absurd hr2 hrw
                · exact b3 w2 (by omega) hr2
          have hrise0 : xk_rise i T (xk_dg n i 0) := ⟨fun j _ => by unfold xk_dg; simp, fun j _ => by unfold xk_dg; simp⟩
          have hw0 : ¬ (w = 0 ∧ ¬ xk_rise i T (xk_dg n i w)) := fun z => by rw [z.1] at z; exact z.2 hrise0
          -- this way is the best so far: it is kept
          have hkeep : xk_rise i T (xk_dg n i w) → (∀ b, b < w → xk_rise i T (xk_dg n i b) → xk_S wn (xk_dg n i w) 0 i < xk_S wn (xk_dg n i b) 0 i) → k158 (nI n) (nI (n ^ i)) (nI w) (nI (xk_S wn (xk_dg n i w) 0 i)) I1 F1 G := by
            intro hrw hbest
            apply r158
            unfold bd_X8_placeMarks_158
            intro I2 eI2
            refine ⟨hnz, fun by1 eby1 => ?_⟩
            rw [pk_div (by omega) hn0 (by omega)] at eby1
            rw [eby1, show n ^ i / n = n ^ i / n ^ (0 + 1) by rw [Nat.zero_add, Nat.pow_one]]
            have hI12 : I2 1 = nI i := by rw [eI2, xw_upn (by decide)]; exact hI1'
            have hst : ∀ dj j F2, j + dj = i → (∀ q, q < j → F2 12 (mr q) = nI (xk_dg n i w q)) → (∀ q, q ≠ 12 → F2 q = F q) → k172 (nI n) (nI (n ^ i)) (nI w) (nI (n ^ i / n ^ (j + 1))) (nI j) I2 F2 G := by
              intro dj
              induction dj with
              | zero =>
                intro j F2 hj h12 hF2
                apply r172
                unfold bd_X8_placeMarks_172
                rw [hI12]
                refine ⟨fun _ u eu => ?_, fun z => absurd ((xn_le (by omega) (by omega)).mpr (by omega)) z⟩
                rw [eu, nI_1]
                refine ihw (w + 1) I2 F2 (by omega) ((hBst _ _ _).mpr (Or.inr ⟨w, by omega, hrw, fun w2 hw2 hr2 => ?_, by rw [eI2, xw_ups], fun q hq => h12 q (by omega)⟩)) (fun q hq => by rw [eI2, xw_upn hq]; exact hI q hq) hF2
                by_cases hww : w2 = w
                · subst hww; exact ⟨Nat.le_refl _, fun _ => Nat.le_refl _⟩
                · have := hbest w2 (by omega) hr2
                  exact ⟨by omega, fun e => by omega⟩
              | succ dj ihj =>
                intro j F2 hj h12 hF2
                have hji : j < i := by omega
                obtain ⟨q1, q2, q3, q4⟩ := hr j hji
                have hby := xk_by hji hn0
                have hby0 : 0 < n ^ i / n ^ (j + 1) := by rw [hby]; exact Nat.pow_pos hn0
                have hbyle : n ^ i / n ^ (j + 1) ≤ 729 := Nat.le_trans (Nat.div_le_self _ _) hpow
                apply r172
                unfold bd_X8_placeMarks_172
                rw [hI12]
                refine ⟨fun z => absurd ((xn_le (by omega) (by omega)).mp z) (by omega), fun _ => ⟨vp_in_nI (by omega) (by omega), fun u eu => ?_⟩⟩
                rw [nI_clamp (by omega), hF2 5 (by decide), q1] at eu
                subst eu
                refine ⟨nI_ne0 hby0 (by omega), hnz, vp_in_nI q2 (by omega), fun F3 e3 => ⟨hnz, fun by2 eby2 t et => ?_⟩⟩
                rw [nI_clamp (by omega), pk_div (by omega) hby0 (by omega)] at e3
                have hq31 : w / (n ^ i / n ^ (j + 1)) < 2 ^ 31 := Nat.lt_of_le_of_lt (Nat.div_le_self _ _) (by omega)
                rw [xk_remn hq31 hn0 (by omega), hby] at e3
                rw [pk_div (by omega) hn0 (by omega), Nat.div_div_eq_div_mul, ← Nat.pow_succ] at eby2
                rw [eby2, et, nI_1]
                refine ihj (j + 1) F3 (by omega) (fun q hq => ?_) (fun q hq => by rw [e3, xw_upn hq]; exact hF2 q hq)
                rw [e3, xw_ups, xb_updi]
                by_cases hqj : q = j
                · subst hqj; rw [if_pos rfl]; rfl
                · rw [if_neg (fun z => hqj (hinj q j (by omega) hji z))]; exact h12 q (by omega)
            exact hst i 0 F1 (by omega) (fun q hq => by omega) hF
          -- one way, mark by mark
          rw [eby, show n ^ i / n = n ^ i / n ^ (0 + 1) by rw [Nat.zero_add, Nat.pow_one]]
          have hway : ∀ dj j (sm : Nat) (last : Nat) (ok : Bool), j + dj = i → sm + xk_S wn (xk_dg n i w) j dj = xk_S wn (xk_dg n i w) 0 i → last = xk_bd (xk_dg n i w) j → (ok = true ↔ ∀ q, q + 1 < j + 1 → 0 < q → q < j → xk_dg n i w (q - 1) ≤ xk_dg n i w q) → k59 (nI n) (nI (n ^ i)) (nI w) (nI sm) (nI last) (nI (n ^ i / n ^ (j + 1))) (nI ok.toNat) (nI j) I1 F1 G := by
            intro dj
            induction dj with
            | zero =>
              intro j sm last ok hj hsm hla hok
              have hji : j = i := by omega
              subst hji
              have hsm : sm = xk_S wn (xk_dg n j w) 0 j := by rw [← hsm]; rfl
              have hS := hS24 w
              have hrw : ok = true ↔ xk_rise j T (xk_dg n j w) := by
                rw [hok]
                refine ⟨fun z => ⟨fun q _ => hdg w q, fun q hq => by have := z (q + 1) (by omega) (by omega) (by omega); exact this⟩, fun z q _ q0 hq => ?_⟩
                have := z.2 (q - 1) (by omega)
                rw [show q - 1 + 1 = q by omega] at this
                exact this
              apply r59
              unfold bd_X8_placeMarks_59
              rw [hI1']
              refine ⟨fun _ => ⟨fun z => ?_, fun z => ⟨fun z2 => ?_, fun z2 => ⟨fun z3 => ?_, fun z3 => ?_⟩⟩⟩, fun z => absurd ((xn_le (by omega) (by omega)).mpr (Nat.le_refl _)) z⟩
              · have hno : ¬ xk_rise j T (xk_dg n j w) := fun y => by rw [hrw.mpr y] at z; exact absurd z (by decide)
                exact hnext (fun y => absurd y hno) hw0
              · have hyes : xk_rise j T (xk_dg n j w) := hrw.mp (by cases ok; exact absurd rfl z; rfl)
                rw [hsm]
                refine hkeep hyes (fun b hb hrb => ?_)
                rcases (hBst w I1 F1).mp hB with ⟨h0, _⟩ | ⟨b', b1, b2, b3, b4, b5⟩
                · omega
                · rw [b4] at z2; exact absurd z2 (nI_pos (by have := hS24 b'; omega))
              · have hyes : xk_rise j T (xk_dg n j w) := hrw.mp (by cases ok; exact absurd rfl z; rfl)
                rcases (hBst w I1 F1).mp hB with ⟨h0, h6⟩ | ⟨b', b1, b2, b3, b4, b5⟩
                · rw [h6] at z2; exact absurd (by decide) z2
                · have hb24 := hS24 b'
                  rw [b4] at z3
                  have z3 := (xn_le (by omega) (by omega)).mp z3
                  exact hnext (fun _ => ⟨b', b1, b2, b3, b4, b5, by omega⟩) hw0
              · have hyes : xk_rise j T (xk_dg n j w) := hrw.mp (by cases ok; exact absurd rfl z; rfl)
                rcases (hBst w I1 F1).mp hB with ⟨h0, h6⟩ | ⟨b', b1, b2, b3, b4, b5⟩
                · rw [h6] at z2; exact absurd (by decide) z2
                · have hb24 := hS24 b'
                  rw [b4] at z3
                  have z3 : ¬ xk_S wn (xk_dg n j b') 0 j ≤ sm := fun y => z3 ((xn_le (by omega) (by omega)).mpr y)
                  rw [hsm]
                  refine hkeep hyes (fun b hb hrb => ?_)
                  have := (b3 b hb hrb).1
                  omega
            | succ dj ihj =>
              intro j sm last ok hj hsm hla hok
              have hji : j < i := by omega
              obtain ⟨q1, q2, q3, q4⟩ := hr j hji
              have hby := xk_by hji hn0
              have hby0 : 0 < n ^ i / n ^ (j + 1) := by rw [hby]; exact Nat.pow_pos hn0
              have hbyle : n ^ i / n ^ (j + 1) ≤ 729 := Nat.le_trans (Nat.div_le_self _ _) hpow
              have hsm24 : sm ≤ 24 := by have := hS24 w; omega
              have hdj := hdg w j
              have hwj := hwn8 j hji
              have hlast8 : last ≤ 8 := by rw [hla]; cases j with | zero => exact Nat.zero_le _ | succ j => have := hdg w j; show xk_dg n i w j ≤ 8; omega
              -- the step once the flag is known
              have hgo : ∀ ok2 : Bool, (ok2 = true ↔ ok = true ∧ last ≤ xk_dg n i w j) → k93 (nI n) (nI (n ^ i)) (nI w) (nI sm) (nI (n ^ i / n ^ (j + 1))) (nI j) (nI (xk_dg n i w j)) (nI ok2.toNat) I1 F1 G := by
                intro ok2 hok2
                apply r93
                unfold bd_X8_placeMarks_93
                refine ⟨vp_in_nI (by omega) (by omega), fun u eu => ?_⟩
                rw [nI_clamp (by omega), hF 5 (by decide), q1] at eu
                subst eu
                refine ⟨vp_in_nI q2 (by omega), fun u eu => ?_⟩
                rw [nI_clamp (by omega), hF 4 (by decide), q3] at eu
                subst eu
                refine xs_manchor hI2' (fun x hx => by rw [hF 6 (by decide)]; exact hl x hx) hT hlt q4 ?_
                have hwj2 : xg_an lk (mg (mr j)) = wn j := by rw [hwn]
                rw [hwj2]
                refine xs_off (by omega) (by omega) ?_
                intro u eu
                refine ⟨hnz, fun by2 eby2 t et => ?_⟩
                rw [nI_add] at eu
                rw [pk_div (by omega) hn0 (by omega), Nat.div_div_eq_div_mul, ← Nat.pow_succ] at eby2
                rw [eu, eby2, et, nI_1]
                refine ihj (j + 1) _ _ ok2 (by omega) ?_ rfl ?_
                · rw [xk_S] at hsm
                  rw [← hsm]
                  have : xd_ab (wn j) (xk_dg n i w j) = xd_ab (xk_dg n i w j) (wn j) := by unfold xd_ab; omega
                  omega
                · rw [hok2, hok, hla]
                  constructor
                  · rintro ⟨y1, y2⟩ q _ q0 hq
                    by_cases hqj : q = j
                    · subst hqj
                      cases q with
                      | zero => omega
                      | succ q => exact y2
                    · exact y1 q (by omega) q0 (by omega)
                  · intro y
                    refine ⟨fun q _ q0 hq => y q (by omega) q0 (by omega), ?_⟩
                    cases j with
                    | zero => exact Nat.zero_le _
                    | succ j => exact y (j + 1) (by omega) (by omega) (by omega)
              apply r59
              unfold bd_X8_placeMarks_59
              rw [hI1']
              refine ⟨fun z => absurd ((xn_le (by omega) (by omega)).mp z) (by omega), fun _ => ⟨nI_ne0 hby0 (by omega), hnz, fun u eu => ?_⟩⟩
              have hq31 : w / (n ^ i / n ^ (j + 1)) < 2 ^ 31 := Nat.lt_of_le_of_lt (Nat.div_le_self _ _) (by omega)
              rw [pk_div (by omega) hby0 (by omega), xk_remn hq31 hn0 (by omega), hby] at eu
              have eu : u = nI (xk_dg n i w j) := eu
              rw [eu]
              refine ⟨fun z => hgo false ⟨fun y => (by cases y), fun y => by rw [y.1] at z; exact absurd z (by decide)⟩, fun z => ?_⟩
              have hokt : ok = true := by cases ok; exact absurd rfl z; rfl
              refine ⟨fun z2 => hgo false ⟨fun y => (by cases y), fun y => by have := (xn_lt (by omega) (by omega)).mp z2; omega⟩, fun z2 => hgo true ⟨fun _ => ⟨hokt, Nat.not_lt.mp (fun y => z2 ((xn_lt (by omega) (by omega)).mpr y))⟩, fun _ => rfl⟩⟩
          exact hway i 0 0 0 true (by omega) (by omega) rfl ⟨fun _ q _ q0 hq => by omega, fun _ => rfl⟩
      exact hmain (n ^ i) 0 I0 F (by omega) ((hBst _ _ _).mpr (Or.inl ⟨rfl, by rw [eI0, xw_ups]⟩)) (fun j hj => by rw [eI0, xw_upn hj]) (fun _ _ => rfl)
  have := hways mc 0 (by omega)
  rw [Nat.pow_zero] at this
  exact this
