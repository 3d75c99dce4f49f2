/-! ===== the class's search, whole ===== -/
/-- candidates of one set, its own sums in V -/
def xd_SV (hd : Nat → Nat) (code C : Nat → Nat → Nat → Nat) (V : Nat → Nat → Nat) (s a b x : Nat) : Prop :=
  (∃ p, p < 5 ∧ s.testBit p = true ∧ xd_top hd (s - 2 ^ p) p ∧ x = code p a b + C (s - 2 ^ p) a b) ∨
  (a < b ∧ (x = V (a + 1) b ∨ x = V a (b - 1) ∨ ∃ o c, xd_Pt hd s o ∧ a ≤ c ∧ c < b ∧ x = C o a c + C (s - o) c b))
theorem xs_sums {ps T s kc : Nat} {hd hb rk : Nat → Nat} {code C : Nat → Nat → Nat → Nat} {I : xw_I} {F : xw_F} {G : xw_G} {post : xw_I → xw_F → xw_G → Prop} (hK : xd_K ps hd hb rk) (hF : ∀ p, p < 5 → ps.testBit p = true → F 16 p = nI (hb p)) (hT : T ≤ 8) (hM : ∀ p a b, p < 5 → ps.testBit p = true → a ≤ b → b ≤ T → code p a b ≤ 33 * 2 ^ 40) (hI : I 15 = nI kc) (hrow : xd_row hd s kc (F 31)) (ht : xd_tab code C ps T s G) (hs0 : 0 < s) (hs : s < 32) (hsp : s &&& ps = s)
    (h : ∀ G1 V, (∀ a b, a ≤ b → b ≤ T → G1 30 (s * 81 + a * 9 + b) = lN (V a b) ∧ xd_min (xd_SV hd code C V s a b) (2 ^ 60) (V a b)) → (∀ i, i < s * 81 ∨ s * 81 + 81 ≤ i → G1 30 i = G 30 i) → (∀ j, j ≠ 30 → G1 j = G j) → post I F G1) : sm_X2_findSums (nI s) (nI T) I F G post := by
  intro k3 k12 k119 r3 r12 r119
  -- what holds once all rooms shorter than n, and those of length n from before i, are done
  obtain ⟨Inv, hInv⟩ : ∃ Inv : Nat → Nat → xw_G → (Nat → Nat → Nat) → Prop, ∀ n i G1 V, Inv n i G1 V ↔ ((∀ a b, a ≤ b → b ≤ T → (b < a + n ∨ (b = a + n ∧ a < i)) → G1 30 (s * 81 + a * 9 + b) = lN (V a b) ∧ xd_min (xd_SV hd code C V s a b) (2 ^ 60) (V a b)) ∧ (∀ i, i < s * 81 ∨ s * 81 + 81 ≤ i → G1 30 i = G 30 i) ∧ ∀ j, j ≠ 30 → G1 j = G j) := ⟨_, fun _ _ _ _ => Iff.rfl⟩
  have htab : ∀ n i G1 V, Inv n i G1 V → xd_tab code C ps T s G1 := by
    intro n i G1 V hv
    obtain ⟨v1, v2, v3⟩ := (hInv n i G1 V).mp hv
    exact ⟨fun p a b hp hpb hab hbT => by rw [v3 29 (by decide)]; exact ht.1 p a b hp hpb hab hbT, fun s' a b h1 h2 h3 h4 h5 => by rw [v2 _ (Or.inl (by omega))]; exact ht.2 s' a b h1 h2 h3 h4 h5⟩
  refine xl_up (fun n (S : xw_G × (Nat → Nat → Nat)) => k3 (nI n) I F S.1) (T + 1) (fun n S => Inv n 0 S.1 S.2) ?_ ?_ 0 (G, fun _ _ => 0) (by omega) ((hInv _ _ _ _).mpr ⟨fun a b h1 h2 h3 => by omega, fun _ _ => rfl, fun _ _ => rfl⟩)
  · rintro n ⟨G1, V⟩ hn hv ih
    dsimp only at hv ⊢
    apply r3
    unfold bd_X2_findSums_3
    refine ⟨fun z => absurd ((xn_lt (by omega) (by omega)).mp z) (by omega), fun _ => ?_⟩
    refine xl_up (fun i (S : xw_G × (Nat → Nat → Nat)) => k12 (nI n) (nI i) I F S.1) (T + 1 - n) (fun i S => Inv n i S.1 S.2) ?_ ?_ 0 (G1, V) (by omega) hv
    · rintro i ⟨G2, V2⟩ hi hw ih2
      dsimp only at hw ⊢
      have htb := htab n i G2 V2 hw
      obtain ⟨v1, v2, v3⟩ := (hInv n i G2 V2).mp hw
      -- the store
      have hstore : ∀ v, xd_min (xd_SV hd code C V2 s i (i + n)) (2 ^ 60) v → k119 (nI n) (nI i) (nI (i + n)) (lN v) I F G2 := by
        intro v hmin
        apply r119
        unfold bd_X2_findSums_119
        rw [show (81 : Int32) = nI 81 from rfl, show (9 : Int32) = nI 9 from rfl, xn_mul, xn_mul, nI_add, nI_add]
        refine ⟨vp_in_nI (by omega) (by omega), fun G3 eG3 u eu => ?_⟩
        rw [nI_clamp (by omega)] at eG3
        rw [eu, nI_1]
        obtain ⟨V3, hV3, hV3n⟩ : ∃ V3 : Nat → Nat → Nat, V3 i (i + n) = v ∧ ∀ x y, ¬ (x = i ∧ y = i + n) → V3 x y = V2 x y := ⟨fun x y => if x = i ∧ y = i + n then v else V2 x y, if_pos ⟨rfl, rfl⟩, fun x y h => if_neg h⟩
        refine ih2 (G3, V3) ((hInv _ _ _ _).mpr ⟨fun a b hab hbT hd' => ?_, fun q hq => ?_, fun j hj => ?_⟩)
        · dsimp only
          rw [eG3, xw_ups, xb_updl]
          by_cases hai : a = i ∧ b = i + n
          · obtain ⟨rfl, rfl⟩ := hai
            rw [if_pos rfl, hV3]
            refine ⟨rfl, hmin.same (fun y => ?_)⟩
            unfold xd_SV
            by_cases hn0 : n = 0
            · subst hn0; simp
            · rw [hV3n _ _ (by omega), hV3n _ _ (by omega)]
          · rw [if_neg (by omega), hV3n _ _ hai]
            obtain ⟨d1, d2⟩ := v1 a b hab hbT (by omega)
            refine ⟨d1, d2.same (fun y => ?_)⟩
            unfold xd_SV
            by_cases hab0 : a < b
            · rw [hV3n _ _ (by omega), hV3n _ _ (by omega)]
            · simp [hab0]
        · dsimp only; rw [eG3, xw_ups, xb_updl, if_neg (by omega)]; exact v2 q hq
        · dsimp only; rw [eG3, xw_upn hj]; exact v3 j hj
      apply r12
      unfold bd_X2_findSums_12
      rw [nI_add]
      refine ⟨fun z => absurd ((xn_lt (by omega) (by omega)).mp z) (by omega), fun _ w ew => ?_⟩
      rw [ew, show (9 : Int32) = nI 9 from rfl, xn_mul, nI_add]
      refine xs_filled hK hF hT hM htb hs hsp (show i ≤ i + n by omega) (show i + n ≤ T by omega) (fun vf hvf => ⟨fun z => ?_, fun z => ?_⟩)
      · have z : n ≤ 0 := (xn_le (b := 0) (by omega) (by omega)).mp z
        refine hstore vf (hvf.same (fun y => ?_))
        unfold xd_SV
        exact ⟨fun q => q.elim id (fun q => absurd q.1 (by omega)), fun q => Or.inl q⟩
      · have z : 0 < n := Nat.pos_of_ne_zero (fun y => z (by rw [y]; exact (xn_le (a := 0) (b := 0) (by omega) (by omega)).mpr (by omega)))
        rw [show (81 : Int32) = nI 81 from rfl, show (1 : Int32) = nI 1 from rfl, nI_add, xn_mul, xn_mul, nI_add, nI_add, nI_add, nI_add, xn_sub (by omega)]
        refine ⟨vp_in_nI (by omega) (by omega), fun x ex y ey => ⟨vp_in_nI (by omega) (by omega), fun x2 ex2 y2 ey2 => ?_⟩⟩
        obtain ⟨d1, d2⟩ := v1 (i + 1) (i + n) (by omega) (by omega) (by omega)
        obtain ⟨d3, d4⟩ := v1 i (i + n - 1) (by omega) (by omega) (by omega)
        rw [nI_clamp (by omega), d1] at ex
        rw [nI_clamp (by omega), show s * 81 + i * 9 + (i + n) - 1 = s * 81 + i * 9 + (i + n - 1) by omega, d3] at ex2
        have hb1 := hvf.1
        have hb2 := d2.1
        have hb3 := d4.1
        rw [ex, xl_min (by omega) (by omega)] at ey
        rw [ex2, ey, xl_min (by omega) (by omega)] at ey2
        refine xs_parted hK.1 hT hI hrow htb hs hsp (show i ≤ i + n by omega) (show i + n ≤ T by omega) (fun vp hvp u eu => ?_)
        have hb4 := hvp.1
        rw [ey2, xl_min (by omega) (by omega)] at eu
        rw [eu]
        refine hstore _ ?_
        obtain ⟨f1, f2, f3⟩ := hvf
        obtain ⟨p1, p2, p3⟩ := hvp
        refine ⟨by omega, fun q hq => ?_, ?_⟩
        · unfold xd_SV at hq
          rcases hq with hq | ⟨_, hq | hq | hq⟩
          · have := f2 q hq; omega
          · omega
          · omega
          · have := p2 q hq; omega
        · obtain ⟨m, hm⟩ : ∃ m, m = min vp (min (V2 i (i + n - 1)) (min (V2 (i + 1) (i + n)) vf)) := ⟨_, rfl⟩
          rw [← hm]
          unfold xd_SV
          have h4 : m = vp ∨ m = V2 i (i + n - 1) ∨ m = V2 (i + 1) (i + n) ∨ m = vf := by omega
          rcases h4 with e | e | e | e
          · rcases p3 with e2 | e2
            · left; omega
            · right; right; exact ⟨by omega, Or.inr (Or.inr (by rw [e]; exact e2))⟩
          · right; right; exact ⟨by omega, Or.inr (Or.inl e)⟩
          · right; right; exact ⟨by omega, Or.inl e⟩
          · rcases f3 with e2 | e2
            · left; omega
            · right; left; rw [e]; exact e2
    · rintro ⟨G2, V2⟩ hw
      dsimp only at hw ⊢
      obtain ⟨v1, v2, v3⟩ := (hInv _ _ _ _).mp hw
      apply r12
      unfold bd_X2_findSums_12
      rw [nI_add]
      refine ⟨fun _ u eu => ?_, fun z => absurd ((xn_lt (by omega) (by omega)).mpr (by omega)) z⟩
      rw [eu, nI_1]
      exact ih (G2, V2) ((hInv _ _ _ _).mpr ⟨fun a b h1 h2 h3 => v1 a b h1 h2 (by omega), v2, v3⟩)
  · rintro ⟨G1, V⟩ hv
    dsimp only at hv ⊢
    obtain ⟨v1, v2, v3⟩ := (hInv _ _ _ _).mp hv
    apply r3
    unfold bd_X2_findSums_3
    exact ⟨fun _ => h G1 V (fun a b h1 h2 => v1 a b h1 h2 (by omega)) v2 v3, fun z => absurd ((xn_lt (by omega) (by omega)).mpr (by omega)) z⟩
theorem xn_l2i (w : Nat) : (lN w).toInt32 = nI w := lN_i w
theorem xc_s15 {v : Nat} (h : v < 2 ^ 31) : (nI v >>> ((4 : Int32) &&& 31)) &&& (15 : Int32) = nI (v / 16 % 16) := by
  rw [show ((4 : Int32) &&& 31) = (nI 4 &&& 31) from rfl, xb_shr h (by omega), show (15 : Int32) = nI 15 from rfl, nx_and, show (15 : Nat) = 2 ^ 4 - 1 from rfl, Nat.and_two_pow_sub_one_eq_mod]
theorem xc_a15 (v : Nat) : nI v &&& (15 : Int32) = nI (v % 16) := by
  rw [show (15 : Int32) = nI 15 from rfl, nx_and, show (15 : Nat) = 2 ^ 4 - 1 from rfl, Nat.and_two_pow_sub_one_eq_mod]
theorem xn_mod32 (w : Nat) : nI w = nI (w % 2 ^ 32) := by
  apply Int32.toBitVec_inj.1
  show BitVec.ofNat 32 w = BitVec.ofNat 32 (w % 2 ^ 32)
  apply BitVec.eq_of_toNat_eq
  rw [BitVec.toNat_ofNat, BitVec.toNat_ofNat, Nat.mod_mod]
theorem xc_a15' (v : Nat) : (nI v >>> ((4 : Int32) &&& 31)) &&& (15 : Int32) = nI (v / 16 % 16) := by
  apply b_ext
  intro i hi
  rw [b_and, show ((4 : Int32) &&& 31) = (nI 4 &&& 31) from rfl, b_sshr 4 (by omega) _ hi, show (15 : Int32) = nI 15 from rfl, xb_bt _ _ hi, xb_bt _ _ hi, show v / 16 % 16 = v / 2 ^ 4 % 2 ^ 4 from rfl, Nat.testBit_mod_two_pow, Nat.testBit_div_two_pow]
  by_cases h4 : i < 4
  · rw [if_pos (by omega), xb_bt _ _ (by omega)]
    have : (15 : Nat).testBit i = true := by
      rcases (show i = 0 ∨ i = 1 ∨ i = 2 ∨ i = 3 by omega) with rfl | rfl | rfl | rfl <;> decide
    rw [this]; simp [h4, Nat.add_comm]
  · have : (15 : Nat).testBit i = false := Nat.testBit_lt_two_pow (Nat.lt_of_lt_of_le (by decide : 15 < 2 ^ 4) (Nat.pow_le_pow_right (by decide) (by omega)))
    rw [this]; simp [h4]
/-- a pair's digits in the sum: where it begins, where it ends -/
def xd_fr (w p : Nat) : Nat := w / 2 ^ (8 * (4 - p)) / 16 % 16
def xd_to (w p : Nat) : Nat := w / 2 ^ (8 * (4 - p)) % 16
def xw_placed (wf wt : Nat → Nat) (w ps : Nat) (I : xw_I) (F : xw_F) : Prop := I 14 = nI (w / 2 ^ 40) ∧ ∀ p, p < 5 → ps.testBit p = true → F 26 p = nI (xd_fr w p) ∧ F 27 p = nI (xd_to w p) ∧ F 28 p = nI (xd_cost p (wf p) (wt p) (xd_fr w p) (xd_to w p))
theorem xc_c63 : ∀ k, k < 64 → (((nI k).toInt64 &&& 63).toBitVec.smod 64).toNat = k := by decide +kernel
theorem xs_spans {ps w T : Nat} {wf wt : Nat → Nat} {I : xw_I} {F : xw_F} {G : xw_G} {post : xw_I → xw_F → xw_G → Prop} (hps : ps < 32) (hw : w < 2 ^ 62) (hT : T ≤ 8) (hF : ∀ p, p < 5 → ps.testBit p = true → F 22 p = nI (wf p) ∧ F 23 p = nI (wt p) ∧ wf p ≤ wt p ∧ wt p ≤ T)
    (h : ∀ I1 F1, xw_placed wf wt w ps I1 F1 → (∀ j, j ≠ 14 → I1 j = I j) → (∀ j, j < 26 ∨ 28 < j → F1 j = F j) → post I1 F1 G) : sm_X2_readSpans (nI ps) (lN w) I F G post := by
  intro k hk
  unfold bd_X2_readSpans_0
  intro I1 eI1
  rw [show (40 : Int32) = nI 40 from rfl, pf_shr (xc_c63 40 (by omega)) hw, xn_l2i] at eI1
  refine xl_up (fun i Fs => k (nI i) I1 Fs G) 5 (fun i Fs => (∀ p, p < i → ps.testBit p = true → Fs 26 p = nI (xd_fr w p) ∧ Fs 27 p = nI (xd_to w p) ∧ Fs 28 p = nI (xd_cost p (wf p) (wt p) (xd_fr w p) (xd_to w p))) ∧ ∀ j, j < 26 ∨ 28 < j → Fs j = F j) ?_ ?_ 0 F (by omega) ⟨fun p hp => by omega, fun _ _ => rfl⟩
  · intro i Fs hi hv ih
    apply hk
    unfold bd_X2_readSpans_12
    refine ⟨fun c => absurd ((xn_le (a := 5) (by omega) (by omega)).mp c) (by omega), fun _ => xs_has (by omega) (by omega) (fun hb0 => ⟨fun _ v ev => ?_, fun c => absurd rfl c⟩) (fun hb1 => ⟨fun c => absurd c (by decide), fun _ => ?_⟩)⟩
    · rw [ev, nI_1]
      refine ih Fs ⟨fun p hp hpb => ?_, hv.2⟩
      by_cases hpi : p = i
      · rw [hpi, hb0] at hpb; cases hpb
      · exact hv.1 p (by omega) hpb
    · unfold sm_X2_shiftOf
      rw [xc_sh i hi]
      intro v ev
      rw [pf_shr (xc_c63 _ (by omega)) hw, xn_l2i] at ev
      obtain ⟨f1, f2, f3, f4⟩ := hF i hi hb1
      have hin := vp_in_nI hi (show 5 < 2 ^ 31 by omega)
      have hci : (nI i).toNatClampNeg = i := nI_clamp (by omega)
      refine ⟨hin, fun F1 e1 => ⟨hin, fun F2 e2 => ⟨hin, fun v1 g1 => ⟨hin, fun v2 g2 => ⟨hin, fun v3 g3 => ⟨hin, fun v4 g4 => ?_⟩⟩⟩⟩⟩⟩
      rw [hci, ev, xc_a15'] at e1
      rw [hci, ev, xc_a15] at e2
      rw [hci, e2, xw_upn (by decide), e1, xw_upn (by decide), hv.2 22 (by omega), f1] at g1
      rw [hci, e2, xw_upn (by decide), e1, xw_upn (by decide), hv.2 23 (by omega), f2] at g2
      rw [hci, e2, xw_upn (by decide), e1, xw_ups, xb_updi, if_pos rfl] at g3
      rw [hci, e2, xw_ups, xb_updi, if_pos rfl] at g4
      subst g1 g2 g3 g4
      refine xs_cost hi f3 (by omega) (by have := Nat.mod_lt (w / 2 ^ (8 * (4 - i)) / 16) (show 0 < 16 by decide); omega) (by have := Nat.mod_lt (w / 2 ^ (8 * (4 - i))) (show 0 < 16 by decide); omega) ⟨hin, fun F3 e3 u eu => ?_⟩
      rw [hci] at e3
      rw [eu, nI_1]
      refine ih F3 ⟨fun p hp hpb => ?_, fun j hj => ?_⟩
      · rw [e3, xw_upn (by decide), xw_upn (by decide), xw_ups, e2, xw_upn (by decide), xw_ups, xw_upn (by decide), e1, xw_ups, xw_upn (by decide), xw_upn (by decide)]
        by_cases hpi : p = i
        · subst hpi
          simp only [xb_updi, if_pos]
          exact ⟨rfl, rfl, rfl⟩
        · simp only [xb_updi, if_neg hpi]
          exact hv.1 p (by omega) hpb
      · rw [e3, xw_upn (by omega), e2, xw_upn (by omega), e1, xw_upn (by omega)]; exact hv.2 j hj
  · intro Fs hv
    apply hk
    unfold bd_X2_readSpans_12
    refine ⟨fun _ => h I1 Fs ⟨by rw [eI1, xw_ups], fun p hp hpb => hv.1 p hp hpb⟩ (fun j hj => by rw [eI1, xw_upn hj]) hv.2, fun c => absurd ((xn_le (a := 5) (b := 5) (by omega) (by omega)).mpr (by omega)) c⟩
theorem xs_place {ps T : Nat} {hd hb rk wf wt : Nat → Nat} {I : xw_I} {F : xw_F} {G : xw_G} {post : xw_I → xw_F → xw_G → Prop} (hK : xd_K ps hd hb rk) (hI : I 8 = nI ps) (hF : ∀ p, p < 5 → ps.testBit p = true → F 15 p = nI (hd p) ∧ F 16 p = nI (hb p)) (hT : T ≤ 8) (hW : ∀ p, p < 5 → ps.testBit p = true → F 22 p = nI (wf p) ∧ F 23 p = nI (wt p) ∧ wf p ≤ wt p ∧ wt p ≤ T) (hG : ∀ i, i < 81 → G 30 i = 0)
    (h : ∀ C I1 F1 G1, xd_hC hd (xd_code wf wt) ps T (2 ^ 60) C → xw_placed wf wt (C ps 0 T) ps I1 F1 → (∀ j, j ≠ 14 → j ≠ 15 → I1 j = I j) → (∀ j, j < 26 ∨ 31 < j → F1 j = F j) → (∀ i, i < 81 → G1 30 i = 0) → post I1 F1 G1) : sm_X2_place (nI T) I F G post := by
  intro k3 k51 r3 r51
  unfold bd_X2_place_0
  have hps := hK.1
  have hM : ∀ p a b, p < 5 → ps.testBit p = true → a ≤ b → b ≤ T → xd_code wf wt p a b ≤ 33 * 2 ^ 40 := fun p a b hp hpb hab hbT => by
    obtain ⟨_, _, w3, w4⟩ := hW p hp hpb
    exact (xd_code_le hp (by omega) (by omega) (by omega) (by omega)).2
  -- the prices
  refine xl_up (fun i Gs => k3 (nI i) I F Gs) 5 (fun i Gs => (∀ p a b, p < i → ps.testBit p = true → a ≤ b → b ≤ T → Gs 29 (p * 81 + a * 9 + b) = lN (xd_code wf wt p a b)) ∧ ∀ j, j ≠ 29 → Gs j = G j) ?_ ?_ 0 G (by omega) ⟨fun p a b hp => by omega, fun _ _ => rfl⟩
  · intro i Gs hi hv ih
    apply r3
    unfold bd_X2_place_3
    rw [hI]
    refine ⟨fun c => absurd ((xn_le (a := 5) (by omega) (by omega)).mp c) (by omega), fun _ => xs_has (by omega) (by omega) (fun hb0 => ⟨fun _ v ev => ?_, fun c => absurd rfl c⟩) (fun hb1 => ⟨fun c => absurd c (by decide), fun _ => ?_⟩)⟩
    · rw [ev, nI_1]
      refine ih Gs ⟨fun p a b hp hpb => ?_, hv.2⟩
      by_cases hpi : p = i
      · rw [hpi, hb0] at hpb; cases hpb
      · exact hv.1 p a b (by omega) hpb
    · obtain ⟨w1, w2, w3, w4⟩ := hW i hi hb1
      have hin := vp_in_nI hi (show 5 < 2 ^ 31 by omega)
      refine ⟨hin, fun v ev => ⟨hin, fun u eu => ?_⟩⟩
      rw [nI_clamp (by omega), w1] at ev
      rw [nI_clamp (by omega), w2] at eu
      rw [ev, eu]
      refine xs_prices (wf := wf) (wt := wt) hi hT w3 w4 (fun G1 g1 g2 g3 x ex => ?_)
      rw [ex, nI_1]
      refine ih G1 ⟨fun p a b hp hpb hab hbT => ?_, fun j hj => (g3 j hj).trans (hv.2 j hj)⟩
      by_cases hpi : p = i
      · subst hpi; exact g1 a b hab hbT
      · rw [g2 _ (by omega)]; exact hv.1 p a b (by omega) hpb hab hbT
  · intro Gs hv
    apply r3
    unfold bd_X2_place_3
    refine ⟨fun _ => ?_, fun c => absurd ((xn_le (a := 5) (b := 5) (by omega) (by omega)).mpr (by omega)) c⟩
    -- the sets
    have key : ∀ d i C I1 F1 G1, i + d = 32 → 0 < i → (∀ a b, C 0 a b = 0) → (∀ s, 0 < s → s < i → s &&& ps = s → ∀ a b, a ≤ b → b ≤ T → xd_min (xd_SC hd (xd_code wf wt) C s a b) (2 ^ 60) (C s a b)) → xd_tab (xd_code wf wt) C ps T i G1 → (∀ j, j ≠ 15 → I1 j = I j) → (∀ j, j ≠ 31 → F1 j = F j) → (∀ q, q < 81 → G1 30 q = 0) → k51 (nI i) I1 F1 G1 := by
      intro d
      induction d with
      | zero =>
        intro i C I1 F1 G1 hid hi0 hC0 hC ht hI1 hF1 hG1
        have hi32 : i = 32 := by omega
        subst hi32
        apply r51
        unfold bd_X2_place_51
        have h8 : I1 8 = nI ps := (hI1 8 (by decide)).trans hI
        refine ⟨fun _ => ?_, fun c => absurd ((xn_le (a := 32) (b := 32) (by omega) (by omega)).mpr (by omega)) c⟩
        rw [h8, show (81 : Int32) = nI 81 from rfl, xn_mul, nI_add]
        refine ⟨vp_in_nI (by omega) (by omega), fun v ev => ?_⟩
        obtain ⟨t1, t2⟩ := ht.2 ps 0 T hps hps (Nat.and_self ps) (by omega) (Nat.le_refl _)
        rw [nI_clamp (by omega), show ps * 81 + T = ps * 81 + 0 * 9 + T by omega, t1] at ev
        rw [ev]
        refine xs_spans (wf := wf) (wt := wt) hps (by omega) hT (fun p hp hpb => ?_) (fun I2 F2 hpl hI2 hF2 => ?_)
        · rw [hF1 22 (by decide), hF1 23 (by decide)]; exact hW p hp hpb
        · refine h C I2 F2 G1 ⟨hC0, fun s s1 s2 s3 => hC s s1 s2 s3⟩ hpl (fun j a b => (hI2 j a).trans (hI1 j b)) (fun j hj => (hF2 j (by omega)).trans (hF1 j (by omega))) hG1
      | succ d ih =>
        intro i C I1 F1 G1 hid hi0 hC0 hC ht hI1 hF1 hG1
        apply r51
        unfold bd_X2_place_51
        have h8 : I1 8 = nI ps := (hI1 8 (by decide)).trans hI
        refine ⟨fun c => absurd ((xn_le (a := 32) (by omega) (by omega)).mp c) (by omega), fun _ => ?_⟩
        have hi32 : i < 32 := by omega
        rw [h8, (xm_sb ps hps i hi32).1]
        refine ⟨fun z v ev => ?_, fun z => ?_⟩
        · rw [ev, nI_1]
          refine ih (i + 1) C I1 F1 G1 (by omega) (by omega) hC0 (fun s s1 s2 s3 => ?_) ⟨ht.1, fun s a b s1 s2 s3 => ?_⟩ hI1 hF1 hG1
          · by_cases hsi : s = i
            · subst hsi; exact absurd s3 z
            · exact hC s s1 (by omega) s3
          · by_cases hsi : s = i
            · subst hsi; exact absurd s3 z
            · exact ht.2 s a b (by omega) s2 s3
        · refine xs_parts hK (fun p hp hpb => by rw [hF1 15 (by decide), hF1 16 (by decide)]; exact hF p hp hpb) hi0 hi32 z (fun kc I2 F2 hk hI2 hrow hF2 => ?_)
          refine xs_sums hK (fun p hp hpb => by rw [hF2 16 (by decide), hF1 16 (by decide)]; exact (hF p hp hpb).2) hT hM hk hrow ht hi0 hi32 z (fun G2 V hV hG2 hG2j => ?_)
          intro v ev
          rw [ev, nI_1]
          obtain ⟨C3, hC3, hC3n⟩ : ∃ C3 : Nat → Nat → Nat → Nat, (∀ a b, C3 i a b = V a b) ∧ ∀ s, s ≠ i → C3 s = C s := ⟨fun s => if s = i then V else C s, fun a b => by simp, fun s h => by simp [h]⟩
          refine ih (i + 1) C3 I2 F2 G2 (by omega) (by omega) (fun a b => by rw [hC3n 0 (by omega)]; exact hC0 a b) (fun s s1 s2 s3 a b hab hbT => ?_) ⟨fun p a b hp hpb hab hbT => by rw [hG2j 29 (by decide)]; exact ht.1 p a b hp hpb hab hbT, fun s a b s1 s2 s3 hab hbT => ?_⟩ (fun j hj => (hI2 j hj).trans (hI1 j hj)) (fun j hj => (hF2 j hj).trans (hF1 j hj)) (fun q hq => by rw [hG2 q (by omega)]; exact hG1 q hq)
          · by_cases hsi : s = i
            · subst hsi
              rw [hC3]
              refine (hV a b hab hbT).2.same (fun y => ?_)
              unfold xd_SC xd_SV
              constructor
              · rintro (⟨p, p1, p2, p3, p4⟩ | ⟨z0, z1 | z1 | ⟨o, c, o1, o2, o3, o4, o5, o6, o7⟩⟩)
                · obtain ⟨_, q2, _⟩ := xm_bit s hi32 p p1 p2
                  have := (xm_two p p1).1
                  rw [hC3n _ (by omega)] at p4; exact Or.inl ⟨p, p1, p2, p3, p4⟩
                · rw [hC3] at z1; exact Or.inr ⟨z0, Or.inl z1⟩
                · rw [hC3] at z1; exact Or.inr ⟨z0, Or.inr (Or.inl z1)⟩
                · rw [hC3n _ (by omega), hC3n _ (by omega)] at o7; exact Or.inr ⟨z0, Or.inr (Or.inr ⟨o, c, ⟨o1, o2, o3, o4⟩, o5, o6, o7⟩)⟩
              · rintro (⟨p, p1, p2, p3, p4⟩ | ⟨z0, z1 | z1 | ⟨o, c, ⟨o1, o2, o3, o4⟩, o5, o6, o7⟩⟩)
                · obtain ⟨_, q2, _⟩ := xm_bit s hi32 p p1 p2
                  have := (xm_two p p1).1
                  exact Or.inl ⟨p, p1, p2, p3, by rw [hC3n _ (by omega)]; exact p4⟩
                · exact Or.inr ⟨z0, Or.inl (by rw [hC3]; exact z1)⟩
                · exact Or.inr ⟨z0, Or.inr (Or.inl (by rw [hC3]; exact z1))⟩
                · exact Or.inr ⟨z0, Or.inr (Or.inr ⟨o, c, o1, o2, o3, o4, o5, o6, by rw [hC3n _ (by omega), hC3n _ (by omega)]; exact o7⟩)⟩
            · rw [hC3n _ hsi]
              refine (hC s s1 (by omega) s3 a b hab hbT).same (fun y => ?_)
              unfold xd_SC
              rw [hC3n _ hsi]
              constructor
              · rintro (⟨p, p1, p2, p3, p4⟩ | ⟨z0, z1 | z1 | ⟨o, c, o1, o2, o3, o4, o5, o6, o7⟩⟩)
                · have h2p := (xm_two p p1).1
                  rw [hC3n _ (by omega)] at p4; exact Or.inl ⟨p, p1, p2, p3, p4⟩
                · exact Or.inr ⟨z0, Or.inl z1⟩
                · exact Or.inr ⟨z0, Or.inr (Or.inl z1)⟩
                · rw [hC3n _ (by omega), hC3n _ (by omega)] at o7; exact Or.inr ⟨z0, Or.inr (Or.inr ⟨o, c, o1, o2, o3, o4, o5, o6, o7⟩)⟩
              · rintro (⟨p, p1, p2, p3, p4⟩ | ⟨z0, z1 | z1 | ⟨o, c, o1, o2, o3, o4, o5, o6, o7⟩⟩)
                · have h2p := (xm_two p p1).1
                  exact Or.inl ⟨p, p1, p2, p3, by rw [hC3n _ (by omega)]; exact p4⟩
                · exact Or.inr ⟨z0, Or.inl z1⟩
                · exact Or.inr ⟨z0, Or.inr (Or.inl z1)⟩
                · exact Or.inr ⟨z0, Or.inr (Or.inr ⟨o, c, o1, o2, o3, o4, o5, o6, by rw [hC3n _ (by omega), hC3n _ (by omega)]; exact o7⟩)⟩
          · by_cases hsi : s = i
            · subst hsi; rw [hC3]; exact ⟨(hV a b hab hbT).1, (hV a b hab hbT).2.1⟩
            · rw [hC3n _ hsi, hG2 _ (by omega)]; exact ht.2 s a b (by omega) s2 s3 hab hbT
    refine key 31 1 (fun _ _ _ => 0) I F Gs (by omega) (by omega) (fun _ _ => rfl) (fun s s1 s2 => by omega) ⟨fun p a b hp hpb hab hbT => hv.1 p a b hp hpb hab hbT, fun s a b s1 s2 s3 hab hbT => ?_⟩ (fun _ _ => rfl) (fun _ _ => rfl) (fun q hq => by rw [hv.2 30 (by decide)]; exact hG q hq)
    rw [hv.2 30 (by decide), hG _ (by omega)]
    exact ⟨rfl, Nat.zero_le _⟩
