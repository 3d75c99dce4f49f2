/-! ===== costs, prices ===== -/
theorem wb_tb (n : Nat) : (lN n).toBitVec = BitVec.ofNat 64 n := rfl
theorem wb_inj {a b : Int64} (h : a.toBitVec = b.toBitVec) : a = b := Int64.toBitVec_inj.mp h
theorem wb_tn {n : Nat} (h : n < 2 ^ 64) : (lN n).toBitVec.toNat = n := by rw [wb_tb, BitVec.toNat_ofNat, Nat.mod_eq_of_lt h]
theorem wb_c : ∀ k, k < 64 → ((nI k).toInt64 &&& 63) = lN k := by decide +kernel
theorem wb_cu : ∀ k, k < 64 → ((nI k).toInt64.toUInt64 &&& Int64.toUInt64 63) = UInt64.ofNat k := by decide +kernel
theorem wb_sm : ∀ k, k < 64 → (BitVec.ofNat 64 k).smod 64 = BitVec.ofNat 64 k := by decide +kernel
theorem wb_pw {a b : Nat} (h : a ≤ b) : 2 ^ b = 2 ^ a * 2 ^ (b - a) := by rw [← Nat.pow_add]; congr 1; omega
theorem wb_lt2 {a b : Nat} (h : a < b) : 2 ^ a < 2 ^ b := Nat.pow_lt_pow_right (by decide) h
theorem wb_mod (n : Nat) : lN n = lN (n % 2 ^ 64) := wb_inj (by rw [wb_tb, wb_tb]; apply BitVec.eq_of_toNat_eq; rw [BitVec.toNat_ofNat, BitVec.toNat_ofNat, Nat.mod_mod])
theorem wb_shl (n : Nat) {k : Nat} (hk : k < 64) : lN n <<< ((nI k).toInt64 &&& 63) = lN (n * 2 ^ k) := by
  rw [wb_c k hk]
  apply wb_inj
  rw [Int64.toBitVec_shiftLeft, wb_tb, wb_tb, wb_tb, wb_sm k hk]
  apply BitVec.eq_of_toNat_eq
  rw [BitVec.shiftLeft_eq', BitVec.toNat_shiftLeft, BitVec.toNat_ofNat, BitVec.toNat_ofNat, BitVec.toNat_ofNat, Nat.mod_eq_of_lt (show k < 2 ^ 64 by omega), Nat.shiftLeft_eq, Nat.mul_mod, Nat.mod_mod, ← Nat.mul_mod]
theorem wb_and {a b : Nat} (ha : a < 2 ^ 64) (hb : b < 2 ^ 64) : lN a &&& lN b = lN (a &&& b) := by
  apply wb_inj
  rw [Int64.toBitVec_and, wb_tb, wb_tb, wb_tb]
  apply BitVec.eq_of_toNat_eq
  rw [BitVec.toNat_and, BitVec.toNat_ofNat, BitVec.toNat_ofNat, BitVec.toNat_ofNat, Nat.mod_eq_of_lt ha, Nat.mod_eq_of_lt hb, Nat.mod_eq_of_lt (Nat.and_lt_two_pow _ hb)]
theorem wb_or {a b : Nat} (ha : a < 2 ^ 64) (hb : b < 2 ^ 64) : lN a ||| lN b = lN (a ||| b) := by
  apply wb_inj
  rw [Int64.toBitVec_or, wb_tb, wb_tb, wb_tb]
  apply BitVec.eq_of_toNat_eq
  rw [BitVec.toNat_or, BitVec.toNat_ofNat, BitVec.toNat_ofNat, BitVec.toNat_ofNat, Nat.mod_eq_of_lt ha, Nat.mod_eq_of_lt hb, Nat.mod_eq_of_lt (Nat.or_lt_two_pow ha hb)]
theorem wb_mask {n k : Nat} (hn : n < 2 ^ 64) (hk : k < 64) : lN n &&& lN (2 ^ k - 1) = lN (n % 2 ^ k) := by
  rw [wb_and hn (by have := wb_lt2 hk; omega), Nat.and_two_pow_sub_one_eq_mod]
theorem wb_a1 {n : Nat} (hn : n < 2 ^ 64) : lN n &&& 1 = lN (n % 2) := wb_mask (k := 1) hn (by decide)
theorem u_tn {n : Nat} (h : n < 2 ^ 64) : (UInt64.ofNat n).toNat = n := Nat.mod_eq_of_lt h
theorem g_and {a b c : Nat} (ha : a < 2 ^ 64) (hb : b < 2 ^ 64) (hc : a &&& b = c) : lN a &&& lN b = lN c := by
  subst hc
  have h : UInt64.ofNat a &&& UInt64.ofNat b = UInt64.ofNat (a &&& b) := UInt64.toNat_inj.mp (by rw [UInt64.toNat_and, u_tn ha, u_tn hb, u_tn (Nat.and_lt_two_pow a hb)])
  have h2 := congrArg UInt64.toInt64 h
  exact h2
theorem g_and1 {a : Nat} (ha : a < 2 ^ 64) : lN a &&& 1 = lN (a % 2) := g_and (b := 1) ha (by decide) (Nat.and_two_pow_sub_one_eq_mod a 1)
theorem g_mask {a s p : Nat} (hp : 2 ^ s = p) (hs : s < 64) (ha : a < 2 ^ 64) : lN a &&& lN (p - 1) = lN (a % p) := by
  subst hp
  have := Nat.pow_lt_pow_right (show 1 < 2 by decide) hs
  exact g_and ha (by omega) (Nat.and_two_pow_sub_one_eq_mod a s)
theorem g_or {k p a b : Nat} (hp : 2 ^ k = p) (ha : a < p) (h : b * p + a < 2 ^ 64) : lN (b * p) ||| lN a = lN (b * p + a) := by
  subst hp
  have h1 : b * 2 ^ k ||| a = b * 2 ^ k + a := by rw [← Nat.shiftLeft_eq, Nat.shiftLeft_add_eq_or_of_lt ha]
  have h3 : UInt64.ofNat (b * 2 ^ k) ||| UInt64.ofNat a = UInt64.ofNat (b * 2 ^ k + a) := UInt64.toNat_inj.mp (by rw [UInt64.toNat_or, u_tn (by omega), u_tn (by omega), u_tn h, h1])
  have h2 := congrArg UInt64.toInt64 h3
  exact h2
theorem g_or' {k p a b : Nat} (hp : 2 ^ k = p) (ha : a < p) (h : a + b * p < 2 ^ 64) : lN a ||| lN (b * p) = lN (a + b * p) := by
  rw [Int64.or_comm, g_or hp ha (by omega), Nat.add_comm]
theorem pf_lI {a : Nat} (h : a < 2 ^ 63) : (lN a).toInt = (a : Int) := lg_ofNat_toInt h
theorem pf_shr {a d : Nat} {D : Int64} (hD : (D.toBitVec.smod 64).toNat = d) (h : a < 2 ^ 62) : lN a >>> D = lN (a / 2 ^ d) := by
  have hd : a / 2 ^ d ≤ a := Nat.div_le_self _ _
  apply Int64.toInt_inj.mp
  have e : (lN a >>> D).toInt = (lN a).toInt >>> d := by
    rw [← hD]
    exact BitVec.toInt_sshiftRight ..
  rw [e, Int.shiftRight_eq_div_pow, pf_lI (by omega), pf_lI (by omega)]
  rfl
def xd_ab (a b : Nat) : Nat := (a - b) + (b - a)
def xd_cost (p wf wt a b : Nat) : Nat := if p = 4 then 2 * max (xd_ab a wf) (xd_ab b wt) else if p < 2 then xd_ab a wf + xd_ab b wt else xd_ab a wf + xd_ab b wt + 2 * ((wt - wf) - (min b wt - max a wf))
def xd_code (wf wt : Nat → Nat) (p a b : Nat) : Nat := xd_cost p (wf p) (wt p) a b * 2 ^ 40 + (16 * a + b) * 2 ^ (8 * (4 - p))
theorem xc_abs : ∀ a, a < 16 → ∀ w, w < 9 → (if 0 ≤ nI a - nI w then nI a - nI w else 0 - (nI a - nI w)) = nI (xd_ab a w) := by decide +kernel
theorem xc_pos : ∀ a, a < 16 → ∀ b, b < 16 → (if (0 : Int32) < nI a - nI b then nI a - nI b else 0) = nI (a - b) := by decide +kernel
theorem xc_min {a b : Nat} (ha : a < 16) (hb : b < 16) : (if nI a < nI b then nI a else nI b) = nI (min b a) := by
  by_cases h : a < b
  · rw [if_pos ((xn_lt (by omega) (by omega)).mpr h), show min b a = a by omega]
  · rw [if_neg (fun z => h ((xn_lt (by omega) (by omega)).mp z)), show min b a = b by omega]
theorem xc_max {a b : Nat} (ha : a < 2 ^ 31) (hb : b < 2 ^ 31) : (if nI a < nI b then nI b else nI a) = nI (max a b) := by
  by_cases h : a < b
  · rw [if_pos ((xn_lt ha hb).mpr h), show max a b = b by omega]
  · rw [if_neg (fun z => h ((xn_lt ha hb).mp z)), show max a b = a by omega]
theorem xd_cost_le {p wf wt a b : Nat} (h1 : wf ≤ 8) (h2 : wt ≤ 8) (h3 : a ≤ 8) (h4 : b ≤ 8) : xd_cost p wf wt a b ≤ 32 := by
  unfold xd_cost xd_ab
  split
  · omega
  · split
    · omega
    · omega
theorem xd_code_le {wf wt : Nat → Nat} {p a b : Nat} (hp : p < 5) (h1 : wf p ≤ 8) (h2 : wt p ≤ 8) (h3 : a ≤ 8) (h4 : b ≤ 8) : (16 * a + b) * 2 ^ (8 * (4 - p)) < 2 ^ 40 ∧ xd_code wf wt p a b ≤ 33 * 2 ^ 40 := by
  have hc := xd_cost_le (p := p) h1 h2 h3 h4
  have h5 : (16 * a + b) * 2 ^ (8 * (4 - p)) < 2 ^ 40 := by
    have h6 : 2 ^ (8 * (4 - p)) ≤ 2 ^ 32 := Nat.pow_le_pow_right (by decide) (by omega)
    have h7 : (16 * a + b) * 2 ^ (8 * (4 - p)) ≤ 136 * 2 ^ 32 := Nat.mul_le_mul (by omega) h6
    have : 136 * 2 ^ 32 < 2 ^ 40 := by decide
    omega
  refine ⟨h5, ?_⟩
  unfold xd_code
  have := Nat.mul_le_mul_right (2 ^ 40) hc
  rw [show 33 * 2 ^ 40 = 32 * 2 ^ 40 + 2 ^ 40 from by decide]
  exact Nat.add_le_add this (Nat.le_of_lt h5)
theorem xs_cost {p wf wt a b : Nat} {post : Int32 → Prop} (hp : p < 5) (hw : wf ≤ wt) (hw8 : wt ≤ 8) (ha : a ≤ 15) (hb : b ≤ 15) (h : post (nI (xd_cost p wf wt a b))) : sm_X2_costOf (nI p) (nI wf) (nI wt) (nI a) (nI b) post := by
  intro v9 e9 v10 e10
  rw [xc_abs a (by omega) wf (by omega)] at e9
  rw [xc_abs b (by omega) wt (by omega)] at e10
  subst e9 e10
  have d1 : xd_ab a wf ≤ 15 := by unfold xd_ab; omega
  have d2 : xd_ab b wt ≤ 15 := by unfold xd_ab; omega
  refine ⟨fun c => ⟨fun c2 => ?_, fun c2 => ?_⟩, fun c => ?_⟩
  · have c : p ≠ 4 := fun z => c (by rw [z]; rfl)
    have c2 : 2 ≤ p := (xn_le (a := 2) (by omega) (by omega)).mp c2
    intro v13 e13 v14 e14 v15 e15
    rw [xc_min (by omega) (by omega)] at e13
    have e14 : v14 = nI (max a wf) := by
      rw [e14]
      by_cases h : a < wf
      · rw [if_pos ((xn_lt (by omega) (by omega)).mpr h), show max a wf = wf by omega]
      · rw [if_neg (fun z => h ((xn_lt (by omega) (by omega)).mp z)), show max a wf = a by omega]
    subst e13 e14
    rw [xc_pos _ (by omega) _ (by omega)] at e15
    subst e15
    rw [xn_sub hw, xn_sub (by omega), show (2 : Int32) = nI 2 from rfl, xn_mul, nI_add, nI_add]
    unfold xd_cost at h
    rw [if_neg c, if_neg (by omega)] at h
    exact h
  · have c : p ≠ 4 := fun z => c (by rw [z]; rfl)
    have c2 : p < 2 := Nat.not_le.mp (fun z => c2 ((xn_le (a := 2) (by omega) (by omega)).mpr z))
    rw [nI_add]
    unfold xd_cost at h
    rw [if_neg c, if_pos c2] at h
    exact h
  · have c : p = 4 := (xn_eq (b := 4) (by omega) (by omega)).mp c
    intro v16 e16
    rw [xc_max (by omega) (by omega)] at e16
    rw [e16, show (2 : Int32) = nI 2 from rfl, xn_mul]
    unfold xd_cost at h
    rw [if_pos c] at h
    exact h
theorem xs_off {a b : Nat} {post : Int32 → Prop} (ha : a < 2 ^ 31) (hb : b < 2 ^ 31) (h : post (nI (xd_ab b a))) : sm_X8_off (nI a) (nI b) post := by
  unfold sm_X8_off
  unfold xd_ab at h
  refine ⟨fun z => ?_, fun z => ?_⟩
  · have z := (xn_le hb ha).mp z
    rw [xn_sub z]
    rw [show b - a + (a - b) = a - b by omega] at h; exact h
  · have z : ¬ b ≤ a := fun y => z ((xn_le hb ha).mpr y)
    rw [xn_sub (by omega)]
    rw [show b - a + (a - b) = b - a by omega] at h; exact h
theorem xs_greater {a b : Nat} {post : Int32 → Prop} (ha : a < 2 ^ 31) (hb : b < 2 ^ 31) (h : post (nI (max a b))) : sm_X8_greater (nI a) (nI b) post := by
  unfold sm_X8_greater
  refine ⟨fun z => ?_, fun z => ?_⟩
  · have z := (xn_le ha hb).mp z
    rw [show max a b = b by omega] at h; exact h
  · have z : ¬ a ≤ b := fun y => z ((xn_le ha hb).mpr y)
    rw [show max a b = a by omega] at h; exact h
theorem xs_mcost {lk : Nat → Nat} {T p oa ob a b : Nat} {I : xw_I} {F : xw_F} {G : xw_G} {post : Int32 → Prop} (hI : I 2 = nI T) (hl : ∀ w, w < 12 → F 6 w = nI (lk w)) (hT : T ≤ 8) (hlt : ∀ w, w < 12 → lk w < 2 ^ T) (hp : p < 5) (h1 : F 1 p = nI oa) (h2 : F 2 p = nI ob) (hab : oa ≤ ob) (hb : ob ≤ 12) (ha8 : a ≤ 15) (hb8 : b ≤ 15) (h : post (nI (xd_cost p (xg_wf lk oa ob) (xg_wt lk oa ob) a b))) : sm_X8_costOf (nI p) (nI a) (nI b) I F G post := by
  intro k hk
  unfold bd_X8_costOf_0
  obtain ⟨w1, w2⟩ := xg_w_le (a := oa) (b := ob) hlt hT (by omega) hb
  obtain ⟨wf, hwf⟩ : ∃ x, x = xg_wf lk oa ob := ⟨_, rfl⟩
  obtain ⟨wt, hwt⟩ : ∃ x, x = xg_wt lk oa ob := ⟨_, rfl⟩
  rw [← hwf, ← hwt] at h w1
  rw [← hwt] at w2
  have d1 : xd_ab a wf ≤ 15 := by unfold xd_ab; omega
  have d2 : xd_ab b wt ≤ 15 := by unfold xd_ab; omega
  refine xs_mwf hI hl hT hlt hp h1 h2 hab hb ?_
  refine xs_mwt hI hl hT hlt hp h1 h2 hab hb ?_
  rw [← hwf, ← hwt]
  refine xs_off (by omega) (by omega) (xs_off (by omega) (by omega) ?_)
  intro v ev
  rw [nI_add] at ev
  refine ⟨fun c => ?_, fun c => ?_⟩
  · have c : p ≠ 4 := fun z => c (by rw [z]; rfl)
    rw [ev]
    have key : ∀ d t, wf ≤ t → t + d = wt → k (nI wt) (nI (xd_ab a wf + xd_ab b wt + (if p < 2 then 0 else 2 * ((t - wf) - (min b t - max a wf))))) (nI t) := by
      intro d
      induction d with
      | zero =>
        intro t ht e
        apply hk
        unfold bd_X8_costOf_56
        refine ⟨fun _ => ?_, fun z => absurd ((xn_le (by omega) (by omega)).mpr (by omega)) z⟩
        unfold xd_cost at h
        rw [if_neg c] at h
        by_cases hp2 : p < 2
        · rw [if_pos hp2] at h ⊢; exact h
        · rw [if_neg hp2] at h ⊢
          rw [show t = wt by omega]; exact h
      | succ d ih =>
        intro t ht e
        apply hk
        unfold bd_X8_costOf_56
        refine ⟨fun z => absurd ((xn_le (by omega) (by omega)).mp z) (by omega), fun _ => ⟨fun z => ?_, fun z => ?_⟩⟩
        · have z : p ≤ 1 := (xn_le (b := 1) (by omega) (by omega)).mp z
          unfold xd_cost at h
          rw [if_neg c, if_pos (by omega)] at h
          rw [if_pos (by omega)]; exact h
        · have z : ¬ p < 2 := fun y => z ((xn_le (b := 1) (by omega) (by omega)).mpr (by omega))
          have := ih (t + 1) (by omega) (by omega)
          rw [if_neg z] at this ⊢
          refine ⟨fun y v ev w ew => ?_, fun y => ⟨fun y2 v ev w ew => ?_, fun y2 v ev w ew => ?_⟩⟩
          · have y := (xn_lt (by omega) (by omega)).mp y
            rw [ev, ew, nI_1, show (2 : Int32) = nI 2 from rfl, nI_add]
            rw [show xd_ab a wf + xd_ab b wt + 2 * (t - wf - (min b t - max a wf)) + 2 = xd_ab a wf + xd_ab b wt + 2 * (t + 1 - wf - (min b (t + 1) - max a wf)) by omega]; exact this
          · have y : a ≤ t := Nat.not_lt.mp (fun q => y ((xn_lt (by omega) (by omega)).mpr q))
            have y2 := (xn_lt (by omega) (by omega)).mp y2
            rw [ev, ew, nI_1, show (0 : Int32) = nI 0 from rfl, nI_add]
            rw [show xd_ab a wf + xd_ab b wt + 2 * (t - wf - (min b t - max a wf)) + 0 = xd_ab a wf + xd_ab b wt + 2 * (t + 1 - wf - (min b (t + 1) - max a wf)) by omega]; exact this
          · have y : a ≤ t := Nat.not_lt.mp (fun q => y ((xn_lt (by omega) (by omega)).mpr q))
            have y2 : b ≤ t := Nat.not_lt.mp (fun q => y2 ((xn_lt (by omega) (by omega)).mpr q))
            rw [ev, ew, nI_1, show (2 : Int32) = nI 2 from rfl, nI_add]
            rw [show xd_ab a wf + xd_ab b wt + 2 * (t - wf - (min b t - max a wf)) + 2 = xd_ab a wf + xd_ab b wt + 2 * (t + 1 - wf - (min b (t + 1) - max a wf)) by omega]; exact this
    have := key (wt - wf) wf (Nat.le_refl _) (by omega)
    rw [show (if p < 2 then 0 else 2 * (wf - wf - (min b wf - max a wf))) = 0 by split <;> omega, Nat.add_zero] at this
    exact this
  · have c : p = 4 := (xn_eq (b := 4) (by omega) (by omega)).mp c
    refine xs_off (by omega) (by omega) (xs_off (by omega) (by omega) (xs_greater (by omega) (by omega) ?_))
    rw [show (2 : Int32) = nI 2 from rfl, xn_mul]
    unfold xd_cost at h
    rw [if_pos c] at h
    exact h
theorem xc_spot : ∀ a, a < 9 → ∀ b, b < 9 → (nI a <<< ((4 : Int32) &&& 31)) ||| nI b = nI (16 * a + b) := by decide +kernel
theorem xc_sh : ∀ p, p < 5 → (8 : Int32) * ((4 : Int32) - nI p) = nI (8 * (4 - p)) := by decide +kernel
theorem xc_l {n : Nat} (h : n < 2 ^ 31) : (nI n).toInt64 = lN n := nI_l h
theorem xs_code {lk : Nat → Nat} {T p oa ob a b : Nat} {wf wt : Nat → Nat} {I : xw_I} {F : xw_F} {G : xw_G} {post : Int64 → Prop} (hI : I 2 = nI T) (hl : ∀ w, w < 12 → F 6 w = nI (lk w)) (hT : T ≤ 8) (hlt : ∀ w, w < 12 → lk w < 2 ^ T) (hp : p < 5) (h1 : F 1 p = nI oa) (h2 : F 2 p = nI ob) (hab : oa ≤ ob) (hb : ob ≤ 12) (hwf : wf p = xg_wf lk oa ob) (hwt : wt p = xg_wt lk oa ob) (ha8 : a ≤ 8) (hb8 : b ≤ 8) (h : post (lN (xd_code wf wt p a b))) : sm_X8_code (nI p) (nI a) (nI b) I F G post := by
  unfold sm_X8_code
  obtain ⟨w1, w2⟩ := xg_w_le (a := oa) (b := ob) hlt hT (by omega) hb
  refine xs_mcost hI hl hT hlt hp h1 h2 hab hb (by omega) (by omega) ?_
  have hc := xd_cost_le (p := p) (wf := xg_wf lk oa ob) (wt := xg_wt lk oa ob) (by omega) (by omega) ha8 hb8
  rw [xc_sh p hp, xc_l (by omega), show (16 : Int32) = nI 16 from rfl, xn_mul, nI_add, xc_l (by omega), show (40 : Int32) = nI 40 from rfl, wb_shl _ (by omega), wb_shl _ (by omega), lN_add]
  unfold xd_code at h
  rw [hwf, hwt] at h
  exact h
/-- the prices of one pair -/
theorem xs_prices {p T : Nat} {wf wt : Nat → Nat} {I : xw_I} {F : xw_F} {G : xw_G} {post : xw_I → xw_F → xw_G → Prop} (hp : p < 5) (hT : T ≤ 8) (hw : wf p ≤ wt p) (hw8 : wt p ≤ T)
    (h : ∀ G1, (∀ a b, a ≤ b → b ≤ T → G1 29 (p * 81 + a * 9 + b) = lN (xd_code wf wt p a b)) → (∀ i, i < p * 81 ∨ p * 81 + 81 ≤ i → G1 29 i = G 29 i) → (∀ j, j ≠ 29 → G1 j = G j) → post I F G1) : sm_X2_findPrices (nI p) (nI (wf p)) (nI (wt p)) (nI T) I F G post := by
  intro k9 k20 r9 r20
  unfold bd_X2_findPrices_0 sm_X2_shiftOf
  rw [xc_sh p hp]
  refine xl_up (fun i Gs => k9 (nI (8 * (4 - p))) (nI i) I F Gs) (T + 1) (fun i Gs => (∀ a b, a < i → a ≤ b → b ≤ T → Gs 29 (p * 81 + a * 9 + b) = lN (xd_code wf wt p a b)) ∧ (∀ i, i < p * 81 ∨ p * 81 + 81 ≤ i → Gs 29 i = G 29 i) ∧ ∀ j, j ≠ 29 → Gs j = G j) ?_ ?_ 0 G (by omega) ⟨fun a b h => by omega, fun _ _ => rfl, fun _ _ => rfl⟩
  · intro i Gs hi hv ih
    apply r9
    unfold bd_X2_findPrices_9
    refine ⟨fun z => absurd ((xn_lt (by omega) (by omega)).mp z) (by omega), fun _ => ?_⟩
    have key : ∀ d b Gt, i ≤ b → b + d = T + 1 → ((∀ a c, a < i → a ≤ c → c ≤ T → Gt 29 (p * 81 + a * 9 + c) = lN (xd_code wf wt p a c)) ∧ (∀ c, i ≤ c → c < b → Gt 29 (p * 81 + i * 9 + c) = lN (xd_code wf wt p i c)) ∧ (∀ i, i < p * 81 ∨ p * 81 + 81 ≤ i → Gt 29 i = G 29 i) ∧ ∀ j, j ≠ 29 → Gt j = G j) → k20 (nI (8 * (4 - p))) (nI i) (nI b) I F Gt := by
      intro d
      induction d with
      | zero =>
        intro b Gt hib hbd hw
        apply r20
        unfold bd_X2_findPrices_20
        refine ⟨fun _ v ev => ?_, fun z => absurd ((xn_lt (by omega) (by omega)).mpr (by omega)) z⟩
        rw [ev, nI_1]
        refine ih Gt ⟨fun a c ha hac hcT => ?_, hw.2.2.1, hw.2.2.2⟩
        by_cases hai : a = i
        · subst hai; exact hw.2.1 c hac (by omega)
        · exact hw.1 a c (by omega) hac hcT
      | succ d ihd =>
        intro b Gt hib hbd hw
        apply r20
        unfold bd_X2_findPrices_20
        refine ⟨fun z => absurd ((xn_lt (by omega) (by omega)).mp z) (by omega), fun _ => ?_⟩
        refine xs_cost hp (by assumption) (by omega) (by omega) (by omega) ?_
        intro v13 e13 v14 e14
        have hc := xd_cost_le (p := p) (wf := wf p) (wt := wt p) (a := i) (b := b) (by omega) (by omega) (by omega) (by omega)
        rw [xc_l (by omega)] at e13
        rw [xc_spot i (by omega) b (by omega), xc_l (by omega)] at e14
        rw [show (81 : Int32) = nI 81 from rfl, show (9 : Int32) = nI 9 from rfl, xn_mul, xn_mul, nI_add, nI_add]
        refine ⟨vp_in_nI (by omega) (by omega), fun G2 eG2 u eu => ?_⟩
        rw [nI_clamp (by omega), e13, e14, show (40 : Int32) = nI 40 from rfl, wb_shl _ (by omega), wb_shl _ (by omega)] at eG2
        have hcl := xd_code_le (wf := wf) (wt := wt) (p := p) (a := i) (b := b) hp (by omega) (by omega) (by omega) (by omega)
        rw [g_or (k := 40) rfl hcl.1 (by have := hcl.2; unfold xd_code at this; omega)] at eG2
        rw [eu, nI_1]
        refine ihd (b + 1) G2 (by omega) (by omega) ⟨fun a c ha hac hcT => ?_, fun c hic hcb => ?_, fun q hq => ?_, fun j hj => ?_⟩
        · rw [eG2, xw_ups, xb_updl, if_neg (by omega)]; exact hw.1 a c ha hac hcT
        · rw [eG2, xw_ups, xb_updl]
          by_cases hcb2 : c = b
          · subst hcb2; rw [if_pos rfl]; rfl
          · rw [if_neg (by omega)]; exact hw.2.1 c hic (by omega)
        · rw [eG2, xw_ups, xb_updl, if_neg (by omega)]; exact hw.2.2.1 q hq
        · rw [eG2, xw_upn hj]; exact hw.2.2.2 j hj
    exact key (T + 1 - i) i Gs (Nat.le_refl _) (by omega) ⟨hv.1, fun c h1 h2 => by omega, hv.2.1, hv.2.2⟩
  · intro Gs hv
    apply r9
    unfold bd_X2_findPrices_9
    refine ⟨fun _ => h Gs (fun a b hab hbT => hv.1 a b (by omega) hab hbT) hv.2.1 hv.2.2, fun z => absurd ((xn_lt (by omega) (by omega)).mpr (by omega)) z⟩
