/-! ===== Int32 by its bits: bt x i ===== -/
def bt (x : Int32) (i : Nat) : Bool := x.toBitVec.getLsbD i
theorem b_ext {x y : Int32} (h : ∀ i, i < 32 → bt x i = bt y i) : x = y := Int32.toBitVec_inj.mp (BitVec.eq_of_getLsbD_eq (fun i hi => h i hi))
theorem b_or (x y : Int32) (i : Nat) : bt (x ||| y) i = (bt x i || bt y i) := by unfold bt; rw [Int32.toBitVec_or, BitVec.getLsbD_or]
theorem b_and (x y : Int32) (i : Nat) : bt (x &&& y) i = (bt x i && bt y i) := by unfold bt; rw [Int32.toBitVec_and, BitVec.getLsbD_and]
theorem b_xor (x y : Int32) (i : Nat) : bt (x ^^^ y) i = (bt x i ^^ bt y i) := by unfold bt; rw [Int32.toBitVec_xor, BitVec.getLsbD_xor]
theorem b_big {x : Int32} {i : Nat} (h : 32 ≤ i) : bt x i = false := BitVec.getLsbD_of_ge _ _ h
theorem b_m1 : ∀ i, i < 32 → bt (-1) i = true := by decide +kernel
theorem b_0 (i : Nat) : bt 0 i = false := BitVec.getLsbD_zero
theorem s_l : ∀ n, n < 32 → ((nI n &&& 31).toBitVec.smod 32).toNat = n := by decide +kernel
theorem s_u : ∀ n, n < 32 → (((nI n).toUInt32 &&& Int32.toUInt32 31).toBitVec % 32).toNat = n := by decide +kernel
theorem b_shl (n : Nat) (hn : n < 32) (x : Int32) {i : Nat} (hi : i < 32) : bt (x <<< (nI n &&& 31)) i = (decide (n ≤ i) && bt x (i - n)) := by
  unfold bt
  rw [Int32.toBitVec_shiftLeft]
  show (x.toBitVec <<< ((nI n &&& 31).toBitVec.smod 32).toNat).getLsbD i = _
  rw [s_l n hn, BitVec.getLsbD_shiftLeft]
  rcases Nat.lt_or_ge i n with h | h
  · simp [h, Nat.not_le.mpr h]
  · simp [hi, h, Nat.not_lt.mpr h]
theorem b_ushr (n : Nat) (hn : n < 32) (x : Int32) (i : Nat) : bt ((x.toUInt32 >>> ((nI n).toUInt32 &&& Int32.toUInt32 31)).toInt32) i = bt x (n + i) := by
  show (x.toUInt32 >>> ((nI n).toUInt32 &&& Int32.toUInt32 31)).toBitVec.getLsbD i = x.toUInt32.toBitVec.getLsbD (n + i)
  rw [UInt32.toBitVec_shiftRight]
  show (x.toUInt32.toBitVec >>> (((nI n).toUInt32 &&& Int32.toUInt32 31).toBitVec % 32).toNat).getLsbD i = _
  rw [s_u n hn, BitVec.getLsbD_ushiftRight]
theorem b_sshr (n : Nat) (hn : n < 32) (x : Int32) {i : Nat} (hi : i < 32) : bt (x >>> (nI n &&& 31)) i = if n + i < 32 then bt x (n + i) else bt x 31 := by
  unfold bt
  rw [Int32.toBitVec_shiftRight]
  show (x.toBitVec.sshiftRight ((nI n &&& 31).toBitVec.smod 32).toNat).getLsbD i = _
  rw [s_l n hn, BitVec.getLsbD_sshiftRight, BitVec.msb_eq_getLsbD_last]
  simp [hi]
/-! ===== nI under and, xor, >>>, one bit, 65535 ===== -/
theorem nx_and (a b : Nat) : nI a &&& nI b = nI (a &&& b) := by
  apply Int32.toBitVec_inj.1
  show BitVec.ofNat 32 a &&& BitVec.ofNat 32 b = BitVec.ofNat 32 (a &&& b)
  apply BitVec.eq_of_getLsbD_eq
  intro i hi
  simp [hi]
theorem nx_xor (a b : Nat) : nI a ^^^ nI b = nI (a ^^^ b) := by
  apply Int32.toBitVec_inj.1
  show BitVec.ofNat 32 a ^^^ BitVec.ofNat 32 b = BitVec.ofNat 32 (a ^^^ b)
  apply BitVec.eq_of_getLsbD_eq
  intro i hi
  simp [hi]
/-! ===== numbers and bits, small ===== -/
theorem xw_upi {α : Type} (f : Nat → α) (j : Nat) (v : α) (k : Nat) : xw_up f j v k = if k = j then v else f k := by
  by_cases h : k = j
  · subst h; rw [xw_ups, if_pos rfl]
  · rw [xw_upn h, if_neg h]
theorem xb_updi (f : Nat → Int32) (j : Nat) (v : Int32) (k : Nat) : upd f j v k = if k = j then v else f k := rfl
theorem xb_updl (f : Nat → Int64) (j : Nat) (v : Int64) (k : Nat) : vp_updL f j v k = if k = j then v else f k := rfl
theorem xb_bt (s i : Nat) (hi : i < 32) : bt (nI s) i = s.testBit i := by
  show (BitVec.ofNat 32 s).getLsbD i = _
  rw [BitVec.getLsbD_ofNat]; simp [hi]
theorem xb_or (a b : Nat) : nI a ||| nI b = nI (a ||| b) := by
  apply Int32.toBitVec_inj.1
  show BitVec.ofNat 32 a ||| BitVec.ofNat 32 b = BitVec.ofNat 32 (a ||| b)
  apply BitVec.eq_of_getLsbD_eq
  intro i hi
  simp [hi]
theorem xb_shr {s p : Nat} (hs : s < 2 ^ 31) (hp : p < 32) : nI s >>> (nI p &&& 31) = nI (s / 2 ^ p) := by
  apply b_ext
  intro i hi
  rw [b_sshr p hp _ hi, xb_bt _ _ hi, Nat.testBit_div_two_pow]
  split
  · rename_i h
    rw [xb_bt _ _ h, Nat.add_comm]
  · rename_i h
    rw [xb_bt _ _ (by omega), Nat.testBit_lt_two_pow hs]
    symm
    apply Nat.testBit_lt_two_pow
    exact Nat.lt_of_lt_of_le hs (Nat.pow_le_pow_right (by decide) (by omega))
theorem xb_1 (s : Nat) : nI s &&& 1 = nI (s % 2) := by
  rw [show (1 : Int32) = nI 1 from rfl, nx_and, Nat.and_one_is_mod]
theorem xb_bit {s p : Nat} (hs : s < 2 ^ 31) (hp : p < 32) : (nI s >>> (nI p &&& 31)) &&& (1 : Int32) = nI (s.testBit p).toNat := by
  rw [xb_shr hs hp, xb_1, Nat.toNat_testBit]
theorem xb_shl : ∀ p, p < 31 → (1 : Int32) <<< (nI p &&& 31) = nI (2 ^ p) := by decide +kernel
/-- the answer of has -/
def xb_h (s p : Nat) : Int32 := nI (s.testBit p).toNat
theorem xs_has {s p : Nat} {post : Int32 → Prop} (hs : s < 2 ^ 31) (hp : p < 32) (h0 : s.testBit p = false → post 0) (h1 : s.testBit p = true → post 1) : sm_X7_has (nI s) (nI p) post := by
  unfold sm_X7_has
  rw [xb_bit hs hp]
  cases hb : s.testBit p
  · exact ⟨fun _ => h0 hb, fun h => absurd rfl h⟩
  · exact ⟨fun h => absurd h (by decide), fun _ => h1 hb⟩
theorem xn_le {a b : Nat} (ha : a < 2 ^ 31) (hb : b < 2 ^ 31) : nI a ≤ nI b ↔ a ≤ b := nI_leI ha hb
theorem xn_lt {a b : Nat} (ha : a < 2 ^ 31) (hb : b < 2 ^ 31) : nI a < nI b ↔ a < b := nI_ltI ha hb
theorem xn_eq {a b : Nat} (ha : a < 2 ^ 31) (hb : b < 2 ^ 31) : nI a = nI b ↔ a = b := nI_eq ha hb
theorem xn_sub {a b : Nat} (h : b ≤ a) : nI a - nI b = nI (a - b) := by
  apply Int32.toBitVec_inj.1
  show BitVec.ofNat 32 a - BitVec.ofNat 32 b = BitVec.ofNat 32 (a - b)
  apply BitVec.eq_of_toNat_eq
  rw [BitVec.toNat_sub, BitVec.toNat_ofNat, BitVec.toNat_ofNat, BitVec.toNat_ofNat]
  omega
theorem xn_mul (a b : Nat) : nI a * nI b = nI (a * b) := by
  apply Int32.toBitVec_inj.1
  show BitVec.ofNat 32 a * BitVec.ofNat 32 b = BitVec.ofNat 32 (a * b)
  apply BitVec.eq_of_toNat_eq
  simp [BitVec.toNat_mul, Nat.mul_mod]
theorem xn_lit0 : (0 : Int32) = nI 0 := rfl
/-- a counted loop, upwards -/
theorem xl_up {σ : Type} (K : Nat → σ → Prop) (n : Nat) (V : Nat → σ → Prop) (hs : ∀ i s, i < n → V i s → (∀ s', V (i + 1) s' → K (i + 1) s') → K i s) (he : ∀ s, V n s → K n s) : ∀ i s, i ≤ n → V i s → K i s := by
  have key : ∀ d i s, i + d = n → V i s → K i s := by
    intro d
    induction d with
    | zero => intro i s h v; have : i = n := by omega
              subst this; exact he s v
    | succ d ih => intro i s h v; exact hs i s (by omega) v (fun s' v' => ih (i + 1) s' (by omega) v')
  intro i s h v
  exact key (n - i) i s (by omega) v
theorem xs_drop {I : xw_I} {F : xw_F} {G : xw_G} {post : xw_I → xw_F → xw_G → Prop} (h : ∀ F1 : xw_F, (∀ w, w < 12 → F1 20 w = 0) → (∀ j, j ≠ 20 → F1 j = F j) → post I F1 G) : sm_X3_dropLinks I F G post := by
  intro k hk
  refine xl_up (fun i F1 => k (nI i) I F1 G) 12 (fun i F1 => (∀ w, w < i → F1 20 w = 0) ∧ ∀ j, j ≠ 20 → F1 j = F j) ?_ ?_ 0 F (by omega) ⟨fun w h => by omega, fun _ _ => rfl⟩
  · intro i F1 hi hv ih
    apply hk
    unfold bd_X3_dropLinks_2
    refine ⟨fun c => absurd ((xn_le (a := 12) (by omega) (by omega)).mp c) (by omega), fun _ => ⟨vp_in_nI hi (by omega), ?_⟩⟩
    intro F2 e2 v e
    rw [e, nI_1]
    refine ih F2 ⟨fun w hw => ?_, fun j hj => ?_⟩
    · rw [e2, xw_upi, if_pos rfl, xb_updi, nI_clamp (by omega)]
      split
      · rfl
      · exact hv.1 w (by omega)
    · rw [e2, xw_upn hj]; exact hv.2 j hj
  · intro F1 hv
    apply hk
    unfold bd_X3_dropLinks_2
    exact ⟨fun _ => h F1 hv.1 hv.2, fun c => absurd ((xn_le (a := 12) (b := 12) (by omega) (by omega)).mpr (by omega)) c⟩
theorem xs_unlink {I : xw_I} {F : xw_F} {G : xw_G} {post : xw_I → xw_F → xw_G → Prop} (h : ∀ F1 : xw_F, (∀ w, w < 12 → F1 6 w = 0) → (∀ j, j ≠ 6 → F1 j = F j) → post I F1 G) : sm_X8_unlink I F G post := by
  intro k hk
  refine xl_up (fun i F1 => k (nI i) I F1 G) 12 (fun i F1 => (∀ w, w < i → F1 6 w = 0) ∧ ∀ j, j ≠ 6 → F1 j = F j) ?_ ?_ 0 F (by omega) ⟨fun w h => by omega, fun _ _ => rfl⟩
  · intro i F1 hi hv ih
    apply hk
    unfold bd_X8_unlink_2
    refine ⟨fun c => absurd ((xn_le (a := 12) (by omega) (by omega)).mp c) (by omega), fun _ => ⟨vp_in_nI hi (by omega), ?_⟩⟩
    intro F2 e2 v e
    rw [e, nI_1]
    refine ih F2 ⟨fun w hw => ?_, fun j hj => ?_⟩
    · rw [e2, xw_upi, if_pos rfl, xb_updi, nI_clamp (by omega)]
      split
      · rfl
      · exact hv.1 w (by omega)
    · rw [e2, xw_upn hj]; exact hv.2 j hj
  · intro F1 hv
    apply hk
    unfold bd_X8_unlink_2
    exact ⟨fun _ => h F1 hv.1 hv.2, fun c => absurd ((xn_le (a := 12) (b := 12) (by omega) (by omega)).mpr (by omega)) c⟩
