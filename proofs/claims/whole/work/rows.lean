section
/-! ===== pure: rows by numbers, states of a side ===== -/
def xw_up {α : Type} (f : Nat → α) (j : Nat) (v : α) : Nat → α := fun k => cond (Nat.beq k j) v (f k)
theorem xw_ups {α : Type} {f : Nat → α} {j : Nat} {v : α} : xw_up f j v j = v := by simp [xw_up]
theorem xw_upn {α : Type} {f : Nat → α} {j k : Nat} {v : α} (h : k ≠ j) : xw_up f j v k = f k := by
  have : Nat.beq k j = false := by
    cases hb : Nat.beq k j with
    | true => exact absurd (Nat.eq_of_beq_eq_true hb) h
    | false => rfl
  simp [xw_up, this]
abbrev xw_I : Type := Nat → Int32
abbrev xw_F : Type := Nat → Nat → Int32
abbrev xw_G : Type := Nat → Nat → Int64
abbrev xw_S : Type := xw_I × xw_F × xw_G
end
section
def sm_J6_bitCount_0f7a4 (x0 : Int32) (post : Int32 → Prop) : Prop := ∀ v6 : Int32, v6 = (x0 - ((x0.toUInt32 >>> ((1 : Int32).toUInt32 &&& Int32.toUInt32 31)).toInt32 &&& (1431655765 : Int32))) → ∀ v7 : Int32, v7 = ((v6 &&& (858993459 : Int32)) + ((v6.toUInt32 >>> ((2 : Int32).toUInt32 &&& Int32.toUInt32 31)).toInt32 &&& (858993459 : Int32))) → ∀ v8 : Int32, v8 = ((v7 + (v7.toUInt32 >>> ((4 : Int32).toUInt32 &&& Int32.toUInt32 31)).toInt32) &&& (252645135 : Int32)) → ∀ v9 : Int32, v9 = (v8 + (v8.toUInt32 >>> ((8 : Int32).toUInt32 &&& Int32.toUInt32 31)).toInt32) → ∀ v10 : Int32, v10 = (v9 + (v9.toUInt32 >>> ((16 : Int32).toUInt32 &&& Int32.toUInt32 31)).toInt32) → post (v10 &&& (63 : Int32))

def sm_X7_has (x0 : Int32) (x1 : Int32) (post : Int32 → Prop) : Prop := ((((x0 >>> (x1 &&& 31)) &&& (1 : Int32)) = 0 → post (0 : Int32)) ∧ (¬ (((x0 >>> (x1 &&& 31)) &&& (1 : Int32)) = 0) → post (1 : Int32)))

def sm_X1_add (x1 : Int32) (I : xw_I) (F : xw_F) (G : xw_G) (post : Int32 → xw_I → xw_F → xw_G → Prop) : Prop := (((I 1) < (30 : Int32) → vp_in (I 1) 30 ∧ ∀ F4 : xw_F, F4 = xw_up F 10 (upd (F 10) (I 1).toNatClampNeg x1) → ∀ I5 : xw_I, I5 = xw_up I 1 ((I 1) + (1 : Int32)) → post (1 : Int32) I5 F4 G) ∧ (¬ ((I 1) < (30 : Int32)) → post (0 : Int32) I F G))

def sm_X4_clear (I : xw_I) (F : xw_F) (G : xw_G) (post : xw_I → xw_F → xw_G → Prop) : Prop := ∀ I1 : xw_I, I1 = xw_up I 2 (0 : Int32) → ∀ I2 : xw_I, I2 = xw_up I1 3 (0 : Int32) → ∀ I3 : xw_I, I3 = xw_up I2 4 (0 : Int32) → ∀ I4 : xw_I, I4 = xw_up I3 5 (0 : Int32) → ∀ I5 : xw_I, I5 = xw_up I4 6 (0 : Int32) → post I5 F G

def sm_X4_takeWord (I : xw_I) (F : xw_F) (G : xw_G) (post : Int32 → xw_I → xw_F → xw_G → Prop) : Prop := (((I 2) < (12 : Int32) → ∀ I3 : xw_I, I3 = xw_up I 2 ((I 2) + (1 : Int32)) → post (1 : Int32) I3 F G) ∧ (¬ ((I 2) < (12 : Int32)) → post (0 : Int32) I F G))

def bd_X4_takeOpening_69 (x1 : Int32) (post : Int32 → xw_I → xw_F → xw_G → Prop) (k69 : Int32 → xw_I → xw_F → xw_G → Prop) (y2 : Int32) (I : xw_I) (F : xw_F) (G : xw_G) : Prop := (((I 6) ≤ y2 → vp_in (I 6) 5 ∧ ∀ F25 : xw_F, F25 = xw_up F 9 (upd (F 9) (I 6).toNatClampNeg x1) → ∀ I26 : xw_I, I26 = xw_up I 6 ((I 6) + (1 : Int32)) → post (1 : Int32) I26 F25 G) ∧ (¬ ((I 6) ≤ y2) → vp_in y2 5 ∧ ∀ v27 : Int32, v27 = F 9 y2.toNatClampNeg → vp_in v27 5 ∧ ∀ v28 : Int32, v28 = F 5 v27.toNatClampNeg → vp_in v27 5 ∧ ∀ F29 : xw_F, F29 = xw_up F 5 (upd (F 5) v27.toNatClampNeg (v28 ||| ((1 : Int32) <<< (x1 &&& 31)))) → vp_in x1 5 ∧ ∀ v30 : Int32, v30 = F29 6 x1.toNatClampNeg → vp_in y2 5 ∧ ∀ v31 : Int32, v31 = F29 9 y2.toNatClampNeg → vp_in x1 5 ∧ ∀ F32 : xw_F, F32 = xw_up F29 6 (upd (F29 6) x1.toNatClampNeg (v30 ||| ((1 : Int32) <<< (v31 &&& 31)))) → ∀ v33 : Int32, v33 = y2 + 1 → k69 v33 I F32 G))
def bd_X4_takeOpening_0 (x1 : Int32) (I : xw_I) (F : xw_F) (G : xw_G) (post : Int32 → xw_I → xw_F → xw_G → Prop) (k69 : Int32 → xw_I → xw_F → xw_G → Prop) : Prop := sm_X7_has (I 3) x1 (fun r16 => ((¬ r16 = 0 → post (0 : Int32) I F G) ∧ (r16 = 0 → (((I 6) < (5 : Int32) → ∀ I19 : xw_I, I19 = xw_up I 3 ((I 3) ||| ((1 : Int32) <<< (x1 &&& 31))) → vp_in x1 5 ∧ ∀ F20 : xw_F, F20 = xw_up F 3 (upd (F 3) x1.toNatClampNeg (I19 2)) → vp_in x1 5 ∧ ∀ F21 : xw_F, F21 = xw_up F20 4 (upd (F20 4) x1.toNatClampNeg (I19 2)) → vp_in x1 5 ∧ ∀ F22 : xw_F, F22 = xw_up F21 5 (upd (F21 5) x1.toNatClampNeg (0 : Int32)) → vp_in x1 5 ∧ ∀ F23 : xw_F, F23 = xw_up F22 6 (upd (F22 6) x1.toNatClampNeg (0 : Int32)) → k69 (0 : Int32) I19 F23 G) ∧ (¬ ((I 6) < (5 : Int32)) → post (0 : Int32) I F G)))))
def sm_X4_takeOpening (x1 : Int32) (I : xw_I) (F : xw_F) (G : xw_G) (post : Int32 → xw_I → xw_F → xw_G → Prop) : Prop := ∀ (k69 : Int32 → xw_I → xw_F → xw_G → Prop), (∀ (y2 : Int32) (I : xw_I) (F : xw_F) (G : xw_G), bd_X4_takeOpening_69 x1 post k69 y2 I F G → k69 y2 I F G) → bd_X4_takeOpening_0 x1 I F G post k69

def sm_X4_takeClosing (x1 : Int32) (I : xw_I) (F : xw_F) (G : xw_G) (post : Int32 → xw_I → xw_F → xw_G → Prop) : Prop := (((I 6) < (1 : Int32) → post (0 : Int32) I F G) ∧ (¬ ((I 6) < (1 : Int32)) → vp_in ((I 6) - (1 : Int32)) 5 ∧ ∀ v6 : Int32, v6 = F 9 ((I 6) - (1 : Int32)).toNatClampNeg → ((v6 = x1 → ∀ I8 : xw_I, I8 = xw_up I 6 ((I 6) - (1 : Int32)) → vp_in x1 5 ∧ ∀ F9 : xw_F, F9 = xw_up F 4 (upd (F 4) x1.toNatClampNeg (I8 2)) → post (1 : Int32) I8 F9 G) ∧ (¬ (v6 = x1) → post (0 : Int32) I F G))))

def sm_X4_takeMark (x1 : Int32) (I : xw_I) (F : xw_F) (G : xw_G) (post : Int32 → xw_I → xw_F → xw_G → Prop) : Prop := sm_X7_has (I 4) x1 (fun r5 => ((¬ r5 = 0 → post (0 : Int32) I F G) ∧ (r5 = 0 → (((I 5) < (3 : Int32) → ∀ I8 : xw_I, I8 = xw_up I 4 ((I 4) ||| ((1 : Int32) <<< (x1 &&& 31))) → vp_in x1 3 ∧ ∀ F9 : xw_F, F9 = xw_up F 7 (upd (F 7) x1.toNatClampNeg (I8 2)) → vp_in (I8 5) 3 ∧ ∀ F10 : xw_F, F10 = xw_up F9 8 (upd (F9 8) (I8 5).toNatClampNeg x1) → ∀ I11 : xw_I, I11 = xw_up I8 5 ((I8 5) + (1 : Int32)) → post (1 : Int32) I11 F10 G) ∧ (¬ ((I 5) < (3 : Int32)) → post (0 : Int32) I F G)))))

def bd_X4_take_32 (x1 : Int32) (post : Int32 → xw_I → xw_F → xw_G → Prop) (k32 : xw_I → xw_F → xw_G → Prop) (k53 : xw_I → xw_F → xw_G → Prop) (I : xw_I) (F : xw_F) (G : xw_G) : Prop := ((x1 < (97 : Int32) → k53 I F G) ∧ (¬ (x1 < (97 : Int32)) → (((102 : Int32) ≤ x1 → k53 I F G) ∧ (¬ ((102 : Int32) ≤ x1) → sm_X4_takeClosing (x1 - (97 : Int32)) I F G (fun r15 I15 F15 G15 => narrow .boolean (.int r15) = .int r15 ∧ post r15 I15 F15 G15)))))
def bd_X4_take_53 (x1 : Int32) (post : Int32 → xw_I → xw_F → xw_G → Prop) (k32 : xw_I → xw_F → xw_G → Prop) (k53 : xw_I → xw_F → xw_G → Prop) (I : xw_I) (F : xw_F) (G : xw_G) : Prop := ((x1 < (120 : Int32) → post (0 : Int32) I F G) ∧ (¬ (x1 < (120 : Int32)) → (((123 : Int32) ≤ x1 → post (0 : Int32) I F G) ∧ (¬ ((123 : Int32) ≤ x1) → sm_X4_takeMark (x1 - (120 : Int32)) I F G (fun r18 I18 F18 G18 => narrow .boolean (.int r18) = .int r18 ∧ post r18 I18 F18 G18)))))
def bd_X4_take_0 (x1 : Int32) (I : xw_I) (F : xw_F) (G : xw_G) (post : Int32 → xw_I → xw_F → xw_G → Prop) (k32 : xw_I → xw_F → xw_G → Prop) (k53 : xw_I → xw_F → xw_G → Prop) : Prop := ((¬ x1 = (46 : Int32) → ((x1 < (65 : Int32) → k32 I F G) ∧ (¬ (x1 < (65 : Int32)) → (((70 : Int32) ≤ x1 → k32 I F G) ∧ (¬ ((70 : Int32) ≤ x1) → sm_X4_takeOpening (x1 - (65 : Int32)) I F G (fun r11 I11 F11 G11 => narrow .boolean (.int r11) = .int r11 ∧ post r11 I11 F11 G11)))))) ∧ (x1 = (46 : Int32) → sm_X4_takeWord  I F G (fun r12 I12 F12 G12 => narrow .boolean (.int r12) = .int r12 ∧ post r12 I12 F12 G12)))
def sm_X4_take (x1 : Int32) (I : xw_I) (F : xw_F) (G : xw_G) (post : Int32 → xw_I → xw_F → xw_G → Prop) : Prop := ∀ (k32 : xw_I → xw_F → xw_G → Prop) (k53 : xw_I → xw_F → xw_G → Prop), (∀ (I : xw_I) (F : xw_F) (G : xw_G), bd_X4_take_32 x1 post k32 k53 I F G → k32 I F G) → (∀ (I : xw_I) (F : xw_F) (G : xw_G), bd_X4_take_53 x1 post k32 k53 I F G → k53 I F G) → bd_X4_take_0 x1 I F G post k32 k53

def bd_X1_read_9 (post : Int32 → xw_I → xw_F → xw_G → Prop) (k9 : Int32 → xw_I → xw_F → xw_G → Prop) (k47 : xw_I → xw_F → xw_G → Prop) (y1 : Int32) (I : xw_I) (F : xw_F) (G : xw_G) : Prop := (((I 1) ≤ y1 → k47 I F G) ∧ (¬ ((I 1) ≤ y1) → (((30 : Int32) ≤ y1 → k47 I F G) ∧ (¬ ((30 : Int32) ≤ y1) → vp_in y1 30 ∧ ∀ v10 : Int32, v10 = F 10 y1.toNatClampNeg → sm_X4_take v10 I F G (fun r11 I11 F11 G11 => ((¬ r11 = 0 → ∀ v13 : Int32, v13 = y1 + 1 → k9 v13 I11 F11 G11) ∧ (r11 = 0 → post y1 I11 F11 G11)))))))
def bd_X1_read_47 (post : Int32 → xw_I → xw_F → xw_G → Prop) (k9 : Int32 → xw_I → xw_F → xw_G → Prop) (k47 : xw_I → xw_F → xw_G → Prop) (I : xw_I) (F : xw_F) (G : xw_G) : Prop := (((I 6) ≤ 0 → post (-6 : Int32) I F G) ∧ (¬ ((I 6) ≤ 0) → post (I 1) I F G))
def bd_X1_read_0 (I : xw_I) (F : xw_F) (G : xw_G) (post : Int32 → xw_I → xw_F → xw_G → Prop) (k9 : Int32 → xw_I → xw_F → xw_G → Prop) (k47 : xw_I → xw_F → xw_G → Prop) : Prop := sm_X4_clear  I F G (fun I7 F7 G7 => k9 (0 : Int32) I7 F7 G7)
def sm_X1_read (I : xw_I) (F : xw_F) (G : xw_G) (post : Int32 → xw_I → xw_F → xw_G → Prop) : Prop := ∀ (k9 : Int32 → xw_I → xw_F → xw_G → Prop) (k47 : xw_I → xw_F → xw_G → Prop), (∀ (y1 : Int32) (I : xw_I) (F : xw_F) (G : xw_G), bd_X1_read_9 post k9 k47 y1 I F G → k9 y1 I F G) → (∀ (I : xw_I) (F : xw_F) (G : xw_G), bd_X1_read_47 post k9 k47 I F G → k47 I F G) → bd_X1_read_0 I F G post k9 k47

def bd_X3_dropLinks_2 (post : xw_I → xw_F → xw_G → Prop) (k2 : Int32 → xw_I → xw_F → xw_G → Prop) (y1 : Int32) (I : xw_I) (F : xw_F) (G : xw_G) : Prop := (((12 : Int32) ≤ y1 → post I F G) ∧ (¬ ((12 : Int32) ≤ y1) → vp_in y1 12 ∧ ∀ F5 : xw_F, F5 = xw_up F 20 (upd (F 20) y1.toNatClampNeg (0 : Int32)) → ∀ v6 : Int32, v6 = y1 + 1 → k2 v6 I F5 G))
def bd_X3_dropLinks_0 (I : xw_I) (F : xw_F) (G : xw_G) (post : xw_I → xw_F → xw_G → Prop) (k2 : Int32 → xw_I → xw_F → xw_G → Prop) : Prop := k2 (0 : Int32) I F G
def sm_X3_dropLinks (I : xw_I) (F : xw_F) (G : xw_G) (post : xw_I → xw_F → xw_G → Prop) : Prop := ∀ (k2 : Int32 → xw_I → xw_F → xw_G → Prop), (∀ (y1 : Int32) (I : xw_I) (F : xw_F) (G : xw_G), bd_X3_dropLinks_2 post k2 y1 I F G → k2 y1 I F G) → bd_X3_dropLinks_0 I F G post k2

def bd_X3_countLinks_4 (I : xw_I) (F : xw_F) (G : xw_G) (post : Int32 → Prop) (k4 : Int32 → Int32 → Prop) (y1 : Int32) (y2 : Int32) : Prop := (((12 : Int32) ≤ y2 → post y1) ∧ (¬ ((12 : Int32) ≤ y2) → vp_in y2 12 ∧ ∀ v6 : Int32, v6 = F 20 y2.toNatClampNeg → sm_J6_bitCount_0f7a4 v6 (fun r7 => ∀ v8 : Int32, v8 = (y1 + r7) → ∀ v9 : Int32, v9 = y2 + 1 → k4 v8 v9)))
def bd_X3_countLinks_0 (I : xw_I) (F : xw_F) (G : xw_G) (post : Int32 → Prop) (k4 : Int32 → Int32 → Prop) : Prop := k4 (0 : Int32) (0 : Int32)
def sm_X3_countLinks (I : xw_I) (F : xw_F) (G : xw_G) (post : Int32 → Prop) : Prop := ∀ (k4 : Int32 → Int32 → Prop), (∀ (y1 : Int32) (y2 : Int32), bd_X3_countLinks_4 I F G post k4 y1 y2 → k4 y1 y2) → bd_X3_countLinks_0 I F G post k4

def bd_X3_linkedBetween_5 (x1 : Int32) (x2 : Int32) (I : xw_I) (F : xw_F) (G : xw_G) (post : Int32 → Prop) (k5 : Int32 → Int32 → Prop) (y3 : Int32) (y4 : Int32) : Prop := (((12 : Int32) ≤ y4 → post y3) ∧ (¬ ((12 : Int32) ≤ y4) → ((y4 < x1 → ∀ v11 : Int32, v11 = y4 + 1 → k5 y3 v11) ∧ (¬ (y4 < x1) → ((x2 ≤ y4 → ∀ v13 : Int32, v13 = y4 + 1 → k5 y3 v13) ∧ (¬ (x2 ≤ y4) → vp_in y4 12 ∧ ∀ v14 : Int32, v14 = F 20 y4.toNatClampNeg → ∀ v15 : Int32, v15 = (y3 ||| v14) → ∀ v16 : Int32, v16 = y4 + 1 → k5 v15 v16))))))
def bd_X3_linkedBetween_0 (x1 : Int32) (x2 : Int32) (I : xw_I) (F : xw_F) (G : xw_G) (post : Int32 → Prop) (k5 : Int32 → Int32 → Prop) : Prop := k5 (0 : Int32) (0 : Int32)
def sm_X3_linkedBetween (x1 : Int32) (x2 : Int32) (I : xw_I) (F : xw_F) (G : xw_G) (post : Int32 → Prop) : Prop := ∀ (k5 : Int32 → Int32 → Prop), (∀ (y3 : Int32) (y4 : Int32), bd_X3_linkedBetween_5 x1 x2 I F G post k5 y3 y4 → k5 y3 y4) → bd_X3_linkedBetween_0 x1 x2 I F G post k5

def bd_X3_behindGreatest_3 (x0 : Int32) (post : Int32 → Prop) (k3 : Int32 → Prop) (y1 : Int32) : Prop := ((y1 < 0 → post (0 : Int32)) ∧ (¬ (y1 < 0) → sm_X7_has x0 y1 (fun r5 => ((r5 = 0 → ∀ v7 : Int32, v7 = y1 + (-1) → k3 v7) ∧ (¬ (r5 = 0) → post (y1 + (1 : Int32)))))))
def bd_X3_behindGreatest_0 (x0 : Int32) (post : Int32 → Prop) (k3 : Int32 → Prop) : Prop := k3 (7 : Int32)
def sm_X3_behindGreatest (x0 : Int32) (post : Int32 → Prop) : Prop := ∀ (k3 : Int32 → Prop), (∀ (y1 : Int32), bd_X3_behindGreatest_3 x0 post k3 y1 → k3 y1) → bd_X3_behindGreatest_0 x0 post k3

def bd_X3_least_2 (x0 : Int32) (post : Int32 → Prop) (k2 : Int32 → Prop) (y1 : Int32) : Prop := (((8 : Int32) ≤ y1 → post (0 : Int32)) ∧ (¬ ((8 : Int32) ≤ y1) → sm_X7_has x0 y1 (fun r5 => ((r5 = 0 → ∀ v7 : Int32, v7 = y1 + 1 → k2 v7) ∧ (¬ (r5 = 0) → post y1)))))
def bd_X3_least_0 (x0 : Int32) (post : Int32 → Prop) (k2 : Int32 → Prop) : Prop := k2 (0 : Int32)
def sm_X3_least (x0 : Int32) (post : Int32 → Prop) : Prop := ∀ (k2 : Int32 → Prop), (∀ (y1 : Int32), bd_X3_least_2 x0 post k2 y1 → k2 y1) → bd_X3_least_0 x0 post k2

def bd_X3_anchor_4 (x1 : Int32) (I : xw_I) (F : xw_F) (G : xw_G) (post : Int32 → Prop) (k4 : Int32 → Int32 → Prop) (y2 : Int32) (y3 : Int32) : Prop := (((12 : Int32) ≤ y3 → sm_X3_behindGreatest y2 (fun r10 => post r10)) ∧ (¬ ((12 : Int32) ≤ y3) → ((x1 ≤ y3 → ∀ v12 : Int32, v12 = y3 + 1 → k4 y2 v12) ∧ (¬ (x1 ≤ y3) → vp_in y3 12 ∧ ∀ v13 : Int32, v13 = F 20 y3.toNatClampNeg → ((v13 = 0 → ∀ v15 : Int32, v15 = y3 + 1 → k4 y2 v15) ∧ (¬ (v13 = 0) → vp_in y3 12 ∧ ∀ v16 : Int32, v16 = F 20 y3.toNatClampNeg → ∀ v17 : Int32, v17 = y3 + 1 → k4 v16 v17))))))
def bd_X3_anchor_0 (x1 : Int32) (I : xw_I) (F : xw_F) (G : xw_G) (post : Int32 → Prop) (k4 : Int32 → Int32 → Prop) : Prop := k4 (0 : Int32) (0 : Int32)
def sm_X3_anchor (x1 : Int32) (I : xw_I) (F : xw_F) (G : xw_G) (post : Int32 → Prop) : Prop := ∀ (k4 : Int32 → Int32 → Prop), (∀ (y2 : Int32) (y3 : Int32), bd_X3_anchor_4 x1 I F G post k4 y2 y3 → k4 y2 y3) → bd_X3_anchor_0 x1 I F G post k4

def sm_X4_depth (x1 : Int32) (I : xw_I) (F : xw_F) (G : xw_G) (post : Int32 → Prop) : Prop := vp_in x1 5 ∧ ∀ v2 : Int32, v2 = F 16 x1.toNatClampNeg → sm_J6_bitCount_0f7a4 v2 (fun r3 => post r3)

def bd_X4_countHolds_4 (I : xw_I) (F : xw_F) (G : xw_G) (post : Int32 → Prop) (k4 : Int32 → Int32 → Prop) (y1 : Int32) (y2 : Int32) : Prop := (((5 : Int32) ≤ y2 → post y1) ∧ (¬ ((5 : Int32) ≤ y2) → sm_X7_has (I 8) y2 (fun r8 => ((r8 = 0 → ∀ v10 : Int32, v10 = y2 + 1 → k4 y1 v10) ∧ (¬ (r8 = 0) → vp_in y2 5 ∧ ∀ v11 : Int32, v11 = F 15 y2.toNatClampNeg → sm_J6_bitCount_0f7a4 v11 (fun r12 => ∀ v13 : Int32, v13 = (y1 + r12) → ∀ v14 : Int32, v14 = y2 + 1 → k4 v13 v14))))))
def bd_X4_countHolds_0 (I : xw_I) (F : xw_F) (G : xw_G) (post : Int32 → Prop) (k4 : Int32 → Int32 → Prop) : Prop := k4 (0 : Int32) (0 : Int32)
def sm_X4_countHolds (I : xw_I) (F : xw_F) (G : xw_G) (post : Int32 → Prop) : Prop := ∀ (k4 : Int32 → Int32 → Prop), (∀ (y1 : Int32) (y2 : Int32), bd_X4_countHolds_4 I F G post k4 y1 y2 → k4 y1 y2) → bd_X4_countHolds_0 I F G post k4

def sm_X5_findPair (x2 : Int32) (I : xw_I) (F : xw_F) (G : xw_G) (post : xw_I → xw_F → xw_G → Prop) : Prop := vp_in x2 5 ∧ ∀ v9 : Int32, v9 = F 13 x2.toNatClampNeg → vp_in x2 5 ∧ ∀ v10 : Int32, v10 = F 14 x2.toNatClampNeg → sm_X3_linkedBetween v9 v10 I F G (fun r11 => ((¬ r11 = 0 → sm_X3_least r11 (fun r13 => vp_in x2 5 ∧ ∀ F14 : xw_F, F14 = xw_up F 22 (upd (F 22) x2.toNatClampNeg r13) → sm_X3_behindGreatest r11 (fun r15 => vp_in x2 5 ∧ ∀ F16 : xw_F, F16 = xw_up F14 23 (upd (F14 23) x2.toNatClampNeg r15) → post I F16 G))) ∧ (r11 = 0 → ∀ I17 : xw_I, I17 = xw_up I 13 ((I 13) ||| ((1 : Int32) <<< (x2 &&& 31))) → sm_X3_anchor v9 I17 F G (fun r18 => vp_in x2 5 ∧ ∀ F19 : xw_F, F19 = xw_up F 22 (upd (F 22) x2.toNatClampNeg r18) → vp_in x2 5 ∧ ∀ v20 : Int32, v20 = F19 22 x2.toNatClampNeg → vp_in x2 5 ∧ ∀ F21 : xw_F, F21 = xw_up F19 23 (upd (F19 23) x2.toNatClampNeg v20) → post I17 F21 G))))

def bd_X5_find_7 (post : xw_I → xw_F → xw_G → Prop) (k7 : Int32 → xw_I → xw_F → xw_G → Prop) (k40 : Int32 → xw_I → xw_F → xw_G → Prop) (y2 : Int32) (I : xw_I) (F : xw_F) (G : xw_G) : Prop := (((5 : Int32) ≤ y2 → k40 (0 : Int32) I F G) ∧ (¬ ((5 : Int32) ≤ y2) → sm_X7_has (I 8) y2 (fun r13 => ((r13 = 0 → ∀ v15 : Int32, v15 = y2 + 1 → k7 v15 I F G) ∧ (¬ (r13 = 0) → sm_X5_findPair y2 I F G (fun I16 F16 G16 => ∀ v17 : Int32, v17 = y2 + 1 → k7 v17 I16 F16 G16))))))
def bd_X5_find_40 (post : xw_I → xw_F → xw_G → Prop) (k7 : Int32 → xw_I → xw_F → xw_G → Prop) (k40 : Int32 → xw_I → xw_F → xw_G → Prop) (y2 : Int32) (I : xw_I) (F : xw_F) (G : xw_G) : Prop := (((3 : Int32) ≤ y2 → post I F G) ∧ (¬ ((3 : Int32) ≤ y2) → sm_X7_has (I 9) y2 (fun r19 => ((r19 = 0 → ∀ v21 : Int32, v21 = y2 + 1 → k40 v21 I F G) ∧ (¬ (r19 = 0) → vp_in y2 3 ∧ ∀ v22 : Int32, v22 = F 17 y2.toNatClampNeg → sm_X3_anchor v22 I F G (fun r23 => vp_in y2 3 ∧ ∀ F24 : xw_F, F24 = xw_up F 24 (upd (F 24) y2.toNatClampNeg r23) → ∀ v25 : Int32, v25 = y2 + 1 → k40 v25 I F24 G))))))
def bd_X5_find_0 (I : xw_I) (F : xw_F) (G : xw_G) (post : xw_I → xw_F → xw_G → Prop) (k7 : Int32 → xw_I → xw_F → xw_G → Prop) (k40 : Int32 → xw_I → xw_F → xw_G → Prop) : Prop := ∀ I11 : xw_I, I11 = xw_up I 13 (0 : Int32) → k7 (0 : Int32) I11 F G
def sm_X5_find (I : xw_I) (F : xw_F) (G : xw_G) (post : xw_I → xw_F → xw_G → Prop) : Prop := ∀ (k7 : Int32 → xw_I → xw_F → xw_G → Prop) (k40 : Int32 → xw_I → xw_F → xw_G → Prop), (∀ (y2 : Int32) (I : xw_I) (F : xw_F) (G : xw_G), bd_X5_find_7 post k7 k40 y2 I F G → k7 y2 I F G) → (∀ (y2 : Int32) (I : xw_I) (F : xw_F) (G : xw_G), bd_X5_find_40 post k7 k40 y2 I F G → k40 y2 I F G) → bd_X5_find_0 I F G post k7 k40

def sm_X5_overlapsFromAhead (x1 : Int32) (x2 : Int32) (I : xw_I) (F : xw_F) (G : xw_G) (post : Int32 → Prop) : Prop := vp_in x1 5 ∧ ∀ v10 : Int32, v10 = F 22 x1.toNatClampNeg → vp_in x2 5 ∧ ∀ v11 : Int32, v11 = F 22 x2.toNatClampNeg → ((v11 ≤ v10 → post (0 : Int32)) ∧ (¬ (v11 ≤ v10) → vp_in x2 5 ∧ ∀ v13 : Int32, v13 = F 22 x2.toNatClampNeg → vp_in x1 5 ∧ ∀ v14 : Int32, v14 = F 23 x1.toNatClampNeg → ((v14 ≤ v13 → post (0 : Int32)) ∧ (¬ (v14 ≤ v13) → vp_in x1 5 ∧ ∀ v16 : Int32, v16 = F 23 x1.toNatClampNeg → vp_in x2 5 ∧ ∀ v17 : Int32, v17 = F 23 x2.toNatClampNeg → ((v17 ≤ v16 → post (0 : Int32)) ∧ (¬ (v17 ≤ v16) → post (1 : Int32)))))))

def sm_X5_cross (x1 : Int32) (x2 : Int32) (I : xw_I) (F : xw_F) (G : xw_G) (post : Int32 → Prop) : Prop := sm_X5_overlapsFromAhead x1 x2 I F G (fun r3 => ((¬ r3 = 0 → post (1 : Int32)) ∧ (r3 = 0 → sm_X5_overlapsFromAhead x2 x1 I F G (fun r5 => ((r5 = 0 → post (0 : Int32)) ∧ (¬ (r5 = 0) → post (1 : Int32)))))))

def bd_X5_countCrossings_4 (x1 : Int32) (I : xw_I) (F : xw_F) (G : xw_G) (post : Int32 → Prop) (k4 : Int32 → Int32 → Prop) (k14 : Int32 → Int32 → Int32 → Prop) (y2 : Int32) (y3 : Int32) : Prop := (((5 : Int32) ≤ y3 → post y2) ∧ (¬ ((5 : Int32) ≤ y3) → ∀ v14 : Int32, v14 = (y3 + (1 : Int32)) → k14 y2 y3 v14))
def bd_X5_countCrossings_14 (x1 : Int32) (I : xw_I) (F : xw_F) (G : xw_G) (post : Int32 → Prop) (k4 : Int32 → Int32 → Prop) (k14 : Int32 → Int32 → Int32 → Prop) (y2 : Int32) (y3 : Int32) (y4 : Int32) : Prop := (((5 : Int32) ≤ y4 → ∀ v16 : Int32, v16 = y3 + 1 → k4 y2 v16) ∧ (¬ ((5 : Int32) ≤ y4) → sm_X7_has x1 y3 (fun r17 => ((r17 = 0 → ∀ v19 : Int32, v19 = y4 + 1 → k14 y2 y3 v19) ∧ (¬ (r17 = 0) → sm_X7_has x1 y4 (fun r20 => ((r20 = 0 → ∀ v22 : Int32, v22 = y4 + 1 → k14 y2 y3 v22) ∧ (¬ (r20 = 0) → sm_X5_cross y3 y4 I F G (fun r23 => ((r23 = 0 → ∀ v25 : Int32, v25 = y4 + 1 → k14 y2 y3 v25) ∧ (¬ (r23 = 0) → ∀ v26 : Int32, v26 = y2 + 1 → ∀ v27 : Int32, v27 = y4 + 1 → k14 v26 y3 v27)))))))))))
def bd_X5_countCrossings_0 (x1 : Int32) (I : xw_I) (F : xw_F) (G : xw_G) (post : Int32 → Prop) (k4 : Int32 → Int32 → Prop) (k14 : Int32 → Int32 → Int32 → Prop) : Prop := k4 (0 : Int32) (0 : Int32)
def sm_X5_countCrossings (x1 : Int32) (I : xw_I) (F : xw_F) (G : xw_G) (post : Int32 → Prop) : Prop := ∀ (k4 : Int32 → Int32 → Prop) (k14 : Int32 → Int32 → Int32 → Prop), (∀ (y2 : Int32) (y3 : Int32), bd_X5_countCrossings_4 x1 I F G post k4 k14 y2 y3 → k4 y2 y3) → (∀ (y2 : Int32) (y3 : Int32) (y4 : Int32), bd_X5_countCrossings_14 x1 I F G post k4 k14 y2 y3 y4 → k14 y2 y3 y4) → bd_X5_countCrossings_0 x1 I F G post k4 k14

def sm_X2_shiftOf (x0 : Int32) (post : Int32 → Prop) : Prop := post ((8 : Int32) * ((4 : Int32) - x0))

def sm_X2_costOf (x0 : Int32) (x1 : Int32) (x2 : Int32) (x3 : Int32) (x4 : Int32) (post : Int32 → Prop) : Prop := ∀ v9 : Int32, v9 = (if 0 ≤ (x3 - x1) then (x3 - x1) else 0 - (x3 - x1)) → ∀ v10 : Int32, v10 = (if 0 ≤ (x4 - x2) then (x4 - x2) else 0 - (x4 - x2)) → ((¬ x0 = (4 : Int32) → (((2 : Int32) ≤ x0 → ∀ v13 : Int32, v13 = (if x2 < x4 then x2 else x4) → ∀ v14 : Int32, v14 = (if x3 < x1 then x1 else x3) → ∀ v15 : Int32, v15 = (if (0 : Int32) < (v13 - v14) then (v13 - v14) else (0 : Int32)) → post ((v9 + v10) + ((2 : Int32) * ((x2 - x1) - v15)))) ∧ (¬ ((2 : Int32) ≤ x0) → post (v9 + v10)))) ∧ (x0 = (4 : Int32) → ∀ v16 : Int32, v16 = (if v9 < v10 then v10 else v9) → post ((2 : Int32) * v16)))

def bd_X2_findPrices_9 (x1 : Int32) (x2 : Int32) (x3 : Int32) (x4 : Int32) (post : xw_I → xw_F → xw_G → Prop) (k9 : Int32 → Int32 → xw_I → xw_F → xw_G → Prop) (k20 : Int32 → Int32 → Int32 → xw_I → xw_F → xw_G → Prop) (y5 : Int32) (y6 : Int32) (I : xw_I) (F : xw_F) (G : xw_G) : Prop := ((x4 < y6 → post I F G) ∧ (¬ (x4 < y6) → k20 y5 y6 y6 I F G))
def bd_X2_findPrices_20 (x1 : Int32) (x2 : Int32) (x3 : Int32) (x4 : Int32) (post : xw_I → xw_F → xw_G → Prop) (k9 : Int32 → Int32 → xw_I → xw_F → xw_G → Prop) (k20 : Int32 → Int32 → Int32 → xw_I → xw_F → xw_G → Prop) (y5 : Int32) (y6 : Int32) (y7 : Int32) (I : xw_I) (F : xw_F) (G : xw_G) : Prop := ((x4 < y7 → ∀ v11 : Int32, v11 = y6 + 1 → k9 y5 v11 I F G) ∧ (¬ (x4 < y7) → sm_X2_costOf x1 x2 x3 y6 y7 (fun r12 => ∀ v13 : Int64, v13 = r12.toInt64 → ∀ v14 : Int64, v14 = ((y6 <<< ((4 : Int32) &&& 31)) ||| y7).toInt64 → vp_in (((x1 * (81 : Int32)) + (y6 * (9 : Int32))) + y7) 405 ∧ ∀ G15 : xw_G, G15 = xw_up G 29 (vp_updL (G 29) (((x1 * (81 : Int32)) + (y6 * (9 : Int32))) + y7).toNatClampNeg ((v13 <<< ((40 : Int32).toInt64 &&& 63)) ||| (v14 <<< (y5.toInt64 &&& 63)))) → ∀ v16 : Int32, v16 = y7 + 1 → k20 y5 y6 v16 I F G15)))
def bd_X2_findPrices_0 (x1 : Int32) (x2 : Int32) (x3 : Int32) (x4 : Int32) (I : xw_I) (F : xw_F) (G : xw_G) (post : xw_I → xw_F → xw_G → Prop) (k9 : Int32 → Int32 → xw_I → xw_F → xw_G → Prop) (k20 : Int32 → Int32 → Int32 → xw_I → xw_F → xw_G → Prop) : Prop := sm_X2_shiftOf x1 (fun r8 => k9 r8 (0 : Int32) I F G)
def sm_X2_findPrices (x1 : Int32) (x2 : Int32) (x3 : Int32) (x4 : Int32) (I : xw_I) (F : xw_F) (G : xw_G) (post : xw_I → xw_F → xw_G → Prop) : Prop := ∀ (k9 : Int32 → Int32 → xw_I → xw_F → xw_G → Prop) (k20 : Int32 → Int32 → Int32 → xw_I → xw_F → xw_G → Prop), (∀ (y5 : Int32) (y6 : Int32) (I : xw_I) (F : xw_F) (G : xw_G), bd_X2_findPrices_9 x1 x2 x3 x4 post k9 k20 y5 y6 I F G → k9 y5 y6 I F G) → (∀ (y5 : Int32) (y6 : Int32) (y7 : Int32) (I : xw_I) (F : xw_F) (G : xw_G), bd_X2_findPrices_20 x1 x2 x3 x4 post k9 k20 y5 y6 y7 I F G → k20 y5 y6 y7 I F G) → bd_X2_findPrices_0 x1 x2 x3 x4 I F G post k9 k20

def bd_X2_apart_2 (x1 : Int32) (x2 : Int32) (I : xw_I) (F : xw_F) (G : xw_G) (post : Int32 → Prop) (k2 : Int32 → Prop) (y3 : Int32) : Prop := (((5 : Int32) ≤ y3 → post (1 : Int32)) ∧ (¬ ((5 : Int32) ≤ y3) → sm_X7_has x1 y3 (fun r9 => ((r9 = 0 → ∀ v11 : Int32, v11 = y3 + 1 → k2 v11) ∧ (¬ (r9 = 0) → vp_in y3 5 ∧ ∀ v12 : Int32, v12 = F 15 y3.toNatClampNeg → vp_in y3 5 ∧ ∀ v13 : Int32, v13 = F 16 y3.toNatClampNeg → ((((v12 ||| v13) &&& x2) = 0 → ∀ v15 : Int32, v15 = y3 + 1 → k2 v15) ∧ (¬ (((v12 ||| v13) &&& x2) = 0) → post (0 : Int32))))))))
def bd_X2_apart_0 (x1 : Int32) (x2 : Int32) (I : xw_I) (F : xw_F) (G : xw_G) (post : Int32 → Prop) (k2 : Int32 → Prop) : Prop := k2 (0 : Int32)
def sm_X2_apart (x1 : Int32) (x2 : Int32) (I : xw_I) (F : xw_F) (G : xw_G) (post : Int32 → Prop) : Prop := ∀ (k2 : Int32 → Prop), (∀ (y3 : Int32), bd_X2_apart_2 x1 x2 I F G post k2 y3 → k2 y3) → bd_X2_apart_0 x1 x2 I F G post k2

def bd_X2_findParts_7 (x2 : Int32) (post : xw_I → xw_F → xw_G → Prop) (k7 : Int32 → xw_I → xw_F → xw_G → Prop) (y3 : Int32) (I : xw_I) (F : xw_F) (G : xw_G) : Prop := ((x2 ≤ y3 → post I F G) ∧ (¬ (x2 ≤ y3) → ((¬ (y3 &&& (x2 ^^^ (-1 : Int32))) = 0 → ∀ v11 : Int32, v11 = y3 + 1 → k7 v11 I F G) ∧ ((y3 &&& (x2 ^^^ (-1 : Int32))) = 0 → sm_X2_apart y3 (x2 &&& (y3 ^^^ (-1 : Int32))) I F G (fun r12 => ((r12 = 0 → ∀ v14 : Int32, v14 = y3 + 1 → k7 v14 I F G) ∧ (¬ (r12 = 0) → vp_in (I 15) 32 ∧ ∀ F15 : xw_F, F15 = xw_up F 31 (upd (F 31) (I 15).toNatClampNeg y3) → ∀ I16 : xw_I, I16 = xw_up I 15 ((I 15) + (1 : Int32)) → ∀ v17 : Int32, v17 = y3 + 1 → k7 v17 I16 F15 G)))))))
def bd_X2_findParts_0 (x2 : Int32) (I : xw_I) (F : xw_F) (G : xw_G) (post : xw_I → xw_F → xw_G → Prop) (k7 : Int32 → xw_I → xw_F → xw_G → Prop) : Prop := ∀ I8 : xw_I, I8 = xw_up I 15 (0 : Int32) → k7 (1 : Int32) I8 F G
def sm_X2_findParts (x2 : Int32) (I : xw_I) (F : xw_F) (G : xw_G) (post : xw_I → xw_F → xw_G → Prop) : Prop := ∀ (k7 : Int32 → xw_I → xw_F → xw_G → Prop), (∀ (y3 : Int32) (I : xw_I) (F : xw_F) (G : xw_G), bd_X2_findParts_7 x2 post k7 y3 I F G → k7 y3 I F G) → bd_X2_findParts_0 x2 I F G post k7

def bd_X2_filled_8 (x2 : Int32) (x3 : Int32) (I : xw_I) (F : xw_F) (G : xw_G) (post : Int64 → Prop) (k8 : Int64 → Int32 → Prop) (y4 : Int64) (y6 : Int32) : Prop := (((5 : Int32) ≤ y6 → post y4) ∧ (¬ ((5 : Int32) ≤ y6) → sm_X7_has x2 y6 (fun r13 => ((r13 = 0 → ∀ v15 : Int32, v15 = y6 + 1 → k8 y4 v15) ∧ (¬ (r13 = 0) → vp_in y6 5 ∧ ∀ v16 : Int32, v16 = F 16 y6.toNatClampNeg → ((¬ (v16 &&& x2) = 0 → ∀ v18 : Int32, v18 = y6 + 1 → k8 y4 v18) ∧ ((v16 &&& x2) = 0 → ∀ v19 : Int32, v19 = (x2 &&& (((1 : Int32) <<< (y6 &&& 31)) ^^^ (-1 : Int32))) → vp_in ((y6 * (81 : Int32)) + x3) 405 ∧ ∀ v20 : Int64, v20 = G 29 ((y6 * (81 : Int32)) + x3).toNatClampNeg → vp_in ((v19 * (81 : Int32)) + x3) 2592 ∧ ∀ v21 : Int64, v21 = G 30 ((v19 * (81 : Int32)) + x3).toNatClampNeg → ∀ v22 : Int64, v22 = (if (v20 + v21) < y4 then (v20 + v21) else y4) → ∀ v23 : Int32, v23 = y6 + 1 → k8 v22 v23)))))))
def bd_X2_filled_0 (x2 : Int32) (x3 : Int32) (I : xw_I) (F : xw_F) (G : xw_G) (post : Int64 → Prop) (k8 : Int64 → Int32 → Prop) : Prop := k8 (1152921504606846976 : Int64) (0 : Int32)
def sm_X2_filled (x2 : Int32) (x3 : Int32) (I : xw_I) (F : xw_F) (G : xw_G) (post : Int64 → Prop) : Prop := ∀ (k8 : Int64 → Int32 → Prop), (∀ (y4 : Int64) (y6 : Int32), bd_X2_filled_8 x2 x3 I F G post k8 y4 y6 → k8 y4 y6) → bd_X2_filled_0 x2 x3 I F G post k8

def bd_X2_parted_8 (x1 : Int32) (x2 : Int32) (x3 : Int32) (I : xw_I) (F : xw_F) (G : xw_G) (post : Int64 → Prop) (k8 : Int64 → Int32 → Prop) (k55 : Int64 → Int32 → Int32 → Int32 → Int32 → Prop) (y4 : Int64) (y6 : Int32) : Prop := (((I 15) ≤ y6 → post y4) ∧ (¬ ((I 15) ≤ y6) → vp_in y6 32 ∧ ∀ v13 : Int32, v13 = F 31 y6.toNatClampNeg → ∀ v14 : Int32, v14 = ((v13 * (81 : Int32)) + (x2 * (9 : Int32))) → vp_in y6 32 ∧ ∀ v15 : Int32, v15 = F 31 y6.toNatClampNeg → ∀ v16 : Int32, v16 = (((x1 &&& (v15 ^^^ (-1 : Int32))) * (81 : Int32)) + x3) → k55 y4 y6 v14 v16 x2))
def bd_X2_parted_55 (x1 : Int32) (x2 : Int32) (x3 : Int32) (I : xw_I) (F : xw_F) (G : xw_G) (post : Int64 → Prop) (k8 : Int64 → Int32 → Prop) (k55 : Int64 → Int32 → Int32 → Int32 → Int32 → Prop) (y4 : Int64) (y6 : Int32) (y7 : Int32) (y8 : Int32) (y9 : Int32) : Prop := ((x3 ≤ y9 → ∀ v18 : Int32, v18 = y6 + 1 → k8 y4 v18) ∧ (¬ (x3 ≤ y9) → vp_in (y7 + y9) 2592 ∧ ∀ v19 : Int64, v19 = G 30 (y7 + y9).toNatClampNeg → vp_in (y8 + (y9 * (9 : Int32))) 2592 ∧ ∀ v20 : Int64, v20 = G 30 (y8 + (y9 * (9 : Int32))).toNatClampNeg → ∀ v21 : Int64, v21 = (if (v19 + v20) < y4 then (v19 + v20) else y4) → ∀ v22 : Int32, v22 = y9 + 1 → k55 v21 y6 y7 y8 v22))
def bd_X2_parted_0 (x1 : Int32) (x2 : Int32) (x3 : Int32) (I : xw_I) (F : xw_F) (G : xw_G) (post : Int64 → Prop) (k8 : Int64 → Int32 → Prop) (k55 : Int64 → Int32 → Int32 → Int32 → Int32 → Prop) : Prop := k8 (1152921504606846976 : Int64) (0 : Int32)
def sm_X2_parted (x1 : Int32) (x2 : Int32) (x3 : Int32) (I : xw_I) (F : xw_F) (G : xw_G) (post : Int64 → Prop) : Prop := ∀ (k8 : Int64 → Int32 → Prop) (k55 : Int64 → Int32 → Int32 → Int32 → Int32 → Prop), (∀ (y4 : Int64) (y6 : Int32), bd_X2_parted_8 x1 x2 x3 I F G post k8 k55 y4 y6 → k8 y4 y6) → (∀ (y4 : Int64) (y6 : Int32) (y7 : Int32) (y8 : Int32) (y9 : Int32), bd_X2_parted_55 x1 x2 x3 I F G post k8 k55 y4 y6 y7 y8 y9 → k55 y4 y6 y7 y8 y9) → bd_X2_parted_0 x1 x2 x3 I F G post k8 k55

def bd_X2_findSums_3 (x2 : Int32) (x3 : Int32) (post : xw_I → xw_F → xw_G → Prop) (k3 : Int32 → xw_I → xw_F → xw_G → Prop) (k12 : Int32 → Int32 → xw_I → xw_F → xw_G → Prop) (k119 : Int32 → Int32 → Int32 → Int64 → xw_I → xw_F → xw_G → Prop) (y4 : Int32) (I : xw_I) (F : xw_F) (G : xw_G) : Prop := ((x3 < y4 → post I F G) ∧ (¬ (x3 < y4) → k12 y4 (0 : Int32) I F G))
def bd_X2_findSums_12 (x2 : Int32) (x3 : Int32) (post : xw_I → xw_F → xw_G → Prop) (k3 : Int32 → xw_I → xw_F → xw_G → Prop) (k12 : Int32 → Int32 → xw_I → xw_F → xw_G → Prop) (k119 : Int32 → Int32 → Int32 → Int64 → xw_I → xw_F → xw_G → Prop) (y4 : Int32) (y5 : Int32) (I : xw_I) (F : xw_F) (G : xw_G) : Prop := ((x3 < (y5 + y4) → ∀ v15 : Int32, v15 = y4 + 1 → k3 v15 I F G) ∧ (¬ (x3 < (y5 + y4)) → ∀ v16 : Int32, v16 = (y5 + y4) → sm_X2_filled x2 ((y5 * (9 : Int32)) + v16) I F G (fun r17 => ((y4 ≤ 0 → k119 y4 y5 v16 r17 I F G) ∧ (¬ (y4 ≤ 0) → vp_in (((x2 * (81 : Int32)) + ((y5 + (1 : Int32)) * (9 : Int32))) + v16) 2592 ∧ ∀ v19 : Int64, v19 = G 30 (((x2 * (81 : Int32)) + ((y5 + (1 : Int32)) * (9 : Int32))) + v16).toNatClampNeg → ∀ v20 : Int64, v20 = (if v19 < r17 then v19 else r17) → vp_in ((((x2 * (81 : Int32)) + (y5 * (9 : Int32))) + v16) - (1 : Int32)) 2592 ∧ ∀ v21 : Int64, v21 = G 30 ((((x2 * (81 : Int32)) + (y5 * (9 : Int32))) + v16) - (1 : Int32)).toNatClampNeg → ∀ v22 : Int64, v22 = (if v21 < v20 then v21 else v20) → sm_X2_parted x2 y5 v16 I F G (fun r23 => ∀ v24 : Int64, v24 = (if r23 < v22 then r23 else v22) → k119 y4 y5 v16 v24 I F G))))))
def bd_X2_findSums_119 (x2 : Int32) (x3 : Int32) (post : xw_I → xw_F → xw_G → Prop) (k3 : Int32 → xw_I → xw_F → xw_G → Prop) (k12 : Int32 → Int32 → xw_I → xw_F → xw_G → Prop) (k119 : Int32 → Int32 → Int32 → Int64 → xw_I → xw_F → xw_G → Prop) (y4 : Int32) (y5 : Int32) (y6 : Int32) (y7 : Int64) (I : xw_I) (F : xw_F) (G : xw_G) : Prop := vp_in (((x2 * (81 : Int32)) + (y5 * (9 : Int32))) + y6) 2592 ∧ ∀ G25 : xw_G, G25 = xw_up G 30 (vp_updL (G 30) (((x2 * (81 : Int32)) + (y5 * (9 : Int32))) + y6).toNatClampNeg y7) → ∀ v26 : Int32, v26 = y5 + 1 → k12 y4 v26 I F G25
def bd_X2_findSums_0 (x2 : Int32) (x3 : Int32) (I : xw_I) (F : xw_F) (G : xw_G) (post : xw_I → xw_F → xw_G → Prop) (k3 : Int32 → xw_I → xw_F → xw_G → Prop) (k12 : Int32 → Int32 → xw_I → xw_F → xw_G → Prop) (k119 : Int32 → Int32 → Int32 → Int64 → xw_I → xw_F → xw_G → Prop) : Prop := k3 (0 : Int32) I F G
def sm_X2_findSums (x2 : Int32) (x3 : Int32) (I : xw_I) (F : xw_F) (G : xw_G) (post : xw_I → xw_F → xw_G → Prop) : Prop := ∀ (k3 : Int32 → xw_I → xw_F → xw_G → Prop) (k12 : Int32 → Int32 → xw_I → xw_F → xw_G → Prop) (k119 : Int32 → Int32 → Int32 → Int64 → xw_I → xw_F → xw_G → Prop), (∀ (y4 : Int32) (I : xw_I) (F : xw_F) (G : xw_G), bd_X2_findSums_3 x2 x3 post k3 k12 k119 y4 I F G → k3 y4 I F G) → (∀ (y4 : Int32) (y5 : Int32) (I : xw_I) (F : xw_F) (G : xw_G), bd_X2_findSums_12 x2 x3 post k3 k12 k119 y4 y5 I F G → k12 y4 y5 I F G) → (∀ (y4 : Int32) (y5 : Int32) (y6 : Int32) (y7 : Int64) (I : xw_I) (F : xw_F) (G : xw_G), bd_X2_findSums_119 x2 x3 post k3 k12 k119 y4 y5 y6 y7 I F G → k119 y4 y5 y6 y7 I F G) → bd_X2_findSums_0 x2 x3 I F G post k3 k12 k119

def bd_X2_readSpans_12 (x1 : Int32) (x3 : Int64) (post : xw_I → xw_F → xw_G → Prop) (k12 : Int32 → xw_I → xw_F → xw_G → Prop) (y5 : Int32) (I : xw_I) (F : xw_F) (G : xw_G) : Prop := (((5 : Int32) ≤ y5 → post I F G) ∧ (¬ ((5 : Int32) ≤ y5) → sm_X7_has x1 y5 (fun r15 => ((r15 = 0 → ∀ v17 : Int32, v17 = y5 + 1 → k12 v17 I F G) ∧ (¬ (r15 = 0) → sm_X2_shiftOf y5 (fun r18 => ∀ v19 : Int32, v19 = (x3 >>> (r18.toInt64 &&& 63)).toInt32 → vp_in y5 5 ∧ ∀ F20 : xw_F, F20 = xw_up F 26 (upd (F 26) y5.toNatClampNeg ((v19 >>> ((4 : Int32) &&& 31)) &&& (15 : Int32))) → vp_in y5 5 ∧ ∀ F21 : xw_F, F21 = xw_up F20 27 (upd (F20 27) y5.toNatClampNeg (v19 &&& (15 : Int32))) → vp_in y5 5 ∧ ∀ v22 : Int32, v22 = F21 22 y5.toNatClampNeg → vp_in y5 5 ∧ ∀ v23 : Int32, v23 = F21 23 y5.toNatClampNeg → vp_in y5 5 ∧ ∀ v24 : Int32, v24 = F21 26 y5.toNatClampNeg → vp_in y5 5 ∧ ∀ v25 : Int32, v25 = F21 27 y5.toNatClampNeg → sm_X2_costOf y5 v22 v23 v24 v25 (fun r26 => vp_in y5 5 ∧ ∀ F27 : xw_F, F27 = xw_up F21 28 (upd (F21 28) y5.toNatClampNeg r26) → ∀ v28 : Int32, v28 = y5 + 1 → k12 v28 I F27 G)))))))
def bd_X2_readSpans_0 (x1 : Int32) (x3 : Int64) (I : xw_I) (F : xw_F) (G : xw_G) (post : xw_I → xw_F → xw_G → Prop) (k12 : Int32 → xw_I → xw_F → xw_G → Prop) : Prop := ∀ I13 : xw_I, I13 = xw_up I 14 ((x3 >>> ((40 : Int32).toInt64 &&& 63)).toInt32) → k12 (0 : Int32) I13 F G
def sm_X2_readSpans (x1 : Int32) (x3 : Int64) (I : xw_I) (F : xw_F) (G : xw_G) (post : xw_I → xw_F → xw_G → Prop) : Prop := ∀ (k12 : Int32 → xw_I → xw_F → xw_G → Prop), (∀ (y5 : Int32) (I : xw_I) (F : xw_F) (G : xw_G), bd_X2_readSpans_12 x1 x3 post k12 y5 I F G → k12 y5 I F G) → bd_X2_readSpans_0 x1 x3 I F G post k12

def bd_X2_place_3 (x3 : Int32) (post : xw_I → xw_F → xw_G → Prop) (k3 : Int32 → xw_I → xw_F → xw_G → Prop) (k51 : Int32 → xw_I → xw_F → xw_G → Prop) (y4 : Int32) (I : xw_I) (F : xw_F) (G : xw_G) : Prop := (((5 : Int32) ≤ y4 → k51 (1 : Int32) I F G) ∧ (¬ ((5 : Int32) ≤ y4) → sm_X7_has (I 8) y4 (fun r13 => ((r13 = 0 → ∀ v15 : Int32, v15 = y4 + 1 → k3 v15 I F G) ∧ (¬ (r13 = 0) → vp_in y4 5 ∧ ∀ v16 : Int32, v16 = F 22 y4.toNatClampNeg → vp_in y4 5 ∧ ∀ v17 : Int32, v17 = F 23 y4.toNatClampNeg → sm_X2_findPrices y4 v16 v17 x3 I F G (fun I18 F18 G18 => ∀ v19 : Int32, v19 = y4 + 1 → k3 v19 I18 F18 G18))))))
def bd_X2_place_51 (x3 : Int32) (post : xw_I → xw_F → xw_G → Prop) (k3 : Int32 → xw_I → xw_F → xw_G → Prop) (k51 : Int32 → xw_I → xw_F → xw_G → Prop) (y4 : Int32) (I : xw_I) (F : xw_F) (G : xw_G) : Prop := (((32 : Int32) ≤ y4 → vp_in (((I 8) * (81 : Int32)) + x3) 2592 ∧ ∀ v21 : Int64, v21 = G 30 (((I 8) * (81 : Int32)) + x3).toNatClampNeg → sm_X2_readSpans (I 8) v21 I F G (fun I22 F22 G22 => post I22 F22 G22)) ∧ (¬ ((32 : Int32) ≤ y4) → ((¬ (y4 &&& ((I 8) ^^^ (-1 : Int32))) = 0 → ∀ v24 : Int32, v24 = y4 + 1 → k51 v24 I F G) ∧ ((y4 &&& ((I 8) ^^^ (-1 : Int32))) = 0 → sm_X2_findParts y4 I F G (fun I25 F25 G25 => sm_X2_findSums y4 x3 I25 F25 G25 (fun I26 F26 G26 => ∀ v27 : Int32, v27 = y4 + 1 → k51 v27 I26 F26 G26))))))
def bd_X2_place_0 (x3 : Int32) (I : xw_I) (F : xw_F) (G : xw_G) (post : xw_I → xw_F → xw_G → Prop) (k3 : Int32 → xw_I → xw_F → xw_G → Prop) (k51 : Int32 → xw_I → xw_F → xw_G → Prop) : Prop := k3 (0 : Int32) I F G
def sm_X2_place (x3 : Int32) (I : xw_I) (F : xw_F) (G : xw_G) (post : xw_I → xw_F → xw_G → Prop) : Prop := ∀ (k3 : Int32 → xw_I → xw_F → xw_G → Prop) (k51 : Int32 → xw_I → xw_F → xw_G → Prop), (∀ (y4 : Int32) (I : xw_I) (F : xw_F) (G : xw_G), bd_X2_place_3 x3 post k3 k51 y4 I F G → k3 y4 I F G) → (∀ (y4 : Int32) (I : xw_I) (F : xw_F) (G : xw_G), bd_X2_place_51 x3 post k3 k51 y4 I F G → k51 y4 I F G) → bd_X2_place_0 x3 I F G post k3 k51

def bd_X0_findMoves_10 (x1 : Int32) (x2 : Int32) (x3 : Int32) (post : xw_I → xw_F → xw_G → Prop) (k10 : Int32 → Int32 → Int32 → xw_I → xw_F → xw_G → Prop) (k54 : Int32 → Int32 → Int32 → xw_I → xw_F → xw_G → Prop) (y4 : Int32) (y5 : Int32) (y6 : Int32) (I : xw_I) (F : xw_F) (G : xw_G) : Prop := ((y6 < 0 → post I F G) ∧ (¬ (y6 < 0) → ∀ v10 : Int32, v10 = (if 0 ≤ (y6 - x2) then (y6 - x2) else 0 - (y6 - x2)) → vp_in (((x1 + (1 : Int32)) * (9 : Int32)) + y6) 36 ∧ ∀ v11 : Int32, v11 = F 34 (((x1 + (1 : Int32)) * (9 : Int32)) + y6).toNatClampNeg → ∀ v12 : Int32, v12 = (v10 + v11) → ((y4 < v12 → k54 y4 y5 y6 I F G) ∧ (¬ (y4 < v12) → k54 v12 y6 y6 I F G))))
def bd_X0_findMoves_54 (x1 : Int32) (x2 : Int32) (x3 : Int32) (post : xw_I → xw_F → xw_G → Prop) (k10 : Int32 → Int32 → Int32 → xw_I → xw_F → xw_G → Prop) (k54 : Int32 → Int32 → Int32 → xw_I → xw_F → xw_G → Prop) (y4 : Int32) (y5 : Int32) (y6 : Int32) (I : xw_I) (F : xw_F) (G : xw_G) : Prop := vp_in ((x1 * (9 : Int32)) + y6) 36 ∧ ∀ F14 : xw_F, F14 = xw_up F 34 (upd (F 34) ((x1 * (9 : Int32)) + y6).toNatClampNeg y4) → vp_in ((x1 * (9 : Int32)) + y6) 27 ∧ ∀ F15 : xw_F, F15 = xw_up F14 35 (upd (F14 35) ((x1 * (9 : Int32)) + y6).toNatClampNeg y5) → ∀ v16 : Int32, v16 = y6 + (-1) → k10 y4 y5 v16 I F15 G
def bd_X0_findMoves_0 (x1 : Int32) (x2 : Int32) (x3 : Int32) (I : xw_I) (F : xw_F) (G : xw_G) (post : xw_I → xw_F → xw_G → Prop) (k10 : Int32 → Int32 → Int32 → xw_I → xw_F → xw_G → Prop) (k54 : Int32 → Int32 → Int32 → xw_I → xw_F → xw_G → Prop) : Prop := k10 (1048576 : Int32) x3 x3 I F G
def sm_X0_findMoves (x1 : Int32) (x2 : Int32) (x3 : Int32) (I : xw_I) (F : xw_F) (G : xw_G) (post : xw_I → xw_F → xw_G → Prop) : Prop := ∀ (k10 : Int32 → Int32 → Int32 → xw_I → xw_F → xw_G → Prop) (k54 : Int32 → Int32 → Int32 → xw_I → xw_F → xw_G → Prop), (∀ (y4 : Int32) (y5 : Int32) (y6 : Int32) (I : xw_I) (F : xw_F) (G : xw_G), bd_X0_findMoves_10 x1 x2 x3 post k10 k54 y4 y5 y6 I F G → k10 y4 y5 y6 I F G) → (∀ (y4 : Int32) (y5 : Int32) (y6 : Int32) (I : xw_I) (F : xw_F) (G : xw_G), bd_X0_findMoves_54 x1 x2 x3 post k10 k54 y4 y5 y6 I F G → k54 y4 y5 y6 I F G) → bd_X0_findMoves_0 x1 x2 x3 I F G post k10 k54

def bd_X0_place_3 (x3 : Int32) (post : xw_I → xw_F → xw_G → Prop) (k3 : Int32 → xw_I → xw_F → xw_G → Prop) (k40 : Int32 → xw_I → xw_F → xw_G → Prop) (k86 : Int32 → Int32 → xw_I → xw_F → xw_G → Prop) (y4 : Int32) (I : xw_I) (F : xw_F) (G : xw_G) : Prop := (((9 : Int32) ≤ y4 → ∀ v16 : Int32, v16 = ((I 10) - (1 : Int32)) → k40 v16 I F G) ∧ (¬ ((9 : Int32) ≤ y4) → vp_in (((I 10) * (9 : Int32)) + y4) 36 ∧ ∀ F17 : xw_F, F17 = xw_up F 34 (upd (F 34) (((I 10) * (9 : Int32)) + y4).toNatClampNeg (0 : Int32)) → ∀ v18 : Int32, v18 = y4 + 1 → k3 v18 I F17 G))
def bd_X0_place_40 (x3 : Int32) (post : xw_I → xw_F → xw_G → Prop) (k3 : Int32 → xw_I → xw_F → xw_G → Prop) (k40 : Int32 → xw_I → xw_F → xw_G → Prop) (k86 : Int32 → Int32 → xw_I → xw_F → xw_G → Prop) (y4 : Int32) (I : xw_I) (F : xw_F) (G : xw_G) : Prop := ((y4 < 0 → vp_in (0 : Int32) 36 ∧ ∀ v20 : Int32, v20 = F 34 (0 : Int32).toNatClampNeg → ∀ I21 : xw_I, I21 = xw_up I 16 v20 → k86 (0 : Int32) (0 : Int32) I21 F G) ∧ (¬ (y4 < 0) → vp_in y4 3 ∧ ∀ v22 : Int32, v22 = F 18 y4.toNatClampNeg → vp_in v22 3 ∧ ∀ v23 : Int32, v23 = F 24 v22.toNatClampNeg → sm_X0_findMoves y4 v23 x3 I F G (fun I24 F24 G24 => ∀ v25 : Int32, v25 = y4 + (-1) → k40 v25 I24 F24 G24)))
def bd_X0_place_86 (x3 : Int32) (post : xw_I → xw_F → xw_G → Prop) (k3 : Int32 → xw_I → xw_F → xw_G → Prop) (k40 : Int32 → xw_I → xw_F → xw_G → Prop) (k86 : Int32 → Int32 → xw_I → xw_F → xw_G → Prop) (y4 : Int32) (y5 : Int32) (I : xw_I) (F : xw_F) (G : xw_G) : Prop := (((I 10) ≤ y5 → post I F G) ∧ (¬ ((I 10) ≤ y5) → vp_in ((y5 * (9 : Int32)) + y4) 27 ∧ ∀ v27 : Int32, v27 = F 35 ((y5 * (9 : Int32)) + y4).toNatClampNeg → vp_in y5 3 ∧ ∀ v28 : Int32, v28 = F 18 y5.toNatClampNeg → vp_in v28 3 ∧ ∀ F29 : xw_F, F29 = xw_up F 33 (upd (F 33) v28.toNatClampNeg v27) → ∀ v30 : Int32, v30 = y5 + 1 → k86 v27 v30 I F29 G))
def bd_X0_place_0 (x3 : Int32) (I : xw_I) (F : xw_F) (G : xw_G) (post : xw_I → xw_F → xw_G → Prop) (k3 : Int32 → xw_I → xw_F → xw_G → Prop) (k40 : Int32 → xw_I → xw_F → xw_G → Prop) (k86 : Int32 → Int32 → xw_I → xw_F → xw_G → Prop) : Prop := k3 (0 : Int32) I F G
def sm_X0_place (x3 : Int32) (I : xw_I) (F : xw_F) (G : xw_G) (post : xw_I → xw_F → xw_G → Prop) : Prop := ∀ (k3 : Int32 → xw_I → xw_F → xw_G → Prop) (k40 : Int32 → xw_I → xw_F → xw_G → Prop) (k86 : Int32 → Int32 → xw_I → xw_F → xw_G → Prop), (∀ (y4 : Int32) (I : xw_I) (F : xw_F) (G : xw_G), bd_X0_place_3 x3 post k3 k40 k86 y4 I F G → k3 y4 I F G) → (∀ (y4 : Int32) (I : xw_I) (F : xw_F) (G : xw_G), bd_X0_place_40 x3 post k3 k40 k86 y4 I F G → k40 y4 I F G) → (∀ (y4 : Int32) (y5 : Int32) (I : xw_I) (F : xw_F) (G : xw_G), bd_X0_place_86 x3 post k3 k40 k86 y4 y5 I F G → k86 y4 y5 I F G) → bd_X0_place_0 x3 I F G post k3 k40 k86

def sm_X6_add (x1 : Int32) (I : xw_I) (F : xw_F) (G : xw_G) (post : xw_I → xw_F → xw_G → Prop) : Prop := (((21 : Int32) ≤ (I 17) → post I F G) ∧ (¬ ((21 : Int32) ≤ (I 17)) → vp_in (I 17) 21 ∧ ∀ F4 : xw_F, F4 = xw_up F 37 (upd (F 37) (I 17).toNatClampNeg x1) → ∀ I5 : xw_I, I5 = xw_up I 17 ((I 17) + (1 : Int32)) → post I5 F4 G))

def bd_X6_heldByAny_4 (x1 : Int32) (I : xw_I) (F : xw_F) (G : xw_G) (post : Int32 → Prop) (k4 : Int32 → Int32 → Prop) (y2 : Int32) (y3 : Int32) : Prop := (((5 : Int32) ≤ y3 → post y2) ∧ (¬ ((5 : Int32) ≤ y3) → sm_X7_has x1 y3 (fun r8 => ((r8 = 0 → ∀ v10 : Int32, v10 = y3 + 1 → k4 y2 v10) ∧ (¬ (r8 = 0) → vp_in y3 5 ∧ ∀ v11 : Int32, v11 = F 15 y3.toNatClampNeg → ∀ v12 : Int32, v12 = (y2 ||| v11) → ∀ v13 : Int32, v13 = y3 + 1 → k4 v12 v13)))))
def bd_X6_heldByAny_0 (x1 : Int32) (I : xw_I) (F : xw_F) (G : xw_G) (post : Int32 → Prop) (k4 : Int32 → Int32 → Prop) : Prop := k4 (0 : Int32) (0 : Int32)
def sm_X6_heldByAny (x1 : Int32) (I : xw_I) (F : xw_F) (G : xw_G) (post : Int32 → Prop) : Prop := ∀ (k4 : Int32 → Int32 → Prop), (∀ (y2 : Int32) (y3 : Int32), bd_X6_heldByAny_4 x1 I F G post k4 y2 y3 → k4 y2 y3) → bd_X6_heldByAny_0 x1 I F G post k4

def bd_X6_addEmpty_2 (x1 : Int32) (post : xw_I → xw_F → xw_G → Prop) (k2 : Int32 → xw_I → xw_F → xw_G → Prop) (y2 : Int32) (I : xw_I) (F : xw_F) (G : xw_G) : Prop := (((5 : Int32) ≤ y2 → post I F G) ∧ (¬ ((5 : Int32) ≤ y2) → sm_X7_has x1 y2 (fun r6 => ((r6 = 0 → ∀ v8 : Int32, v8 = y2 + 1 → k2 v8 I F G) ∧ (¬ (r6 = 0) → sm_X6_add ((65 : Int32) + y2) I F G (fun I9 F9 G9 => sm_X6_add ((97 : Int32) + y2) I9 F9 G9 (fun I10 F10 G10 => ∀ v11 : Int32, v11 = y2 + 1 → k2 v11 I10 F10 G10)))))))
def bd_X6_addEmpty_0 (x1 : Int32) (I : xw_I) (F : xw_F) (G : xw_G) (post : xw_I → xw_F → xw_G → Prop) (k2 : Int32 → xw_I → xw_F → xw_G → Prop) : Prop := k2 (0 : Int32) I F G
def sm_X6_addEmpty (x1 : Int32) (I : xw_I) (F : xw_F) (G : xw_G) (post : xw_I → xw_F → xw_G → Prop) : Prop := ∀ (k2 : Int32 → xw_I → xw_F → xw_G → Prop), (∀ (y2 : Int32) (I : xw_I) (F : xw_F) (G : xw_G), bd_X6_addEmpty_2 x1 post k2 y2 I F G → k2 y2 I F G) → bd_X6_addEmpty_0 x1 I F G post k2

def sm_X6_closesFirst (x2 : Int32) (x3 : Int32) (I : xw_I) (F : xw_F) (G : xw_G) (post : Int32 → Prop) : Prop := vp_in x2 5 ∧ ∀ v8 : Int32, v8 = F 26 x2.toNatClampNeg → vp_in x3 5 ∧ ∀ v9 : Int32, v9 = F 26 x3.toNatClampNeg → ((v8 = v9 → sm_X4_depth x2 I F G (fun r11 => sm_X4_depth x3 I F G (fun r12 => ((r11 < r12 → post (0 : Int32)) ∧ (¬ (r11 < r12) → post (1 : Int32)))))) ∧ (¬ (v8 = v9) → vp_in x2 5 ∧ ∀ v14 : Int32, v14 = F 26 x2.toNatClampNeg → vp_in x3 5 ∧ ∀ v15 : Int32, v15 = F 26 x3.toNatClampNeg → ((v14 ≤ v15 → post (0 : Int32)) ∧ (¬ (v14 ≤ v15) → post (1 : Int32)))))

def bd_X6_nextClosing_5 (x2 : Int32) (I : xw_I) (F : xw_F) (G : xw_G) (post : Int32 → Prop) (k5 : Int32 → Int32 → Prop) (y3 : Int32) (y4 : Int32) : Prop := (((5 : Int32) ≤ y4 → post y3) ∧ (¬ ((5 : Int32) ≤ y4) → sm_X7_has x2 y4 (fun r10 => ((r10 = 0 → ∀ v12 : Int32, v12 = y4 + 1 → k5 y3 v12) ∧ (¬ (r10 = 0) → ((y3 < 0 → ∀ v14 : Int32, v14 = y4 + 1 → k5 y4 v14) ∧ (¬ (y3 < 0) → sm_X6_closesFirst y4 y3 I F G (fun r15 => ((r15 = 0 → ∀ v17 : Int32, v17 = y4 + 1 → k5 y3 v17) ∧ (¬ (r15 = 0) → ∀ v18 : Int32, v18 = y4 + 1 → k5 y4 v18))))))))))
def bd_X6_nextClosing_0 (x2 : Int32) (I : xw_I) (F : xw_F) (G : xw_G) (post : Int32 → Prop) (k5 : Int32 → Int32 → Prop) : Prop := k5 (-1 : Int32) (0 : Int32)
def sm_X6_nextClosing (x2 : Int32) (I : xw_I) (F : xw_F) (G : xw_G) (post : Int32 → Prop) : Prop := ∀ (k5 : Int32 → Int32 → Prop), (∀ (y3 : Int32) (y4 : Int32), bd_X6_nextClosing_5 x2 I F G post k5 y3 y4 → k5 y3 y4) → bd_X6_nextClosing_0 x2 I F G post k5

def bd_X6_addClosing_6 (x3 : Int32) (post : xw_I → xw_F → xw_G → Prop) (k6 : Int32 → Int32 → xw_I → xw_F → xw_G → Prop) (y4 : Int32) (y5 : Int32) (I : xw_I) (F : xw_F) (G : xw_G) : Prop := (((5 : Int32) ≤ y5 → post I F G) ∧ (¬ ((5 : Int32) ≤ y5) → ((y4 = 0 → post I F G) ∧ (¬ (y4 = 0) → sm_X6_nextClosing y4 I F G (fun r7 => sm_X6_add ((97 : Int32) + r7) I F G (fun I8 F8 G8 => ∀ v9 : Int32, v9 = (y4 &&& (((1 : Int32) <<< (r7 &&& 31)) ^^^ (-1 : Int32))) → ∀ v10 : Int32, v10 = y5 + 1 → k6 v9 v10 I8 F8 G8))))))
def bd_X6_addClosing_0 (x3 : Int32) (I : xw_I) (F : xw_F) (G : xw_G) (post : xw_I → xw_F → xw_G → Prop) (k6 : Int32 → Int32 → xw_I → xw_F → xw_G → Prop) : Prop := k6 x3 (0 : Int32) I F G
def sm_X6_addClosing (x3 : Int32) (I : xw_I) (F : xw_F) (G : xw_G) (post : xw_I → xw_F → xw_G → Prop) : Prop := ∀ (k6 : Int32 → Int32 → xw_I → xw_F → xw_G → Prop), (∀ (y4 : Int32) (y5 : Int32) (I : xw_I) (F : xw_F) (G : xw_G), bd_X6_addClosing_6 x3 post k6 y4 y5 I F G → k6 y4 y5 I F G) → bd_X6_addClosing_0 x3 I F G post k6

def bd_X6_addMarks_3 (x3 : Int32) (post : xw_I → xw_F → xw_G → Prop) (k3 : Int32 → xw_I → xw_F → xw_G → Prop) (y4 : Int32) (I : xw_I) (F : xw_F) (G : xw_G) : Prop := (((I 10) ≤ y4 → post I F G) ∧ (¬ ((I 10) ≤ y4) → vp_in y4 3 ∧ ∀ v8 : Int32, v8 = F 18 y4.toNatClampNeg → vp_in v8 3 ∧ ∀ v9 : Int32, v9 = F 33 v8.toNatClampNeg → ((¬ v9 = x3 → ∀ v11 : Int32, v11 = y4 + 1 → k3 v11 I F G) ∧ (v9 = x3 → sm_X6_add ((120 : Int32) + v8) I F G (fun I12 F12 G12 => ∀ v13 : Int32, v13 = y4 + 1 → k3 v13 I12 F12 G12)))))
def bd_X6_addMarks_0 (x3 : Int32) (I : xw_I) (F : xw_F) (G : xw_G) (post : xw_I → xw_F → xw_G → Prop) (k3 : Int32 → xw_I → xw_F → xw_G → Prop) : Prop := k3 (0 : Int32) I F G
def sm_X6_addMarks (x3 : Int32) (I : xw_I) (F : xw_F) (G : xw_G) (post : xw_I → xw_F → xw_G → Prop) : Prop := ∀ (k3 : Int32 → xw_I → xw_F → xw_G → Prop), (∀ (y4 : Int32) (I : xw_I) (F : xw_F) (G : xw_G), bd_X6_addMarks_3 x3 post k3 y4 I F G → k3 y4 I F G) → bd_X6_addMarks_0 x3 I F G post k3

def sm_X6_opensFirst (x2 : Int32) (x3 : Int32) (I : xw_I) (F : xw_F) (G : xw_G) (post : Int32 → Prop) : Prop := vp_in x2 5 ∧ ∀ v8 : Int32, v8 = F 27 x2.toNatClampNeg → vp_in x3 5 ∧ ∀ v9 : Int32, v9 = F 27 x3.toNatClampNeg → ((v8 = v9 → sm_X4_depth x2 I F G (fun r11 => sm_X4_depth x3 I F G (fun r12 => ((r12 ≤ r11 → post (0 : Int32)) ∧ (¬ (r12 ≤ r11) → post (1 : Int32)))))) ∧ (¬ (v8 = v9) → vp_in x2 5 ∧ ∀ v14 : Int32, v14 = F 27 x2.toNatClampNeg → vp_in x3 5 ∧ ∀ v15 : Int32, v15 = F 27 x3.toNatClampNeg → ((v14 ≤ v15 → post (0 : Int32)) ∧ (¬ (v14 ≤ v15) → post (1 : Int32)))))

def bd_X6_nextOpening_5 (x2 : Int32) (I : xw_I) (F : xw_F) (G : xw_G) (post : Int32 → Prop) (k5 : Int32 → Int32 → Prop) (y3 : Int32) (y4 : Int32) : Prop := (((5 : Int32) ≤ y4 → post y3) ∧ (¬ ((5 : Int32) ≤ y4) → sm_X7_has x2 y4 (fun r10 => ((r10 = 0 → ∀ v12 : Int32, v12 = y4 + 1 → k5 y3 v12) ∧ (¬ (r10 = 0) → ((y3 < 0 → ∀ v14 : Int32, v14 = y4 + 1 → k5 y4 v14) ∧ (¬ (y3 < 0) → sm_X6_opensFirst y4 y3 I F G (fun r15 => ((r15 = 0 → ∀ v17 : Int32, v17 = y4 + 1 → k5 y3 v17) ∧ (¬ (r15 = 0) → ∀ v18 : Int32, v18 = y4 + 1 → k5 y4 v18))))))))))
def bd_X6_nextOpening_0 (x2 : Int32) (I : xw_I) (F : xw_F) (G : xw_G) (post : Int32 → Prop) (k5 : Int32 → Int32 → Prop) : Prop := k5 (-1 : Int32) (0 : Int32)
def sm_X6_nextOpening (x2 : Int32) (I : xw_I) (F : xw_F) (G : xw_G) (post : Int32 → Prop) : Prop := ∀ (k5 : Int32 → Int32 → Prop), (∀ (y3 : Int32) (y4 : Int32), bd_X6_nextOpening_5 x2 I F G post k5 y3 y4 → k5 y3 y4) → bd_X6_nextOpening_0 x2 I F G post k5

def bd_X6_addOpening_6 (x3 : Int32) (post : xw_I → xw_F → xw_G → Prop) (k6 : Int32 → Int32 → xw_I → xw_F → xw_G → Prop) (y4 : Int32) (y5 : Int32) (I : xw_I) (F : xw_F) (G : xw_G) : Prop := (((5 : Int32) ≤ y5 → post I F G) ∧ (¬ ((5 : Int32) ≤ y5) → ((y4 = 0 → post I F G) ∧ (¬ (y4 = 0) → sm_X6_nextOpening y4 I F G (fun r7 => sm_X6_add ((65 : Int32) + r7) I F G (fun I8 F8 G8 => ∀ v9 : Int32, v9 = (y4 &&& (((1 : Int32) <<< (r7 &&& 31)) ^^^ (-1 : Int32))) → ∀ v10 : Int32, v10 = y5 + 1 → k6 v9 v10 I8 F8 G8))))))
def bd_X6_addOpening_0 (x3 : Int32) (I : xw_I) (F : xw_F) (G : xw_G) (post : xw_I → xw_F → xw_G → Prop) (k6 : Int32 → Int32 → xw_I → xw_F → xw_G → Prop) : Prop := k6 x3 (0 : Int32) I F G
def sm_X6_addOpening (x3 : Int32) (I : xw_I) (F : xw_F) (G : xw_G) (post : xw_I → xw_F → xw_G → Prop) : Prop := ∀ (k6 : Int32 → Int32 → xw_I → xw_F → xw_G → Prop), (∀ (y4 : Int32) (y5 : Int32) (I : xw_I) (F : xw_F) (G : xw_G), bd_X6_addOpening_6 x3 post k6 y4 y5 I F G → k6 y4 y5 I F G) → bd_X6_addOpening_0 x3 I F G post k6

def bd_X6_writeGap_12 (x4 : Int32) (post : xw_I → xw_F → xw_G → Prop) (k12 : Int32 → Int32 → Int32 → Int32 → xw_I → xw_F → xw_G → Prop) (k47 : Int32 → Int32 → Int32 → Int32 → Int32 → xw_I → xw_F → xw_G → Prop) (k66 : Int32 → Int32 → Int32 → Int32 → Int32 → Int32 → xw_I → xw_F → xw_G → Prop) (k88 : Int32 → Int32 → Int32 → Int32 → Int32 → Int32 → Int32 → xw_I → xw_F → xw_G → Prop) (k111 : Int32 → Int32 → Int32 → Int32 → Int32 → Int32 → Int32 → xw_I → xw_F → xw_G → Prop) (y5 : Int32) (y6 : Int32) (y7 : Int32) (y8 : Int32) (I : xw_I) (F : xw_F) (G : xw_G) : Prop := (((5 : Int32) ≤ y8 → sm_X6_heldByAny y6 I F G (fun r25 => ∀ v26 : Int32, v26 = (y5 &&& r25) → sm_X6_heldByAny y7 I F G (fun r27 => ∀ v28 : Int32, v28 = ((y5 &&& (v26 ^^^ (-1 : Int32))) &&& r27) → sm_X6_addEmpty v26 I F G (fun I29 F29 G29 => sm_X6_addClosing y6 I29 F29 G29 (fun I30 F30 G30 => sm_X6_addMarks x4 I30 F30 G30 (fun I31 F31 G31 => sm_X6_addEmpty ((y5 &&& (v26 ^^^ (-1 : Int32))) &&& (v28 ^^^ (-1 : Int32))) I31 F31 G31 (fun I32 F32 G32 => sm_X6_addOpening y7 I32 F32 G32 (fun I33 F33 G33 => sm_X6_addEmpty v28 I33 F33 G33 (fun I34 F34 G34 => post I34 F34 G34))))))))) ∧ (¬ ((5 : Int32) ≤ y8) → sm_X7_has (I 8) y8 (fun r35 => ((r35 = 0 → ∀ v37 : Int32, v37 = y8 + 1 → k12 y5 y6 y7 v37 I F G) ∧ (¬ (r35 = 0) → vp_in y8 5 ∧ ∀ v38 : Int32, v38 = F 26 y8.toNatClampNeg → ((¬ v38 = x4 → k47 y5 y6 y7 y8 (0 : Int32) I F G) ∧ (v38 = x4 → k47 y5 y6 y7 y8 (1 : Int32) I F G)))))))
def bd_X6_writeGap_47 (x4 : Int32) (post : xw_I → xw_F → xw_G → Prop) (k12 : Int32 → Int32 → Int32 → Int32 → xw_I → xw_F → xw_G → Prop) (k47 : Int32 → Int32 → Int32 → Int32 → Int32 → xw_I → xw_F → xw_G → Prop) (k66 : Int32 → Int32 → Int32 → Int32 → Int32 → Int32 → xw_I → xw_F → xw_G → Prop) (k88 : Int32 → Int32 → Int32 → Int32 → Int32 → Int32 → Int32 → xw_I → xw_F → xw_G → Prop) (k111 : Int32 → Int32 → Int32 → Int32 → Int32 → Int32 → Int32 → xw_I → xw_F → xw_G → Prop) (y5 : Int32) (y6 : Int32) (y7 : Int32) (y8 : Int32) (t0 : Int32) (I : xw_I) (F : xw_F) (G : xw_G) : Prop := vp_in y8 5 ∧ ∀ v40 : Int32, v40 = F 27 y8.toNatClampNeg → ((¬ v40 = x4 → k66 y5 y6 y7 y8 t0 (0 : Int32) I F G) ∧ (v40 = x4 → k66 y5 y6 y7 y8 t0 (1 : Int32) I F G))
def bd_X6_writeGap_66 (x4 : Int32) (post : xw_I → xw_F → xw_G → Prop) (k12 : Int32 → Int32 → Int32 → Int32 → xw_I → xw_F → xw_G → Prop) (k47 : Int32 → Int32 → Int32 → Int32 → Int32 → xw_I → xw_F → xw_G → Prop) (k66 : Int32 → Int32 → Int32 → Int32 → Int32 → Int32 → xw_I → xw_F → xw_G → Prop) (k88 : Int32 → Int32 → Int32 → Int32 → Int32 → Int32 → Int32 → xw_I → xw_F → xw_G → Prop) (k111 : Int32 → Int32 → Int32 → Int32 → Int32 → Int32 → Int32 → xw_I → xw_F → xw_G → Prop) (y5 : Int32) (y6 : Int32) (y7 : Int32) (y8 : Int32) (y9 : Int32) (t0 : Int32) (I : xw_I) (F : xw_F) (G : xw_G) : Prop := ((y9 = 0 → k88 y6 y7 y8 y9 t0 y5 (0 : Int32) I F G) ∧ (¬ (y9 = 0) → ((t0 = 0 → k88 y6 y7 y8 y9 t0 y5 (0 : Int32) I F G) ∧ (¬ (t0 = 0) → k88 y6 y7 y8 y9 t0 y5 ((1 : Int32) <<< (y8 &&& 31)) I F G))))
def bd_X6_writeGap_88 (x4 : Int32) (post : xw_I → xw_F → xw_G → Prop) (k12 : Int32 → Int32 → Int32 → Int32 → xw_I → xw_F → xw_G → Prop) (k47 : Int32 → Int32 → Int32 → Int32 → Int32 → xw_I → xw_F → xw_G → Prop) (k66 : Int32 → Int32 → Int32 → Int32 → Int32 → Int32 → xw_I → xw_F → xw_G → Prop) (k88 : Int32 → Int32 → Int32 → Int32 → Int32 → Int32 → Int32 → xw_I → xw_F → xw_G → Prop) (k111 : Int32 → Int32 → Int32 → Int32 → Int32 → Int32 → Int32 → xw_I → xw_F → xw_G → Prop) (y6 : Int32) (y7 : Int32) (y8 : Int32) (y9 : Int32) (y10 : Int32) (t0 : Int32) (t1 : Int32) (I : xw_I) (F : xw_F) (G : xw_G) : Prop := ∀ v44 : Int32, v44 = (t0 ||| t1) → ((y10 = 0 → k111 v44 y7 y8 y9 y10 y6 (0 : Int32) I F G) ∧ (¬ (y10 = 0) → ((¬ y9 = 0 → k111 v44 y7 y8 y9 y10 y6 (0 : Int32) I F G) ∧ (y9 = 0 → k111 v44 y7 y8 y9 y10 y6 ((1 : Int32) <<< (y8 &&& 31)) I F G))))
def bd_X6_writeGap_111 (x4 : Int32) (post : xw_I → xw_F → xw_G → Prop) (k12 : Int32 → Int32 → Int32 → Int32 → xw_I → xw_F → xw_G → Prop) (k47 : Int32 → Int32 → Int32 → Int32 → Int32 → xw_I → xw_F → xw_G → Prop) (k66 : Int32 → Int32 → Int32 → Int32 → Int32 → Int32 → xw_I → xw_F → xw_G → Prop) (k88 : Int32 → Int32 → Int32 → Int32 → Int32 → Int32 → Int32 → xw_I → xw_F → xw_G → Prop) (k111 : Int32 → Int32 → Int32 → Int32 → Int32 → Int32 → Int32 → xw_I → xw_F → xw_G → Prop) (y5 : Int32) (y7 : Int32) (y8 : Int32) (y9 : Int32) (y10 : Int32) (t0 : Int32) (t1 : Int32) (I : xw_I) (F : xw_F) (G : xw_G) : Prop := ∀ v47 : Int32, v47 = (t0 ||| t1) → ((y9 = 0 → ∀ v49 : Int32, v49 = (y7 ||| (0 : Int32)) → ∀ v50 : Int32, v50 = y8 + 1 → k12 y5 v47 v49 v50 I F G) ∧ (¬ (y9 = 0) → ((¬ y10 = 0 → ∀ v52 : Int32, v52 = (y7 ||| (0 : Int32)) → ∀ v53 : Int32, v53 = y8 + 1 → k12 y5 v47 v52 v53 I F G) ∧ (y10 = 0 → ∀ v54 : Int32, v54 = (y7 ||| ((1 : Int32) <<< (y8 &&& 31))) → ∀ v55 : Int32, v55 = y8 + 1 → k12 y5 v47 v54 v55 I F G))))
def bd_X6_writeGap_0 (x4 : Int32) (I : xw_I) (F : xw_F) (G : xw_G) (post : xw_I → xw_F → xw_G → Prop) (k12 : Int32 → Int32 → Int32 → Int32 → xw_I → xw_F → xw_G → Prop) (k47 : Int32 → Int32 → Int32 → Int32 → Int32 → xw_I → xw_F → xw_G → Prop) (k66 : Int32 → Int32 → Int32 → Int32 → Int32 → Int32 → xw_I → xw_F → xw_G → Prop) (k88 : Int32 → Int32 → Int32 → Int32 → Int32 → Int32 → Int32 → xw_I → xw_F → xw_G → Prop) (k111 : Int32 → Int32 → Int32 → Int32 → Int32 → Int32 → Int32 → xw_I → xw_F → xw_G → Prop) : Prop := k12 (0 : Int32) (0 : Int32) (0 : Int32) (0 : Int32) I F G
def sm_X6_writeGap (x4 : Int32) (I : xw_I) (F : xw_F) (G : xw_G) (post : xw_I → xw_F → xw_G → Prop) : Prop := ∀ (k12 : Int32 → Int32 → Int32 → Int32 → xw_I → xw_F → xw_G → Prop) (k47 : Int32 → Int32 → Int32 → Int32 → Int32 → xw_I → xw_F → xw_G → Prop) (k66 : Int32 → Int32 → Int32 → Int32 → Int32 → Int32 → xw_I → xw_F → xw_G → Prop) (k88 : Int32 → Int32 → Int32 → Int32 → Int32 → Int32 → Int32 → xw_I → xw_F → xw_G → Prop) (k111 : Int32 → Int32 → Int32 → Int32 → Int32 → Int32 → Int32 → xw_I → xw_F → xw_G → Prop), (∀ (y5 : Int32) (y6 : Int32) (y7 : Int32) (y8 : Int32) (I : xw_I) (F : xw_F) (G : xw_G), bd_X6_writeGap_12 x4 post k12 k47 k66 k88 k111 y5 y6 y7 y8 I F G → k12 y5 y6 y7 y8 I F G) → (∀ (y5 : Int32) (y6 : Int32) (y7 : Int32) (y8 : Int32) (t0 : Int32) (I : xw_I) (F : xw_F) (G : xw_G), bd_X6_writeGap_47 x4 post k12 k47 k66 k88 k111 y5 y6 y7 y8 t0 I F G → k47 y5 y6 y7 y8 t0 I F G) → (∀ (y5 : Int32) (y6 : Int32) (y7 : Int32) (y8 : Int32) (y9 : Int32) (t0 : Int32) (I : xw_I) (F : xw_F) (G : xw_G), bd_X6_writeGap_66 x4 post k12 k47 k66 k88 k111 y5 y6 y7 y8 y9 t0 I F G → k66 y5 y6 y7 y8 y9 t0 I F G) → (∀ (y6 : Int32) (y7 : Int32) (y8 : Int32) (y9 : Int32) (y10 : Int32) (t0 : Int32) (t1 : Int32) (I : xw_I) (F : xw_F) (G : xw_G), bd_X6_writeGap_88 x4 post k12 k47 k66 k88 k111 y6 y7 y8 y9 y10 t0 t1 I F G → k88 y6 y7 y8 y9 y10 t0 t1 I F G) → (∀ (y5 : Int32) (y7 : Int32) (y8 : Int32) (y9 : Int32) (y10 : Int32) (t0 : Int32) (t1 : Int32) (I : xw_I) (F : xw_F) (G : xw_G), bd_X6_writeGap_111 x4 post k12 k47 k66 k88 k111 y5 y7 y8 y9 y10 t0 t1 I F G → k111 y5 y7 y8 y9 y10 t0 t1 I F G) → bd_X6_writeGap_0 x4 I F G post k12 k47 k66 k88 k111

def bd_X6_write_8 (post : xw_I → xw_F → xw_G → Prop) (k8 : Int32 → xw_I → xw_F → xw_G → Prop) (y4 : Int32) (I : xw_I) (F : xw_F) (G : xw_G) : Prop := (((I 12) < y4 → post I F G) ∧ (¬ ((I 12) < y4) → sm_X6_writeGap y4 I F G (fun I7 F7 G7 => (((I7 12) ≤ y4 → ∀ v9 : Int32, v9 = y4 + 1 → k8 v9 I7 F7 G7) ∧ (¬ ((I7 12) ≤ y4) → sm_X6_add (46 : Int32) I7 F7 G7 (fun I10 F10 G10 => ∀ v11 : Int32, v11 = y4 + 1 → k8 v11 I10 F10 G10))))))
def bd_X6_write_0 (I : xw_I) (F : xw_F) (G : xw_G) (post : xw_I → xw_F → xw_G → Prop) (k8 : Int32 → xw_I → xw_F → xw_G → Prop) : Prop := ∀ I5 : xw_I, I5 = xw_up I 17 (0 : Int32) → k8 (0 : Int32) I5 F G
def sm_X6_write (I : xw_I) (F : xw_F) (G : xw_G) (post : xw_I → xw_F → xw_G → Prop) : Prop := ∀ (k8 : Int32 → xw_I → xw_F → xw_G → Prop), (∀ (y4 : Int32) (I : xw_I) (F : xw_F) (G : xw_G), bd_X6_write_8 post k8 y4 I F G → k8 y4 I F G) → bd_X6_write_0 I F G post k8

def sm_X7_carry (I : xw_I) (F : xw_F) (G : xw_G) (post : xw_I → xw_F → xw_G → Prop) : Prop := ((¬ (I 0) = 0 → sm_X5_find  I F G (fun I3 F3 G3 => sm_X2_place (I3 12) I3 F3 G3 (fun I4 F4 G4 => sm_X0_place (I4 12) I4 F4 G4 (fun I5 F5 G5 => sm_X6_write  I5 F5 G5 (fun I6 F6 G6 => ∀ I7 : xw_I, I7 = xw_up I6 0 (0 : Int32) → post I7 F6 G6))))) ∧ ((I 0) = 0 → post I F G))

def sm_X7_say (x1 : Int32) (I : xw_I) (F : xw_F) (G : xw_G) (post : Int32 → xw_I → xw_F → xw_G → Prop) : Prop := ((x1 < (33 : Int32) → post (-2 : Int32) I F G) ∧ (¬ (x1 < (33 : Int32)) → ((x1 ≤ (126 : Int32) → sm_X1_add x1 I F G (fun r6 I6 F6 G6 => ((r6 = 0 → post (-4 : Int32) I6 F6 G6) ∧ (¬ (r6 = 0) → post (I6 1) I6 F6 G6)))) ∧ (¬ (x1 ≤ (126 : Int32)) → post (-2 : Int32) I F G))))

def sm_X7_wipe (I : xw_I) (F : xw_F) (G : xw_G) (post : Int32 → xw_I → xw_F → xw_G → Prop) : Prop := ∀ v2 : Int32, v2 = (I 1) → ∀ I3 : xw_I, I3 = xw_up I 1 (0 : Int32) → post v2 I3 F G

def sm_X7_fault (I : xw_I) (F : xw_F) (G : xw_G) (post : Int32 → xw_I → xw_F → xw_G → Prop) : Prop := sm_X1_read  I F G (fun r1 I1 F1 G1 => post r1 I1 F1 G1)

def sm_X7_target (x1 : Int32) (I : xw_I) (F : xw_F) (G : xw_G) (post : Int32 → xw_I → xw_F → xw_G → Prop) : Prop := ((x1 < 0 → post (-2 : Int32) I F G) ∧ (¬ (x1 < 0) → ((x1 ≤ (8 : Int32) → ∀ v6 : Int32, v6 = (I 12) → ∀ I7 : xw_I, I7 = xw_up I 12 x1 → sm_X3_dropLinks  I7 F G (fun I8 F8 G8 => ∀ I9 : xw_I, I9 = xw_up I8 0 (1 : Int32) → post v6 I9 F8 G8)) ∧ (¬ (x1 ≤ (8 : Int32)) → post (-2 : Int32) I F G))))

def sm_X7_link (x1 : Int32) (x2 : Int32) (I : xw_I) (F : xw_F) (G : xw_G) (post : Int32 → xw_I → xw_F → xw_G → Prop) : Prop := ((x1 < 0 → post (-1 : Int32) I F G) ∧ (¬ (x1 < 0) → (((I 7) ≤ x1 → post (-1 : Int32) I F G) ∧ (¬ ((I 7) ≤ x1) → ((x2 < 0 → post (-1 : Int32) I F G) ∧ (¬ (x2 < 0) → ((x2 < (I 12) → vp_in x1 12 ∧ ∀ v12 : Int32, v12 = F 20 x1.toNatClampNeg → vp_in x1 12 ∧ ∀ F13 : xw_F, F13 = xw_up F 20 (upd (F 20) x1.toNatClampNeg (v12 ^^^ ((1 : Int32) <<< (x2 &&& 31)))) → ∀ I14 : xw_I, I14 = xw_up I 0 (1 : Int32) → vp_in x1 12 ∧ ∀ v15 : Int32, v15 = F13 20 x1.toNatClampNeg → post ((v15 >>> (x2 &&& 31)) &&& (1 : Int32)) I14 F13 G) ∧ (¬ (x2 < (I 12)) → post (-1 : Int32) I F G))))))))

def sm_X7_pair (x1 : Int32) (x2 : Int32) (I : xw_I) (F : xw_F) (G : xw_G) (post : Int32 → xw_I → xw_F → xw_G → Prop) : Prop := ((x1 < 0 → post (-1 : Int32) I F G) ∧ (¬ (x1 < 0) → (((5 : Int32) ≤ x1 → post (-1 : Int32) I F G) ∧ (¬ ((5 : Int32) ≤ x1) → sm_X7_has (I 8) x1 (fun r15 => ((¬ r15 = 0 → sm_X7_carry  I F G (fun I17 F17 G17 => ((x2 = 0 → vp_in x1 5 ∧ ∀ v19 : Int32, v19 = F17 13 x1.toNatClampNeg → post v19 I17 F17 G17) ∧ ((x2 = 1 → vp_in x1 5 ∧ ∀ v20 : Int32, v20 = F17 14 x1.toNatClampNeg → post v20 I17 F17 G17) ∧ ((x2 = 2 → sm_X4_depth x1 I17 F17 G17 (fun r21 => post r21 I17 F17 G17)) ∧ ((x2 = 3 → vp_in x1 5 ∧ ∀ v22 : Int32, v22 = F17 15 x1.toNatClampNeg → post v22 I17 F17 G17) ∧ ((x2 = 4 → vp_in x1 5 ∧ ∀ v23 : Int32, v23 = F17 22 x1.toNatClampNeg → post v23 I17 F17 G17) ∧ ((x2 = 5 → vp_in x1 5 ∧ ∀ v24 : Int32, v24 = F17 23 x1.toNatClampNeg → post v24 I17 F17 G17) ∧ ((x2 = 6 → vp_in x1 5 ∧ ∀ v25 : Int32, v25 = F17 26 x1.toNatClampNeg → post v25 I17 F17 G17) ∧ ((x2 = 7 → vp_in x1 5 ∧ ∀ v26 : Int32, v26 = F17 27 x1.toNatClampNeg → post v26 I17 F17 G17) ∧ ((x2 = 8 → vp_in x1 5 ∧ ∀ v27 : Int32, v27 = F17 28 x1.toNatClampNeg → post v27 I17 F17 G17) ∧ ((x2 = 9 → post (((I17 13) >>> (x1 &&& 31)) &&& (1 : Int32)) I17 F17 G17) ∧ (¬ x2 = 0 → ¬ x2 = 1 → ¬ x2 = 2 → ¬ x2 = 3 → ¬ x2 = 4 → ¬ x2 = 5 → ¬ x2 = 6 → ¬ x2 = 7 → ¬ x2 = 8 → ¬ x2 = 9 → post (-2 : Int32) I17 F17 G17))))))))))))) ∧ (r15 = 0 → post (-1 : Int32) I F G)))))))

def sm_X7_mark (x1 : Int32) (x2 : Int32) (I : xw_I) (F : xw_F) (G : xw_G) (post : Int32 → xw_I → xw_F → xw_G → Prop) : Prop := ((x1 < 0 → post (-1 : Int32) I F G) ∧ (¬ (x1 < 0) → (((3 : Int32) ≤ x1 → post (-1 : Int32) I F G) ∧ (¬ ((3 : Int32) ≤ x1) → sm_X7_has (I 9) x1 (fun r10 => ((¬ r10 = 0 → sm_X7_carry  I F G (fun I12 F12 G12 => ((x2 = 0 → vp_in x1 3 ∧ ∀ v14 : Int32, v14 = F12 17 x1.toNatClampNeg → post v14 I12 F12 G12) ∧ ((x2 = 1 → vp_in x1 3 ∧ ∀ v15 : Int32, v15 = F12 24 x1.toNatClampNeg → post v15 I12 F12 G12) ∧ ((x2 = 2 → vp_in x1 3 ∧ ∀ v16 : Int32, v16 = F12 33 x1.toNatClampNeg → post v16 I12 F12 G12) ∧ (¬ x2 = 0 → ¬ x2 = 1 → ¬ x2 = 2 → post (-2 : Int32) I12 F12 G12)))))) ∧ (r10 = 0 → post (-1 : Int32) I F G)))))))

def sm_X7_total (x1 : Int32) (I : xw_I) (F : xw_F) (G : xw_G) (post : Int32 → xw_I → xw_F → xw_G → Prop) : Prop := sm_X7_carry  I F G (fun I2 F2 G2 => ((x1 = 0 → post (I2 14) I2 F2 G2) ∧ ((x1 = 1 → post (I2 16) I2 F2 G2) ∧ ((x1 = 2 → post (I2 8) I2 F2 G2) ∧ ((x1 = 3 → post (I2 13) I2 F2 G2) ∧ ((x1 = 4 → post (I2 9) I2 F2 G2) ∧ ((x1 = 5 → sm_X3_countLinks  I2 F2 G2 (fun r4 => post r4 I2 F2 G2)) ∧ ((x1 = 6 → sm_X5_countCrossings (I2 8) I2 F2 G2 (fun r5 => post r5 I2 F2 G2)) ∧ ((x1 = 7 → sm_X4_countHolds  I2 F2 G2 (fun r6 => post r6 I2 F2 G2)) ∧ (¬ x1 = 0 → ¬ x1 = 1 → ¬ x1 = 2 → ¬ x1 = 3 → ¬ x1 = 4 → ¬ x1 = 5 → ¬ x1 = 6 → ¬ x1 = 7 → post (-2 : Int32) I2 F2 G2))))))))))

def sm_X7_sign (x1 : Int32) (I : xw_I) (F : xw_F) (G : xw_G) (post : Int32 → xw_I → xw_F → xw_G → Prop) : Prop := sm_X7_carry  I F G (fun I5 F5 G5 => ((¬ x1 = (-1 : Int32) → ((x1 < 0 → post (-6 : Int32) I5 F5 G5) ∧ (¬ (x1 < 0) → ((x1 < (I5 17) → vp_in x1 21 ∧ ∀ v9 : Int32, v9 = F5 37 x1.toNatClampNeg → post v9 I5 F5 G5) ∧ (¬ (x1 < (I5 17)) → post (-6 : Int32) I5 F5 G5))))) ∧ (x1 = (-1 : Int32) → post (I5 17) I5 F5 G5)))

def bd_X7_told_36 (x1 : Int32) (I : xw_I) (F : xw_F) (G : xw_G) (post : Int32 → Prop) (k36 : Prop) : Prop := ((x1 = 0 → post (I 1)) ∧ ((x1 = 1 → post (I 7)) ∧ ((x1 = 2 → post (I 12)) ∧ (¬ x1 = 0 → ¬ x1 = 1 → ¬ x1 = 2 → post (-2 : Int32)))))
def bd_X7_told_0 (x1 : Int32) (I : xw_I) (F : xw_F) (G : xw_G) (post : Int32 → Prop) (k36 : Prop) : Prop := ((x1 < (10 : Int32) → k36 ) ∧ (¬ (x1 < (10 : Int32)) → ((((10 : Int32) + (I 7)) ≤ x1 → k36 ) ∧ (¬ (((10 : Int32) + (I 7)) ≤ x1) → vp_in (x1 - (10 : Int32)) 12 ∧ ∀ v7 : Int32, v7 = F 20 (x1 - (10 : Int32)).toNatClampNeg → post v7))))
def sm_X7_told (x1 : Int32) (I : xw_I) (F : xw_F) (G : xw_G) (post : Int32 → Prop) : Prop := ∀ (k36 : Prop), (bd_X7_told_36 x1 I F G post k36 → k36) → bd_X7_told_0 x1 I F G post k36

def sm_X8_in (x0 : Int32) (x1 : Int32) (x2 : Int32) (post : Int32 → Prop) : Prop := ((x0 < x1 → post (0 : Int32)) ∧ (¬ (x0 < x1) → ((x2 < x0 → post (0 : Int32)) ∧ (¬ (x2 < x0) → post (1 : Int32)))))

def sm_X8_off (x0 : Int32) (x1 : Int32) (post : Int32 → Prop) : Prop := ((x1 ≤ x0 → post (x0 - x1)) ∧ (¬ (x1 ≤ x0) → post (x1 - x0)))

def sm_X8_greater (x0 : Int32) (x1 : Int32) (post : Int32 → Prop) : Prop := ((x0 ≤ x1 → post x1) ∧ (¬ (x0 ≤ x1) → post x0))

def sm_X8_at (x0 : Int32) (x1 : Int32) (x2 : Int32) (post : Int32 → Prop) : Prop := post ((((81 : Int32) * x0) + ((9 : Int32) * x1)) + x2)

def sm_X8_least (x0 : Int64) (x2 : Int64) (post : Int64 → Prop) : Prop := (((0 : Int32) ≤ (lg_cmp x0 x2) → post x2) ∧ (¬ ((0 : Int32) ≤ (lg_cmp x0 x2)) → post x0))

def bd_X8_bits_4 (x0 : Int32) (post : Int32 → Prop) (k4 : Int32 → Int32 → Prop) (y1 : Int32) (y2 : Int32) : Prop := (((12 : Int32) ≤ y2 → post y1) ∧ (¬ ((12 : Int32) ≤ y2) → ∀ v5 : Int32, v5 = (y1 + ((x0 >>> (y2 &&& 31)) &&& (1 : Int32))) → ∀ v6 : Int32, v6 = y2 + 1 → k4 v5 v6))
def bd_X8_bits_0 (x0 : Int32) (post : Int32 → Prop) (k4 : Int32 → Int32 → Prop) : Prop := k4 (0 : Int32) (0 : Int32)
def sm_X8_bits (x0 : Int32) (post : Int32 → Prop) : Prop := ∀ (k4 : Int32 → Int32 → Prop), (∀ (y1 : Int32) (y2 : Int32), bd_X8_bits_4 x0 post k4 y1 y2 → k4 y1 y2) → bd_X8_bits_0 x0 post k4

def sm_X8_say (x1 : Int32) (I : xw_I) (F : xw_F) (G : xw_G) (post : Int32 → xw_I → xw_F → xw_G → Prop) : Prop := sm_X8_in x1 (33 : Int32) (126 : Int32) (fun r4 => ((¬ r4 = 0 → ((¬ (I 3) = (30 : Int32) → vp_in (I 3) 30 ∧ ∀ F7 : xw_F, F7 = xw_up F 7 (upd (F 7) (I 3).toNatClampNeg x1) → ∀ I8 : xw_I, I8 = xw_up I 3 ((I 3) + (1 : Int32)) → post (I8 3) I8 F7 G) ∧ ((I 3) = (30 : Int32) → post (-4 : Int32) I F G))) ∧ (r4 = 0 → post (-2 : Int32) I F G)))

def sm_X8_wipe (I : xw_I) (F : xw_F) (G : xw_G) (post : Int32 → xw_I → xw_F → xw_G → Prop) : Prop := ∀ v2 : Int32, v2 = (I 3) → ∀ I3 : xw_I, I3 = xw_up I 3 (0 : Int32) → post v2 I3 F G

def bd_X8_faultOf_12 (post : Int32 → xw_I → xw_F → xw_G → Prop) (k12 : Int32 → Int32 → Int32 → Int32 → Int32 → xw_I → xw_F → xw_G → Prop) (y1 : Int32) (y2 : Int32) (y3 : Int32) (y4 : Int32) (y5 : Int32) (I : xw_I) (F : xw_F) (G : xw_G) : Prop := (((I 3) ≤ y5 → ((y4 ≤ 0 → post (-6 : Int32) I F G) ∧ (¬ (y4 ≤ 0) → post (I 3) I F G))) ∧ (¬ ((I 3) ≤ y5) → vp_in y5 30 ∧ ∀ v26 : Int32, v26 = F 7 y5.toNatClampNeg → ((¬ v26 = (46 : Int32) → sm_X8_in v26 (65 : Int32) (69 : Int32) (fun r28 => ((r28 = 0 → sm_X8_in v26 (97 : Int32) (101 : Int32) (fun r30 => ((r30 = 0 → sm_X8_in v26 (120 : Int32) (122 : Int32) (fun r32 => ((r32 = 0 → post y5 I F G) ∧ (¬ (r32 = 0) → ((¬ ((y3 >>> ((v26 - (120 : Int32)) &&& 31)) &&& (1 : Int32)) = (1 : Int32) → ∀ v35 : Int32, v35 = (y3 ||| ((1 : Int32) <<< ((v26 - (120 : Int32)) &&& 31))) → ∀ v36 : Int32, v36 = y5 + 1 → k12 y1 y2 v35 y4 v36 I F G) ∧ (((y3 >>> ((v26 - (120 : Int32)) &&& 31)) &&& (1 : Int32)) = (1 : Int32) → post y5 I F G)))))) ∧ (¬ (r30 = 0) → ((y4 = 0 → post y5 I F G) ∧ (¬ (y4 = 0) → vp_in (y4 - (1 : Int32)) 5 ∧ ∀ v38 : Int32, v38 = F 8 (y4 - (1 : Int32)).toNatClampNeg → ((v38 = (v26 - (97 : Int32)) → ∀ v40 : Int32, v40 = y4 + (-1) → ∀ v41 : Int32, v41 = y5 + 1 → k12 y1 y2 y3 v40 v41 I F G) ∧ (¬ (v38 = (v26 - (97 : Int32))) → post y5 I F G)))))))) ∧ (¬ (r28 = 0) → ((¬ ((y2 >>> ((v26 - (65 : Int32)) &&& 31)) &&& (1 : Int32)) = (1 : Int32) → ∀ v43 : Int32, v43 = (y2 ||| ((1 : Int32) <<< ((v26 - (65 : Int32)) &&& 31))) → vp_in y4 5 ∧ ∀ F44 : xw_F, F44 = xw_up F 8 (upd (F 8) y4.toNatClampNeg (v26 - (65 : Int32))) → ∀ v45 : Int32, v45 = y4 + 1 → ∀ v46 : Int32, v46 = y5 + 1 → k12 y1 v43 y3 v45 v46 I F44 G) ∧ (((y2 >>> ((v26 - (65 : Int32)) &&& 31)) &&& (1 : Int32)) = (1 : Int32) → post y5 I F G)))))) ∧ (v26 = (46 : Int32) → ((¬ y1 = (12 : Int32) → ∀ v48 : Int32, v48 = y1 + 1 → ∀ v49 : Int32, v49 = y5 + 1 → k12 v48 y2 y3 y4 v49 I F G) ∧ (y1 = (12 : Int32) → post y5 I F G))))))
def bd_X8_faultOf_0 (I : xw_I) (F : xw_F) (G : xw_G) (post : Int32 → xw_I → xw_F → xw_G → Prop) (k12 : Int32 → Int32 → Int32 → Int32 → Int32 → xw_I → xw_F → xw_G → Prop) : Prop := k12 (0 : Int32) (0 : Int32) (0 : Int32) (0 : Int32) (0 : Int32) I F G
def sm_X8_faultOf (I : xw_I) (F : xw_F) (G : xw_G) (post : Int32 → xw_I → xw_F → xw_G → Prop) : Prop := ∀ (k12 : Int32 → Int32 → Int32 → Int32 → Int32 → xw_I → xw_F → xw_G → Prop), (∀ (y1 : Int32) (y2 : Int32) (y3 : Int32) (y4 : Int32) (y5 : Int32) (I : xw_I) (F : xw_F) (G : xw_G), bd_X8_faultOf_12 post k12 y1 y2 y3 y4 y5 I F G → k12 y1 y2 y3 y4 y5 I F G) → bd_X8_faultOf_0 I F G post k12

def sm_X8_fault (I : xw_I) (F : xw_F) (G : xw_G) (post : Int32 → xw_I → xw_F → xw_G → Prop) : Prop := sm_X8_faultOf  I F G (fun r1 I1 F1 G1 => post r1 I1 F1 G1)

def bd_X8_unlink_2 (post : xw_I → xw_F → xw_G → Prop) (k2 : Int32 → xw_I → xw_F → xw_G → Prop) (y1 : Int32) (I : xw_I) (F : xw_F) (G : xw_G) : Prop := (((12 : Int32) ≤ y1 → post I F G) ∧ (¬ ((12 : Int32) ≤ y1) → vp_in y1 12 ∧ ∀ F5 : xw_F, F5 = xw_up F 6 (upd (F 6) y1.toNatClampNeg (0 : Int32)) → ∀ v6 : Int32, v6 = y1 + 1 → k2 v6 I F5 G))
def bd_X8_unlink_0 (I : xw_I) (F : xw_F) (G : xw_G) (post : xw_I → xw_F → xw_G → Prop) (k2 : Int32 → xw_I → xw_F → xw_G → Prop) : Prop := k2 (0 : Int32) I F G
def sm_X8_unlink (I : xw_I) (F : xw_F) (G : xw_G) (post : xw_I → xw_F → xw_G → Prop) : Prop := ∀ (k2 : Int32 → xw_I → xw_F → xw_G → Prop), (∀ (y1 : Int32) (I : xw_I) (F : xw_F) (G : xw_G), bd_X8_unlink_2 post k2 y1 I F G → k2 y1 I F G) → bd_X8_unlink_0 I F G post k2

def bd_X8_load_22 (post : Int32 → xw_I → xw_F → xw_G → Prop) (k22 : Int32 → xw_I → xw_F → xw_G → Prop) (k50 : Int32 → xw_I → xw_F → xw_G → Prop) (k73 : Int32 → Int32 → xw_I → xw_F → xw_G → Prop) (k121 : Int32 → Int32 → Int32 → Int32 → xw_I → xw_F → xw_G → Prop) (k155 : Int32 → Int32 → Int32 → Int32 → Int32 → Int32 → Int32 → xw_I → xw_F → xw_G → Prop) (y1 : Int32) (I : xw_I) (F : xw_F) (G : xw_G) : Prop := (((5 : Int32) ≤ y1 → k50 (0 : Int32) I F G) ∧ (¬ ((5 : Int32) ≤ y1) → vp_in y1 5 ∧ ∀ F34 : xw_F, F34 = xw_up F 1 (upd (F 1) y1.toNatClampNeg (-6 : Int32)) → vp_in y1 5 ∧ ∀ F35 : xw_F, F35 = xw_up F34 3 (upd (F34 3) y1.toNatClampNeg (0 : Int32)) → ∀ v36 : Int32, v36 = y1 + 1 → k22 v36 I F35 G))
def bd_X8_load_50 (post : Int32 → xw_I → xw_F → xw_G → Prop) (k22 : Int32 → xw_I → xw_F → xw_G → Prop) (k50 : Int32 → xw_I → xw_F → xw_G → Prop) (k73 : Int32 → Int32 → xw_I → xw_F → xw_G → Prop) (k121 : Int32 → Int32 → Int32 → Int32 → xw_I → xw_F → xw_G → Prop) (k155 : Int32 → Int32 → Int32 → Int32 → Int32 → Int32 → Int32 → xw_I → xw_F → xw_G → Prop) (y1 : Int32) (I : xw_I) (F : xw_F) (G : xw_G) : Prop := (((3 : Int32) ≤ y1 → k73 (0 : Int32) (0 : Int32) I F G) ∧ (¬ ((3 : Int32) ≤ y1) → vp_in y1 3 ∧ ∀ F38 : xw_F, F38 = xw_up F 4 (upd (F 4) y1.toNatClampNeg (-6 : Int32)) → ∀ v39 : Int32, v39 = y1 + 1 → k50 v39 I F38 G))
def bd_X8_load_73 (post : Int32 → xw_I → xw_F → xw_G → Prop) (k22 : Int32 → xw_I → xw_F → xw_G → Prop) (k50 : Int32 → xw_I → xw_F → xw_G → Prop) (k73 : Int32 → Int32 → xw_I → xw_F → xw_G → Prop) (k121 : Int32 → Int32 → Int32 → Int32 → xw_I → xw_F → xw_G → Prop) (k155 : Int32 → Int32 → Int32 → Int32 → Int32 → Int32 → Int32 → xw_I → xw_F → xw_G → Prop) (y1 : Int32) (y2 : Int32) (I : xw_I) (F : xw_F) (G : xw_G) : Prop := (((I 3) ≤ y2 → sm_X8_unlink  I F G (fun I41 F41 G41 => ∀ I42 : xw_I, I42 = xw_up I41 3 (0 : Int32) → post (I42 0) I42 F41 G41)) ∧ (¬ ((I 3) ≤ y2) → vp_in y2 30 ∧ ∀ v43 : Int32, v43 = F 7 y2.toNatClampNeg → ((¬ v43 = (46 : Int32) → sm_X8_in v43 (65 : Int32) (69 : Int32) (fun r45 => ((r45 = 0 → sm_X8_in v43 (97 : Int32) (101 : Int32) (fun r47 => ((r47 = 0 → vp_in (v43 - (120 : Int32)) 3 ∧ ∀ F49 : xw_F, F49 = xw_up F 4 (upd (F 4) (v43 - (120 : Int32)).toNatClampNeg (I 0)) → vp_in (I 1) 3 ∧ ∀ F50 : xw_F, F50 = xw_up F49 5 (upd (F49 5) (I 1).toNatClampNeg (v43 - (120 : Int32))) → ∀ I51 : xw_I, I51 = xw_up I 1 ((I 1) + (1 : Int32)) → ∀ v52 : Int32, v52 = y2 + 1 → k73 y1 v52 I51 F50 G) ∧ (¬ (r47 = 0) → vp_in (v43 - (97 : Int32)) 5 ∧ ∀ F53 : xw_F, F53 = xw_up F 2 (upd (F 2) (v43 - (97 : Int32)).toNatClampNeg (I 0)) → ∀ v54 : Int32, v54 = (y1 &&& (((1 : Int32) <<< ((v43 - (97 : Int32)) &&& 31)) ^^^ (-1 : Int32))) → ∀ v55 : Int32, v55 = y2 + 1 → k73 v54 v55 I F53 G)))) ∧ (¬ (r45 = 0) → k121 y1 y2 v43 (0 : Int32) I F G)))) ∧ (v43 = (46 : Int32) → ∀ I56 : xw_I, I56 = xw_up I 0 ((I 0) + (1 : Int32)) → ∀ v57 : Int32, v57 = y2 + 1 → k73 y1 v57 I56 F G))))
def bd_X8_load_121 (post : Int32 → xw_I → xw_F → xw_G → Prop) (k22 : Int32 → xw_I → xw_F → xw_G → Prop) (k50 : Int32 → xw_I → xw_F → xw_G → Prop) (k73 : Int32 → Int32 → xw_I → xw_F → xw_G → Prop) (k121 : Int32 → Int32 → Int32 → Int32 → xw_I → xw_F → xw_G → Prop) (k155 : Int32 → Int32 → Int32 → Int32 → Int32 → Int32 → Int32 → xw_I → xw_F → xw_G → Prop) (y1 : Int32) (y2 : Int32) (y3 : Int32) (y4 : Int32) (I : xw_I) (F : xw_F) (G : xw_G) : Prop := (((5 : Int32) ≤ y4 → vp_in (y3 - (65 : Int32)) 5 ∧ ∀ F59 : xw_F, F59 = xw_up F 1 (upd (F 1) (y3 - (65 : Int32)).toNatClampNeg (I 0)) → ∀ v60 : Int32, v60 = (y1 ||| ((1 : Int32) <<< ((y3 - (65 : Int32)) &&& 31))) → ∀ v61 : Int32, v61 = y2 + 1 → k73 v60 v61 I F59 G) ∧ (¬ ((5 : Int32) ≤ y4) → vp_in y4 5 ∧ ∀ v62 : Int32, v62 = F 3 y4.toNatClampNeg → ((¬ ((y1 >>> (y4 &&& 31)) &&& (1 : Int32)) = (1 : Int32) → k155 y1 y2 y3 y4 y4 v62 (0 : Int32) I F G) ∧ (((y1 >>> (y4 &&& 31)) &&& (1 : Int32)) = (1 : Int32) → k155 y1 y2 y3 y4 y4 v62 ((1 : Int32) <<< ((y3 - (65 : Int32)) &&& 31)) I F G))))
def bd_X8_load_155 (post : Int32 → xw_I → xw_F → xw_G → Prop) (k22 : Int32 → xw_I → xw_F → xw_G → Prop) (k50 : Int32 → xw_I → xw_F → xw_G → Prop) (k73 : Int32 → Int32 → xw_I → xw_F → xw_G → Prop) (k121 : Int32 → Int32 → Int32 → Int32 → xw_I → xw_F → xw_G → Prop) (k155 : Int32 → Int32 → Int32 → Int32 → Int32 → Int32 → Int32 → xw_I → xw_F → xw_G → Prop) (y1 : Int32) (y2 : Int32) (y3 : Int32) (y4 : Int32) (t1 : Int32) (t2 : Int32) (t3 : Int32) (I : xw_I) (F : xw_F) (G : xw_G) : Prop := vp_in t1 5 ∧ ∀ F64 : xw_F, F64 = xw_up F 3 (upd (F 3) t1.toNatClampNeg (t2 ||| t3)) → ∀ v65 : Int32, v65 = y4 + 1 → k121 y1 y2 y3 v65 I F64 G
def bd_X8_load_0 (I : xw_I) (F : xw_F) (G : xw_G) (post : Int32 → xw_I → xw_F → xw_G → Prop) (k22 : Int32 → xw_I → xw_F → xw_G → Prop) (k50 : Int32 → xw_I → xw_F → xw_G → Prop) (k73 : Int32 → Int32 → xw_I → xw_F → xw_G → Prop) (k121 : Int32 → Int32 → Int32 → Int32 → xw_I → xw_F → xw_G → Prop) (k155 : Int32 → Int32 → Int32 → Int32 → Int32 → Int32 → Int32 → xw_I → xw_F → xw_G → Prop) : Prop := sm_X8_faultOf  I F G (fun r29 I29 F29 G29 => ((r29 < 0 → ∀ I31 : xw_I, I31 = xw_up I29 0 (0 : Int32) → ∀ I32 : xw_I, I32 = xw_up I31 1 (0 : Int32) → k22 (0 : Int32) I32 F29 G29) ∧ (¬ (r29 < 0) → post (-5 : Int32) I29 F29 G29)))
def sm_X8_load (I : xw_I) (F : xw_F) (G : xw_G) (post : Int32 → xw_I → xw_F → xw_G → Prop) : Prop := ∀ (k22 : Int32 → xw_I → xw_F → xw_G → Prop) (k50 : Int32 → xw_I → xw_F → xw_G → Prop) (k73 : Int32 → Int32 → xw_I → xw_F → xw_G → Prop) (k121 : Int32 → Int32 → Int32 → Int32 → xw_I → xw_F → xw_G → Prop) (k155 : Int32 → Int32 → Int32 → Int32 → Int32 → Int32 → Int32 → xw_I → xw_F → xw_G → Prop), (∀ (y1 : Int32) (I : xw_I) (F : xw_F) (G : xw_G), bd_X8_load_22 post k22 k50 k73 k121 k155 y1 I F G → k22 y1 I F G) → (∀ (y1 : Int32) (I : xw_I) (F : xw_F) (G : xw_G), bd_X8_load_50 post k22 k50 k73 k121 k155 y1 I F G → k50 y1 I F G) → (∀ (y1 : Int32) (y2 : Int32) (I : xw_I) (F : xw_F) (G : xw_G), bd_X8_load_73 post k22 k50 k73 k121 k155 y1 y2 I F G → k73 y1 y2 I F G) → (∀ (y1 : Int32) (y2 : Int32) (y3 : Int32) (y4 : Int32) (I : xw_I) (F : xw_F) (G : xw_G), bd_X8_load_121 post k22 k50 k73 k121 k155 y1 y2 y3 y4 I F G → k121 y1 y2 y3 y4 I F G) → (∀ (y1 : Int32) (y2 : Int32) (y3 : Int32) (y4 : Int32) (t1 : Int32) (t2 : Int32) (t3 : Int32) (I : xw_I) (F : xw_F) (G : xw_G), bd_X8_load_155 post k22 k50 k73 k121 k155 y1 y2 y3 y4 t1 t2 t3 I F G → k155 y1 y2 y3 y4 t1 t2 t3 I F G) → bd_X8_load_0 I F G post k22 k50 k73 k121 k155

def sm_X8_target (x1 : Int32) (I : xw_I) (F : xw_F) (G : xw_G) (post : Int32 → xw_I → xw_F → xw_G → Prop) : Prop := sm_X8_in x1 (0 : Int32) (8 : Int32) (fun r3 => ((¬ r3 = 0 → ∀ v5 : Int32, v5 = (I 2) → ∀ I6 : xw_I, I6 = xw_up I 2 x1 → sm_X8_unlink  I6 F G (fun I7 F7 G7 => post v5 I7 F7 G7)) ∧ (r3 = 0 → post (-2 : Int32) I F G)))

def sm_X8_link (x1 : Int32) (x2 : Int32) (I : xw_I) (F : xw_F) (G : xw_G) (post : Int32 → xw_I → xw_F → xw_G → Prop) : Prop := sm_X8_in x1 (0 : Int32) ((I 0) - (1 : Int32)) (fun r6 => ((r6 = 0 → post (-1 : Int32) I F G) ∧ (¬ (r6 = 0) → sm_X8_in x2 (0 : Int32) ((I 2) - (1 : Int32)) (fun r8 => ((¬ r8 = 0 → vp_in x1 12 ∧ ∀ v10 : Int32, v10 = F 6 x1.toNatClampNeg → vp_in x1 12 ∧ ∀ F11 : xw_F, F11 = xw_up F 6 (upd (F 6) x1.toNatClampNeg (v10 ^^^ ((1 : Int32) <<< (x2 &&& 31)))) → vp_in x1 12 ∧ ∀ v12 : Int32, v12 = F11 6 x1.toNatClampNeg → post ((v12 >>> (x2 &&& 31)) &&& (1 : Int32)) I F11 G) ∧ (r8 = 0 → post (-1 : Int32) I F G))))))

def sm_X8_isThere (x1 : Int32) (I : xw_I) (F : xw_F) (G : xw_G) (post : Int32 → Prop) : Prop := sm_X8_in x1 (0 : Int32) (4 : Int32) (fun r4 => ((r4 = 0 → post (0 : Int32)) ∧ (¬ (r4 = 0) → vp_in x1 5 ∧ ∀ v6 : Int32, v6 = F 1 x1.toNatClampNeg → ((v6 < 0 → post (0 : Int32)) ∧ (¬ (v6 < 0) → post (1 : Int32))))))

def bd_X8_anchor_4 (x1 : Int32) (I : xw_I) (F : xw_F) (G : xw_G) (post : Int32 → Prop) (k4 : Int32 → Prop) (k15 : Int32 → Int32 → Prop) (y2 : Int32) : Prop := ((y2 < 0 → post (0 : Int32)) ∧ (¬ (y2 < 0) → ∀ v11 : Int32, v11 = ((I 2) - (1 : Int32)) → k15 y2 v11))
def bd_X8_anchor_15 (x1 : Int32) (I : xw_I) (F : xw_F) (G : xw_G) (post : Int32 → Prop) (k4 : Int32 → Prop) (k15 : Int32 → Int32 → Prop) (y2 : Int32) (y3 : Int32) : Prop := ((y3 < 0 → ∀ v13 : Int32, v13 = y2 + (-1) → k4 v13) ∧ (¬ (y3 < 0) → vp_in y2 12 ∧ ∀ v14 : Int32, v14 = F 6 y2.toNatClampNeg → ((¬ ((v14 >>> (y3 &&& 31)) &&& (1 : Int32)) = (1 : Int32) → ∀ v16 : Int32, v16 = y3 + (-1) → k15 y2 v16) ∧ (((v14 >>> (y3 &&& 31)) &&& (1 : Int32)) = (1 : Int32) → post (y3 + (1 : Int32))))))
def bd_X8_anchor_0 (x1 : Int32) (I : xw_I) (F : xw_F) (G : xw_G) (post : Int32 → Prop) (k4 : Int32 → Prop) (k15 : Int32 → Int32 → Prop) : Prop := ∀ v9 : Int32, v9 = (x1 - (1 : Int32)) → k4 v9
def sm_X8_anchor (x1 : Int32) (I : xw_I) (F : xw_F) (G : xw_G) (post : Int32 → Prop) : Prop := ∀ (k4 : Int32 → Prop) (k15 : Int32 → Int32 → Prop), (∀ (y2 : Int32), bd_X8_anchor_4 x1 I F G post k4 k15 y2 → k4 y2) → (∀ (y2 : Int32) (y3 : Int32), bd_X8_anchor_15 x1 I F G post k4 k15 y2 y3 → k15 y2 y3) → bd_X8_anchor_0 x1 I F G post k4 k15

def bd_X8_linksOf_9 (x1 : Int32) (I : xw_I) (F : xw_F) (G : xw_G) (post : Int32 → Prop) (k9 : Int32 → Int32 → Prop) (y2 : Int32) (y3 : Int32) : Prop := vp_in x1 5 ∧ ∀ v8 : Int32, v8 = F 2 x1.toNatClampNeg → ((v8 ≤ y3 → post y2) ∧ (¬ (v8 ≤ y3) → vp_in y3 12 ∧ ∀ v10 : Int32, v10 = F 6 y3.toNatClampNeg → ∀ v11 : Int32, v11 = (y2 ||| v10) → ∀ v12 : Int32, v12 = y3 + 1 → k9 v11 v12))
def bd_X8_linksOf_0 (x1 : Int32) (I : xw_I) (F : xw_F) (G : xw_G) (post : Int32 → Prop) (k9 : Int32 → Int32 → Prop) : Prop := vp_in x1 5 ∧ ∀ v7 : Int32, v7 = F 1 x1.toNatClampNeg → k9 (0 : Int32) v7
def sm_X8_linksOf (x1 : Int32) (I : xw_I) (F : xw_F) (G : xw_G) (post : Int32 → Prop) : Prop := ∀ (k9 : Int32 → Int32 → Prop), (∀ (y2 : Int32) (y3 : Int32), bd_X8_linksOf_9 x1 I F G post k9 y2 y3 → k9 y2 y3) → bd_X8_linksOf_0 x1 I F G post k9

def bd_X8_wantedFrom_23 (x1 : Int32) (I : xw_I) (F : xw_F) (G : xw_G) (post : Int32 → Prop) (k23 : Int32 → Int32 → Prop) (y2 : Int32) (y3 : Int32) : Prop := ((¬ ((y2 >>> (y3 &&& 31)) &&& (1 : Int32)) = 0 → post y3) ∧ (((y2 >>> (y3 &&& 31)) &&& (1 : Int32)) = 0 → ∀ v10 : Int32, v10 = y3 + 1 → k23 y2 v10))
def bd_X8_wantedFrom_0 (x1 : Int32) (I : xw_I) (F : xw_F) (G : xw_G) (post : Int32 → Prop) (k23 : Int32 → Int32 → Prop) : Prop := sm_X8_linksOf x1 I F G (fun r5 => ((¬ r5 = 0 → k23 r5 (0 : Int32)) ∧ (r5 = 0 → vp_in x1 5 ∧ ∀ v7 : Int32, v7 = F 1 x1.toNatClampNeg → sm_X8_anchor v7 I F G (fun r8 => post r8))))
def sm_X8_wantedFrom (x1 : Int32) (I : xw_I) (F : xw_F) (G : xw_G) (post : Int32 → Prop) : Prop := ∀ (k23 : Int32 → Int32 → Prop), (∀ (y2 : Int32) (y3 : Int32), bd_X8_wantedFrom_23 x1 I F G post k23 y2 y3 → k23 y2 y3) → bd_X8_wantedFrom_0 x1 I F G post k23

def bd_X8_wantedTo_26 (x1 : Int32) (I : xw_I) (F : xw_F) (G : xw_G) (post : Int32 → Prop) (k26 : Int32 → Int32 → Prop) (y2 : Int32) (y3 : Int32) : Prop := ((¬ ((y2 >>> ((y3 - (1 : Int32)) &&& 31)) &&& (1 : Int32)) = 0 → post y3) ∧ (((y2 >>> ((y3 - (1 : Int32)) &&& 31)) &&& (1 : Int32)) = 0 → ∀ v12 : Int32, v12 = y3 + (-1) → k26 y2 v12))
def bd_X8_wantedTo_0 (x1 : Int32) (I : xw_I) (F : xw_F) (G : xw_G) (post : Int32 → Prop) (k26 : Int32 → Int32 → Prop) : Prop := sm_X8_linksOf x1 I F G (fun r6 => ((¬ r6 = 0 → ∀ v8 : Int32, v8 = (I 2) → k26 r6 v8) ∧ (r6 = 0 → vp_in x1 5 ∧ ∀ v9 : Int32, v9 = F 1 x1.toNatClampNeg → sm_X8_anchor v9 I F G (fun r10 => post r10))))
def sm_X8_wantedTo (x1 : Int32) (I : xw_I) (F : xw_F) (G : xw_G) (post : Int32 → Prop) : Prop := ∀ (k26 : Int32 → Int32 → Prop), (∀ (y2 : Int32) (y3 : Int32), bd_X8_wantedTo_26 x1 I F G post k26 y2 y3 → k26 y2 y3) → bd_X8_wantedTo_0 x1 I F G post k26

def bd_X8_costOf_56 (x1 : Int32) (x2 : Int32) (x3 : Int32) (I : xw_I) (F : xw_F) (G : xw_G) (post : Int32 → Prop) (k56 : Int32 → Int32 → Int32 → Prop) (y5 : Int32) (y6 : Int32) (y7 : Int32) : Prop := ((y5 ≤ y7 → post y6) ∧ (¬ (y5 ≤ y7) → ((x1 ≤ (1 : Int32) → post y6) ∧ (¬ (x1 ≤ (1 : Int32)) → ((y7 < x2 → ∀ v25 : Int32, v25 = (y6 + (2 : Int32)) → ∀ v26 : Int32, v26 = y7 + 1 → k56 y5 v25 v26) ∧ (¬ (y7 < x2) → ((y7 < x3 → ∀ v28 : Int32, v28 = (y6 + (0 : Int32)) → ∀ v29 : Int32, v29 = y7 + 1 → k56 y5 v28 v29) ∧ (¬ (y7 < x3) → ∀ v30 : Int32, v30 = (y6 + (2 : Int32)) → ∀ v31 : Int32, v31 = y7 + 1 → k56 y5 v30 v31))))))))
def bd_X8_costOf_0 (x1 : Int32) (x2 : Int32) (x3 : Int32) (I : xw_I) (F : xw_F) (G : xw_G) (post : Int32 → Prop) (k56 : Int32 → Int32 → Int32 → Prop) : Prop := sm_X8_wantedFrom x1 I F G (fun r13 => sm_X8_wantedTo x1 I F G (fun r14 => sm_X8_off r13 x2 (fun r15 => sm_X8_off r14 x3 (fun r16 => ∀ v17 : Int32, v17 = (r15 + r16) → ((¬ x1 = (4 : Int32) → k56 r14 v17 r13) ∧ (x1 = (4 : Int32) → sm_X8_off r13 x2 (fun r19 => sm_X8_off r14 x3 (fun r20 => sm_X8_greater r19 r20 (fun r21 => post ((2 : Int32) * r21))))))))))
def sm_X8_costOf (x1 : Int32) (x2 : Int32) (x3 : Int32) (I : xw_I) (F : xw_F) (G : xw_G) (post : Int32 → Prop) : Prop := ∀ (k56 : Int32 → Int32 → Int32 → Prop), (∀ (y5 : Int32) (y6 : Int32) (y7 : Int32), bd_X8_costOf_56 x1 x2 x3 I F G post k56 y5 y6 y7 → k56 y5 y6 y7) → bd_X8_costOf_0 x1 x2 x3 I F G post k56

def bd_X8_areApart_5 (x1 : Int32) (x2 : Int32) (I : xw_I) (F : xw_F) (G : xw_G) (post : Int32 → Prop) (k5 : Int32 → Int32 → Prop) (k36 : Int32 → Prop) (y3 : Int32) (y4 : Int32) : Prop := (((5 : Int32) ≤ y4 → narrow .boolean (.int y3) = .int y3 ∧ post y3) ∧ (¬ ((5 : Int32) ≤ y4) → ((y3 = 0 → ∀ v16 : Int32, v16 = y4 + 1 → k5 (0 : Int32) v16) ∧ (¬ (y3 = 0) → ((((x1 >>> (y4 &&& 31)) &&& (1 : Int32)) = 0 → k36 y4) ∧ (¬ (((x1 >>> (y4 &&& 31)) &&& (1 : Int32)) = 0) → vp_in y4 5 ∧ ∀ v18 : Int32, v18 = F 3 y4.toNatClampNeg → ((¬ (v18 &&& x2) = 0 → ∀ v20 : Int32, v20 = y4 + 1 → k5 (0 : Int32) v20) ∧ ((v18 &&& x2) = 0 → k36 y4))))))))
def bd_X8_areApart_36 (x1 : Int32) (x2 : Int32) (I : xw_I) (F : xw_F) (G : xw_G) (post : Int32 → Prop) (k5 : Int32 → Int32 → Prop) (k36 : Int32 → Prop) (y4 : Int32) : Prop := ((((x2 >>> (y4 &&& 31)) &&& (1 : Int32)) = 0 → ∀ v22 : Int32, v22 = y4 + 1 → k5 (1 : Int32) v22) ∧ (¬ (((x2 >>> (y4 &&& 31)) &&& (1 : Int32)) = 0) → vp_in y4 5 ∧ ∀ v23 : Int32, v23 = F 3 y4.toNatClampNeg → ((¬ (v23 &&& x1) = 0 → ∀ v25 : Int32, v25 = y4 + 1 → k5 (0 : Int32) v25) ∧ ((v23 &&& x1) = 0 → ∀ v26 : Int32, v26 = y4 + 1 → k5 (1 : Int32) v26))))
def bd_X8_areApart_0 (x1 : Int32) (x2 : Int32) (I : xw_I) (F : xw_F) (G : xw_G) (post : Int32 → Prop) (k5 : Int32 → Int32 → Prop) (k36 : Int32 → Prop) : Prop := k5 (1 : Int32) (0 : Int32)
def sm_X8_areApart (x1 : Int32) (x2 : Int32) (I : xw_I) (F : xw_F) (G : xw_G) (post : Int32 → Prop) : Prop := ∀ (k5 : Int32 → Int32 → Prop) (k36 : Int32 → Prop), (∀ (y3 : Int32) (y4 : Int32), bd_X8_areApart_5 x1 x2 I F G post k5 k36 y3 y4 → k5 y3 y4) → (∀ (y4 : Int32), bd_X8_areApart_36 x1 x2 I F G post k5 k36 y4 → k36 y4) → bd_X8_areApart_0 x1 x2 I F G post k5 k36

def bd_X8_isHeld_5 (x1 : Int32) (x2 : Int32) (I : xw_I) (F : xw_F) (G : xw_G) (post : Int32 → Prop) (k5 : Int32 → Int32 → Prop) (y3 : Int32) (y4 : Int32) : Prop := (((5 : Int32) ≤ y4 → narrow .boolean (.int y3) = .int y3 ∧ post y3) ∧ (¬ ((5 : Int32) ≤ y4) → ((¬ y3 = 0 → ∀ v12 : Int32, v12 = y4 + 1 → k5 (1 : Int32) v12) ∧ (y3 = 0 → ((¬ ((x2 >>> (y4 &&& 31)) &&& (1 : Int32)) = (1 : Int32) → ∀ v14 : Int32, v14 = y4 + 1 → k5 (0 : Int32) v14) ∧ (((x2 >>> (y4 &&& 31)) &&& (1 : Int32)) = (1 : Int32) → vp_in y4 5 ∧ ∀ v15 : Int32, v15 = F 3 y4.toNatClampNeg → ((¬ ((v15 >>> (x1 &&& 31)) &&& (1 : Int32)) = (1 : Int32) → ∀ v17 : Int32, v17 = y4 + 1 → k5 (0 : Int32) v17) ∧ (((v15 >>> (x1 &&& 31)) &&& (1 : Int32)) = (1 : Int32) → ∀ v18 : Int32, v18 = y4 + 1 → k5 (1 : Int32) v18))))))))
def bd_X8_isHeld_0 (x1 : Int32) (x2 : Int32) (I : xw_I) (F : xw_F) (G : xw_G) (post : Int32 → Prop) (k5 : Int32 → Int32 → Prop) : Prop := k5 (0 : Int32) (0 : Int32)
def sm_X8_isHeld (x1 : Int32) (x2 : Int32) (I : xw_I) (F : xw_F) (G : xw_G) (post : Int32 → Prop) : Prop := ∀ (k5 : Int32 → Int32 → Prop), (∀ (y3 : Int32) (y4 : Int32), bd_X8_isHeld_5 x1 x2 I F G post k5 y3 y4 → k5 y3 y4) → bd_X8_isHeld_0 x1 x2 I F G post k5

def sm_X8_code (x1 : Int32) (x2 : Int32) (x3 : Int32) (I : xw_I) (F : xw_F) (G : xw_G) (post : Int64 → Prop) : Prop := sm_X8_costOf x1 x2 x3 I F G (fun r1 => post ((r1.toInt64 <<< ((40 : Int32).toInt64 &&& 63)) + ((((16 : Int32) * x2) + x3).toInt64 <<< (((8 : Int32) * ((4 : Int32) - x1)).toInt64 &&& 63))))

def bd_X8_leastOf_8 (x1 : Int32) (x2 : Int32) (x3 : Int32) (I : xw_I) (F : xw_F) (G : xw_G) (post : Int64 → Prop) (k8 : Int64 → Int32 → Prop) (k41 : Int64 → Int32 → Int32 → Prop) (k131 : Int64 → Int32 → Prop) (k171 : Int64 → Int32 → Int32 → Int32 → Prop) (k181 : Int64 → Int32 → Int32 → Int32 → Int32 → Prop) (y4 : Int64) (y6 : Int32) : Prop := ((x1 ≤ y6 → k131 y4 (0 : Int32)) ∧ (¬ (x1 ≤ y6) → ((¬ (y6 &&& x1) = y6 → ∀ v31 : Int32, v31 = y6 + 1 → k8 y4 v31) ∧ ((y6 &&& x1) = y6 → sm_X8_areApart y6 (x1 &&& (y6 ^^^ (-1 : Int32))) I F G (fun r32 => ((r32 = 0 → ∀ v34 : Int32, v34 = y6 + 1 → k8 y4 v34) ∧ (¬ (r32 = 0) → k41 y4 y6 x2)))))))
def bd_X8_leastOf_41 (x1 : Int32) (x2 : Int32) (x3 : Int32) (I : xw_I) (F : xw_F) (G : xw_G) (post : Int64 → Prop) (k8 : Int64 → Int32 → Prop) (k41 : Int64 → Int32 → Int32 → Prop) (k131 : Int64 → Int32 → Prop) (k171 : Int64 → Int32 → Int32 → Int32 → Prop) (k181 : Int64 → Int32 → Int32 → Int32 → Int32 → Prop) (y4 : Int64) (y6 : Int32) (y7 : Int32) : Prop := ((x3 < y7 → ∀ v36 : Int32, v36 = y6 + 1 → k8 y4 v36) ∧ (¬ (x3 < y7) → sm_X8_at y6 x2 y7 (fun r37 => vp_in r37 2592 ∧ ∀ v38 : Int64, v38 = G 9 r37.toNatClampNeg → sm_X8_at (x1 &&& (y6 ^^^ (-1 : Int32))) y7 x3 (fun r39 => vp_in r39 2592 ∧ ∀ v40 : Int64, v40 = G 9 r39.toNatClampNeg → (((0 : Int32) ≤ (lg_cmp v38 (4611686018427387904 : Int64)) → ∀ v42 : Int32, v42 = y7 + 1 → k41 y4 y6 v42) ∧ (¬ ((0 : Int32) ≤ (lg_cmp v38 (4611686018427387904 : Int64))) → (((0 : Int32) ≤ (lg_cmp v40 (4611686018427387904 : Int64)) → ∀ v44 : Int32, v44 = y7 + 1 → k41 y4 y6 v44) ∧ (¬ ((0 : Int32) ≤ (lg_cmp v40 (4611686018427387904 : Int64))) → sm_X8_least y4 (v38 + v40) (fun r45 => ∀ v46 : Int32, v46 = y7 + 1 → k41 r45 y6 v46)))))))))
def bd_X8_leastOf_131 (x1 : Int32) (x2 : Int32) (x3 : Int32) (I : xw_I) (F : xw_F) (G : xw_G) (post : Int64 → Prop) (k8 : Int64 → Int32 → Prop) (k41 : Int64 → Int32 → Int32 → Prop) (k131 : Int64 → Int32 → Prop) (k171 : Int64 → Int32 → Int32 → Int32 → Prop) (k181 : Int64 → Int32 → Int32 → Int32 → Int32 → Prop) (y4 : Int64) (y6 : Int32) : Prop := (((5 : Int32) ≤ y6 → post y4) ∧ (¬ ((5 : Int32) ≤ y6) → ∀ v48 : Int32, v48 = (x1 &&& (((1 : Int32) <<< (y6 &&& 31)) ^^^ (-1 : Int32))) → ((¬ ((x1 >>> (y6 &&& 31)) &&& (1 : Int32)) = (1 : Int32) → ∀ v50 : Int32, v50 = y6 + 1 → k131 y4 v50) ∧ (((x1 >>> (y6 &&& 31)) &&& (1 : Int32)) = (1 : Int32) → sm_X8_isHeld y6 v48 I F G (fun r51 => ((¬ r51 = 0 → ∀ v53 : Int32, v53 = y6 + 1 → k131 y4 v53) ∧ (r51 = 0 → k171 y4 y6 v48 x2)))))))
def bd_X8_leastOf_171 (x1 : Int32) (x2 : Int32) (x3 : Int32) (I : xw_I) (F : xw_F) (G : xw_G) (post : Int64 → Prop) (k8 : Int64 → Int32 → Prop) (k41 : Int64 → Int32 → Int32 → Prop) (k131 : Int64 → Int32 → Prop) (k171 : Int64 → Int32 → Int32 → Int32 → Prop) (k181 : Int64 → Int32 → Int32 → Int32 → Int32 → Prop) (y4 : Int64) (y6 : Int32) (y7 : Int32) (y8 : Int32) : Prop := ((x3 < y8 → ∀ v55 : Int32, v55 = y6 + 1 → k131 y4 v55) ∧ (¬ (x3 < y8) → k181 y4 y6 y7 y8 y8))
def bd_X8_leastOf_181 (x1 : Int32) (x2 : Int32) (x3 : Int32) (I : xw_I) (F : xw_F) (G : xw_G) (post : Int64 → Prop) (k8 : Int64 → Int32 → Prop) (k41 : Int64 → Int32 → Int32 → Prop) (k131 : Int64 → Int32 → Prop) (k171 : Int64 → Int32 → Int32 → Int32 → Prop) (k181 : Int64 → Int32 → Int32 → Int32 → Int32 → Prop) (y4 : Int64) (y6 : Int32) (y7 : Int32) (y8 : Int32) (y9 : Int32) : Prop := ((x3 < y9 → ∀ v57 : Int32, v57 = y8 + 1 → k171 y4 y6 y7 v57) ∧ (¬ (x3 < y9) → sm_X8_at y7 y8 y9 (fun r58 => vp_in r58 2592 ∧ ∀ v59 : Int64, v59 = G 9 r58.toNatClampNeg → (((0 : Int32) ≤ (lg_cmp v59 (4611686018427387904 : Int64)) → ∀ v61 : Int32, v61 = y9 + 1 → k181 y4 y6 y7 y8 v61) ∧ (¬ ((0 : Int32) ≤ (lg_cmp v59 (4611686018427387904 : Int64))) → sm_X8_code y6 y8 y9 I F G (fun r62 => sm_X8_least y4 (v59 + r62) (fun r63 => ∀ v64 : Int32, v64 = y9 + 1 → k181 r63 y6 y7 y8 v64)))))))
def bd_X8_leastOf_0 (x1 : Int32) (x2 : Int32) (x3 : Int32) (I : xw_I) (F : xw_F) (G : xw_G) (post : Int64 → Prop) (k8 : Int64 → Int32 → Prop) (k41 : Int64 → Int32 → Int32 → Prop) (k131 : Int64 → Int32 → Prop) (k171 : Int64 → Int32 → Int32 → Int32 → Prop) (k181 : Int64 → Int32 → Int32 → Int32 → Int32 → Prop) : Prop := k8 (4611686018427387904 : Int64) (1 : Int32)
def sm_X8_leastOf (x1 : Int32) (x2 : Int32) (x3 : Int32) (I : xw_I) (F : xw_F) (G : xw_G) (post : Int64 → Prop) : Prop := ∀ (k8 : Int64 → Int32 → Prop) (k41 : Int64 → Int32 → Int32 → Prop) (k131 : Int64 → Int32 → Prop) (k171 : Int64 → Int32 → Int32 → Int32 → Prop) (k181 : Int64 → Int32 → Int32 → Int32 → Int32 → Prop), (∀ (y4 : Int64) (y6 : Int32), bd_X8_leastOf_8 x1 x2 x3 I F G post k8 k41 k131 k171 k181 y4 y6 → k8 y4 y6) → (∀ (y4 : Int64) (y6 : Int32) (y7 : Int32), bd_X8_leastOf_41 x1 x2 x3 I F G post k8 k41 k131 k171 k181 y4 y6 y7 → k41 y4 y6 y7) → (∀ (y4 : Int64) (y6 : Int32), bd_X8_leastOf_131 x1 x2 x3 I F G post k8 k41 k131 k171 k181 y4 y6 → k131 y4 y6) → (∀ (y4 : Int64) (y6 : Int32) (y7 : Int32) (y8 : Int32), bd_X8_leastOf_171 x1 x2 x3 I F G post k8 k41 k131 k171 k181 y4 y6 y7 y8 → k171 y4 y6 y7 y8) → (∀ (y4 : Int64) (y6 : Int32) (y7 : Int32) (y8 : Int32) (y9 : Int32), bd_X8_leastOf_181 x1 x2 x3 I F G post k8 k41 k131 k171 k181 y4 y6 y7 y8 y9 → k181 y4 y6 y7 y8 y9) → bd_X8_leastOf_0 x1 x2 x3 I F G post k8 k41 k131 k171 k181

def bd_X8_there_4 (I : xw_I) (F : xw_F) (G : xw_G) (post : Int32 → Prop) (k4 : Int32 → Int32 → Prop) (y1 : Int32) (y2 : Int32) : Prop := (((5 : Int32) ≤ y2 → post y1) ∧ (¬ ((5 : Int32) ≤ y2) → sm_X8_isThere y2 I F G (fun r8 => ((r8 = 0 → ∀ v10 : Int32, v10 = (y1 ||| (0 : Int32)) → ∀ v11 : Int32, v11 = y2 + 1 → k4 v10 v11) ∧ (¬ (r8 = 0) → ∀ v12 : Int32, v12 = (y1 ||| ((1 : Int32) <<< (y2 &&& 31))) → ∀ v13 : Int32, v13 = y2 + 1 → k4 v12 v13)))))
def bd_X8_there_0 (I : xw_I) (F : xw_F) (G : xw_G) (post : Int32 → Prop) (k4 : Int32 → Int32 → Prop) : Prop := k4 (0 : Int32) (0 : Int32)
def sm_X8_there (I : xw_I) (F : xw_F) (G : xw_G) (post : Int32 → Prop) : Prop := ∀ (k4 : Int32 → Int32 → Prop), (∀ (y1 : Int32) (y2 : Int32), bd_X8_there_4 I F G post k4 y1 y2 → k4 y1 y2) → bd_X8_there_0 I F G post k4

def bd_X8_placeMarks_11 (post : xw_I → xw_F → xw_G → Prop) (k11 : Int32 → Int32 → Int32 → xw_I → xw_F → xw_G → Prop) (k37 : Int32 → Int32 → Int32 → xw_I → xw_F → xw_G → Prop) (k59 : Int32 → Int32 → Int32 → Int32 → Int32 → Int32 → Int32 → Int32 → xw_I → xw_F → xw_G → Prop) (k93 : Int32 → Int32 → Int32 → Int32 → Int32 → Int32 → Int32 → Int32 → xw_I → xw_F → xw_G → Prop) (k158 : Int32 → Int32 → Int32 → Int32 → xw_I → xw_F → xw_G → Prop) (k172 : Int32 → Int32 → Int32 → Int32 → Int32 → xw_I → xw_F → xw_G → Prop) (y1 : Int32) (y2 : Int32) (y3 : Int32) (I : xw_I) (F : xw_F) (G : xw_G) : Prop := (((I 1) ≤ y3 → ∀ I30 : xw_I, I30 = xw_up I 4 (-6 : Int32) → k37 y1 y2 (0 : Int32) I30 F G) ∧ (¬ ((I 1) ≤ y3) → ∀ v31 : Int32, v31 = (y2 * y1) → ∀ v32 : Int32, v32 = y3 + 1 → k11 y1 v31 v32 I F G))
def bd_X8_placeMarks_37 (post : xw_I → xw_F → xw_G → Prop) (k11 : Int32 → Int32 → Int32 → xw_I → xw_F → xw_G → Prop) (k37 : Int32 → Int32 → Int32 → xw_I → xw_F → xw_G → Prop) (k59 : Int32 → Int32 → Int32 → Int32 → Int32 → Int32 → Int32 → Int32 → xw_I → xw_F → xw_G → Prop) (k93 : Int32 → Int32 → Int32 → Int32 → Int32 → Int32 → Int32 → Int32 → xw_I → xw_F → xw_G → Prop) (k158 : Int32 → Int32 → Int32 → Int32 → xw_I → xw_F → xw_G → Prop) (k172 : Int32 → Int32 → Int32 → Int32 → Int32 → xw_I → xw_F → xw_G → Prop) (y1 : Int32) (y2 : Int32) (y3 : Int32) (I : xw_I) (F : xw_F) (G : xw_G) : Prop := ((y2 ≤ y3 → post I F G) ∧ (¬ (y2 ≤ y3) → ¬ y1 = 0 ∧ ∀ v34 : Int32, v34 = (y2 / y1) → k59 y1 y2 y3 (0 : Int32) (0 : Int32) v34 (1 : Int32) (0 : Int32) I F G))
def bd_X8_placeMarks_59 (post : xw_I → xw_F → xw_G → Prop) (k11 : Int32 → Int32 → Int32 → xw_I → xw_F → xw_G → Prop) (k37 : Int32 → Int32 → Int32 → xw_I → xw_F → xw_G → Prop) (k59 : Int32 → Int32 → Int32 → Int32 → Int32 → Int32 → Int32 → Int32 → xw_I → xw_F → xw_G → Prop) (k93 : Int32 → Int32 → Int32 → Int32 → Int32 → Int32 → Int32 → Int32 → xw_I → xw_F → xw_G → Prop) (k158 : Int32 → Int32 → Int32 → Int32 → xw_I → xw_F → xw_G → Prop) (k172 : Int32 → Int32 → Int32 → Int32 → Int32 → xw_I → xw_F → xw_G → Prop) (y1 : Int32) (y2 : Int32) (y3 : Int32) (y4 : Int32) (y5 : Int32) (y6 : Int32) (y7 : Int32) (y8 : Int32) (I : xw_I) (F : xw_F) (G : xw_G) : Prop := (((I 1) ≤ y8 → ((y7 = 0 → ∀ v37 : Int32, v37 = y3 + 1 → k37 y1 y2 v37 I F G) ∧ (¬ (y7 = 0) → (((I 4) < 0 → k158 y1 y2 y3 y4 I F G) ∧ (¬ ((I 4) < 0) → (((I 4) ≤ y4 → ∀ v40 : Int32, v40 = y3 + 1 → k37 y1 y2 v40 I F G) ∧ (¬ ((I 4) ≤ y4) → k158 y1 y2 y3 y4 I F G))))))) ∧ (¬ ((I 1) ≤ y8) → ¬ y6 = 0 ∧ ¬ y1 = 0 ∧ ∀ v41 : Int32, v41 = ((y3 / y6) - (y3 / y6) / y1 * y1) → ((y7 = 0 → k93 y1 y2 y3 y4 y6 y8 v41 (0 : Int32) I F G) ∧ (¬ (y7 = 0) → ((v41 < y5 → k93 y1 y2 y3 y4 y6 y8 v41 (0 : Int32) I F G) ∧ (¬ (v41 < y5) → k93 y1 y2 y3 y4 y6 y8 v41 (1 : Int32) I F G))))))
def bd_X8_placeMarks_93 (post : xw_I → xw_F → xw_G → Prop) (k11 : Int32 → Int32 → Int32 → xw_I → xw_F → xw_G → Prop) (k37 : Int32 → Int32 → Int32 → xw_I → xw_F → xw_G → Prop) (k59 : Int32 → Int32 → Int32 → Int32 → Int32 → Int32 → Int32 → Int32 → xw_I → xw_F → xw_G → Prop) (k93 : Int32 → Int32 → Int32 → Int32 → Int32 → Int32 → Int32 → Int32 → xw_I → xw_F → xw_G → Prop) (k158 : Int32 → Int32 → Int32 → Int32 → xw_I → xw_F → xw_G → Prop) (k172 : Int32 → Int32 → Int32 → Int32 → Int32 → xw_I → xw_F → xw_G → Prop) (y1 : Int32) (y2 : Int32) (y3 : Int32) (y4 : Int32) (y6 : Int32) (y8 : Int32) (y9 : Int32) (t0 : Int32) (I : xw_I) (F : xw_F) (G : xw_G) : Prop := vp_in y8 3 ∧ ∀ v44 : Int32, v44 = F 5 y8.toNatClampNeg → vp_in v44 3 ∧ ∀ v45 : Int32, v45 = F 4 v44.toNatClampNeg → sm_X8_anchor v45 I F G (fun r46 => sm_X8_off y9 r46 (fun r47 => ∀ v48 : Int32, v48 = (y4 + r47) → ¬ y1 = 0 ∧ ∀ v49 : Int32, v49 = (y6 / y1) → ∀ v50 : Int32, v50 = y8 + 1 → k59 y1 y2 y3 v48 y9 v49 t0 v50 I F G))
def bd_X8_placeMarks_158 (post : xw_I → xw_F → xw_G → Prop) (k11 : Int32 → Int32 → Int32 → xw_I → xw_F → xw_G → Prop) (k37 : Int32 → Int32 → Int32 → xw_I → xw_F → xw_G → Prop) (k59 : Int32 → Int32 → Int32 → Int32 → Int32 → Int32 → Int32 → Int32 → xw_I → xw_F → xw_G → Prop) (k93 : Int32 → Int32 → Int32 → Int32 → Int32 → Int32 → Int32 → Int32 → xw_I → xw_F → xw_G → Prop) (k158 : Int32 → Int32 → Int32 → Int32 → xw_I → xw_F → xw_G → Prop) (k172 : Int32 → Int32 → Int32 → Int32 → Int32 → xw_I → xw_F → xw_G → Prop) (y1 : Int32) (y2 : Int32) (y3 : Int32) (y4 : Int32) (I : xw_I) (F : xw_F) (G : xw_G) : Prop := ∀ I51 : xw_I, I51 = xw_up I 4 y4 → ¬ y1 = 0 ∧ ∀ v52 : Int32, v52 = (y2 / y1) → k172 y1 y2 y3 v52 (0 : Int32) I51 F G
def bd_X8_placeMarks_172 (post : xw_I → xw_F → xw_G → Prop) (k11 : Int32 → Int32 → Int32 → xw_I → xw_F → xw_G → Prop) (k37 : Int32 → Int32 → Int32 → xw_I → xw_F → xw_G → Prop) (k59 : Int32 → Int32 → Int32 → Int32 → Int32 → Int32 → Int32 → Int32 → xw_I → xw_F → xw_G → Prop) (k93 : Int32 → Int32 → Int32 → Int32 → Int32 → Int32 → Int32 → Int32 → xw_I → xw_F → xw_G → Prop) (k158 : Int32 → Int32 → Int32 → Int32 → xw_I → xw_F → xw_G → Prop) (k172 : Int32 → Int32 → Int32 → Int32 → Int32 → xw_I → xw_F → xw_G → Prop) (y1 : Int32) (y2 : Int32) (y3 : Int32) (y6 : Int32) (y8 : Int32) (I : xw_I) (F : xw_F) (G : xw_G) : Prop := (((I 1) ≤ y8 → ∀ v54 : Int32, v54 = y3 + 1 → k37 y1 y2 v54 I F G) ∧ (¬ ((I 1) ≤ y8) → vp_in y8 3 ∧ ∀ v55 : Int32, v55 = F 5 y8.toNatClampNeg → ¬ y6 = 0 ∧ ¬ y1 = 0 ∧ vp_in v55 3 ∧ ∀ F56 : xw_F, F56 = xw_up F 12 (upd (F 12) v55.toNatClampNeg ((y3 / y6) - (y3 / y6) / y1 * y1)) → ¬ y1 = 0 ∧ ∀ v57 : Int32, v57 = (y6 / y1) → ∀ v58 : Int32, v58 = y8 + 1 → k172 y1 y2 y3 v57 v58 I F56 G))
def bd_X8_placeMarks_0 (I : xw_I) (F : xw_F) (G : xw_G) (post : xw_I → xw_F → xw_G → Prop) (k11 : Int32 → Int32 → Int32 → xw_I → xw_F → xw_G → Prop) (k37 : Int32 → Int32 → Int32 → xw_I → xw_F → xw_G → Prop) (k59 : Int32 → Int32 → Int32 → Int32 → Int32 → Int32 → Int32 → Int32 → xw_I → xw_F → xw_G → Prop) (k93 : Int32 → Int32 → Int32 → Int32 → Int32 → Int32 → Int32 → Int32 → xw_I → xw_F → xw_G → Prop) (k158 : Int32 → Int32 → Int32 → Int32 → xw_I → xw_F → xw_G → Prop) (k172 : Int32 → Int32 → Int32 → Int32 → Int32 → xw_I → xw_F → xw_G → Prop) : Prop := ∀ v28 : Int32, v28 = ((I 2) + (1 : Int32)) → k11 v28 (1 : Int32) (0 : Int32) I F G
def sm_X8_placeMarks (I : xw_I) (F : xw_F) (G : xw_G) (post : xw_I → xw_F → xw_G → Prop) : Prop := ∀ (k11 : Int32 → Int32 → Int32 → xw_I → xw_F → xw_G → Prop) (k37 : Int32 → Int32 → Int32 → xw_I → xw_F → xw_G → Prop) (k59 : Int32 → Int32 → Int32 → Int32 → Int32 → Int32 → Int32 → Int32 → xw_I → xw_F → xw_G → Prop) (k93 : Int32 → Int32 → Int32 → Int32 → Int32 → Int32 → Int32 → Int32 → xw_I → xw_F → xw_G → Prop) (k158 : Int32 → Int32 → Int32 → Int32 → xw_I → xw_F → xw_G → Prop) (k172 : Int32 → Int32 → Int32 → Int32 → Int32 → xw_I → xw_F → xw_G → Prop), (∀ (y1 : Int32) (y2 : Int32) (y3 : Int32) (I : xw_I) (F : xw_F) (G : xw_G), bd_X8_placeMarks_11 post k11 k37 k59 k93 k158 k172 y1 y2 y3 I F G → k11 y1 y2 y3 I F G) → (∀ (y1 : Int32) (y2 : Int32) (y3 : Int32) (I : xw_I) (F : xw_F) (G : xw_G), bd_X8_placeMarks_37 post k11 k37 k59 k93 k158 k172 y1 y2 y3 I F G → k37 y1 y2 y3 I F G) → (∀ (y1 : Int32) (y2 : Int32) (y3 : Int32) (y4 : Int32) (y5 : Int32) (y6 : Int32) (y7 : Int32) (y8 : Int32) (I : xw_I) (F : xw_F) (G : xw_G), bd_X8_placeMarks_59 post k11 k37 k59 k93 k158 k172 y1 y2 y3 y4 y5 y6 y7 y8 I F G → k59 y1 y2 y3 y4 y5 y6 y7 y8 I F G) → (∀ (y1 : Int32) (y2 : Int32) (y3 : Int32) (y4 : Int32) (y6 : Int32) (y8 : Int32) (y9 : Int32) (t0 : Int32) (I : xw_I) (F : xw_F) (G : xw_G), bd_X8_placeMarks_93 post k11 k37 k59 k93 k158 k172 y1 y2 y3 y4 y6 y8 y9 t0 I F G → k93 y1 y2 y3 y4 y6 y8 y9 t0 I F G) → (∀ (y1 : Int32) (y2 : Int32) (y3 : Int32) (y4 : Int32) (I : xw_I) (F : xw_F) (G : xw_G), bd_X8_placeMarks_158 post k11 k37 k59 k93 k158 k172 y1 y2 y3 y4 I F G → k158 y1 y2 y3 y4 I F G) → (∀ (y1 : Int32) (y2 : Int32) (y3 : Int32) (y6 : Int32) (y8 : Int32) (I : xw_I) (F : xw_F) (G : xw_G), bd_X8_placeMarks_172 post k11 k37 k59 k93 k158 k172 y1 y2 y3 y6 y8 I F G → k172 y1 y2 y3 y6 y8 I F G) → bd_X8_placeMarks_0 I F G post k11 k37 k59 k93 k158 k172

def bd_X8_place_7 (post : xw_I → xw_F → xw_G → Prop) (k7 : Int32 → Int32 → xw_I → xw_F → xw_G → Prop) (k14 : Int32 → Int32 → Int32 → xw_I → xw_F → xw_G → Prop) (k25 : Int32 → Int32 → Int32 → Int32 → xw_I → xw_F → xw_G → Prop) (k74 : Int32 → Int32 → Int32 → Int32 → Int32 → Int64 → xw_I → xw_F → xw_G → Prop) (k113 : Int32 → xw_I → xw_F → xw_G → Prop) (y1 : Int32) (y2 : Int32) (I : xw_I) (F : xw_F) (G : xw_G) : Prop := ((y1 < y2 → sm_X8_at y1 (0 : Int32) (I 2) (fun r18 => vp_in r18 2592 ∧ ∀ v19 : Int64, v19 = G 9 r18.toNatClampNeg → ∀ G20 : xw_G, G20 = xw_up G 0 (fun _ => v19) → k113 (0 : Int32) I F G20)) ∧ (¬ (y1 < y2) → k14 y1 y2 (0 : Int32) I F G))
def bd_X8_place_14 (post : xw_I → xw_F → xw_G → Prop) (k7 : Int32 → Int32 → xw_I → xw_F → xw_G → Prop) (k14 : Int32 → Int32 → Int32 → xw_I → xw_F → xw_G → Prop) (k25 : Int32 → Int32 → Int32 → Int32 → xw_I → xw_F → xw_G → Prop) (k74 : Int32 → Int32 → Int32 → Int32 → Int32 → Int64 → xw_I → xw_F → xw_G → Prop) (k113 : Int32 → xw_I → xw_F → xw_G → Prop) (y1 : Int32) (y2 : Int32) (y3 : Int32) (I : xw_I) (F : xw_F) (G : xw_G) : Prop := (((I 2) < y3 → ∀ v22 : Int32, v22 = y2 + 1 → k7 y1 v22 I F G) ∧ (¬ ((I 2) < y3) → k25 y1 y2 y3 y3 I F G))
def bd_X8_place_25 (post : xw_I → xw_F → xw_G → Prop) (k7 : Int32 → Int32 → xw_I → xw_F → xw_G → Prop) (k14 : Int32 → Int32 → Int32 → xw_I → xw_F → xw_G → Prop) (k25 : Int32 → Int32 → Int32 → Int32 → xw_I → xw_F → xw_G → Prop) (k74 : Int32 → Int32 → Int32 → Int32 → Int32 → Int64 → xw_I → xw_F → xw_G → Prop) (k113 : Int32 → xw_I → xw_F → xw_G → Prop) (y1 : Int32) (y2 : Int32) (y3 : Int32) (y4 : Int32) (I : xw_I) (F : xw_F) (G : xw_G) : Prop := (((I 2) < y4 → ∀ v24 : Int32, v24 = y3 + 1 → k14 y1 y2 v24 I F G) ∧ (¬ ((I 2) < y4) → sm_X8_at y2 y3 y4 (fun r25 => ((¬ y2 = 0 → ((¬ (y2 &&& y1) = y2 → k74 y1 y2 y3 y4 r25 (4611686018427387904 : Int64) I F G) ∧ ((y2 &&& y1) = y2 → sm_X8_leastOf y2 y3 y4 I F G (fun r28 => k74 y1 y2 y3 y4 r25 r28 I F G)))) ∧ (y2 = 0 → k74 y1 y2 y3 y4 r25 (0 : Int64) I F G)))))
def bd_X8_place_74 (post : xw_I → xw_F → xw_G → Prop) (k7 : Int32 → Int32 → xw_I → xw_F → xw_G → Prop) (k14 : Int32 → Int32 → Int32 → xw_I → xw_F → xw_G → Prop) (k25 : Int32 → Int32 → Int32 → Int32 → xw_I → xw_F → xw_G → Prop) (k74 : Int32 → Int32 → Int32 → Int32 → Int32 → Int64 → xw_I → xw_F → xw_G → Prop) (k113 : Int32 → xw_I → xw_F → xw_G → Prop) (y1 : Int32) (y2 : Int32) (y3 : Int32) (y4 : Int32) (t1 : Int32) (t2 : Int64) (I : xw_I) (F : xw_F) (G : xw_G) : Prop := vp_in t1 2592 ∧ ∀ G29 : xw_G, G29 = xw_up G 9 (vp_updL (G 9) t1.toNatClampNeg t2) → ∀ v30 : Int32, v30 = y4 + 1 → k25 y1 y2 y3 v30 I F G29
def bd_X8_place_113 (post : xw_I → xw_F → xw_G → Prop) (k7 : Int32 → Int32 → xw_I → xw_F → xw_G → Prop) (k14 : Int32 → Int32 → Int32 → xw_I → xw_F → xw_G → Prop) (k25 : Int32 → Int32 → Int32 → Int32 → xw_I → xw_F → xw_G → Prop) (k74 : Int32 → Int32 → Int32 → Int32 → Int32 → Int64 → xw_I → xw_F → xw_G → Prop) (k113 : Int32 → xw_I → xw_F → xw_G → Prop) (y2 : Int32) (I : xw_I) (F : xw_F) (G : xw_G) : Prop := (((5 : Int32) ≤ y2 → sm_X8_placeMarks  I F G (fun I32 F32 G32 => post I32 F32 G32)) ∧ (¬ ((5 : Int32) ≤ y2) → ∀ v33 : Int32, v33 = (((G 0 0) >>> (((8 : Int32) * ((4 : Int32) - y2)).toInt64 &&& 63)) &&& (255 : Int64)).toInt32 → ¬ (16 : Int32) = 0 ∧ vp_in y2 5 ∧ ∀ F34 : xw_F, F34 = xw_up F 10 (upd (F 10) y2.toNatClampNeg (v33 / (16 : Int32))) → ¬ (16 : Int32) = 0 ∧ vp_in y2 5 ∧ ∀ F35 : xw_F, F35 = xw_up F34 11 (upd (F34 11) y2.toNatClampNeg (v33 - v33 / (16 : Int32) * (16 : Int32))) → ∀ v36 : Int32, v36 = y2 + 1 → k113 v36 I F35 G))
def bd_X8_place_0 (I : xw_I) (F : xw_F) (G : xw_G) (post : xw_I → xw_F → xw_G → Prop) (k7 : Int32 → Int32 → xw_I → xw_F → xw_G → Prop) (k14 : Int32 → Int32 → Int32 → xw_I → xw_F → xw_G → Prop) (k25 : Int32 → Int32 → Int32 → Int32 → xw_I → xw_F → xw_G → Prop) (k74 : Int32 → Int32 → Int32 → Int32 → Int32 → Int64 → xw_I → xw_F → xw_G → Prop) (k113 : Int32 → xw_I → xw_F → xw_G → Prop) : Prop := sm_X8_there  I F G (fun r16 => k7 r16 (0 : Int32) I F G)
def sm_X8_place (I : xw_I) (F : xw_F) (G : xw_G) (post : xw_I → xw_F → xw_G → Prop) : Prop := ∀ (k7 : Int32 → Int32 → xw_I → xw_F → xw_G → Prop) (k14 : Int32 → Int32 → Int32 → xw_I → xw_F → xw_G → Prop) (k25 : Int32 → Int32 → Int32 → Int32 → xw_I → xw_F → xw_G → Prop) (k74 : Int32 → Int32 → Int32 → Int32 → Int32 → Int64 → xw_I → xw_F → xw_G → Prop) (k113 : Int32 → xw_I → xw_F → xw_G → Prop), (∀ (y1 : Int32) (y2 : Int32) (I : xw_I) (F : xw_F) (G : xw_G), bd_X8_place_7 post k7 k14 k25 k74 k113 y1 y2 I F G → k7 y1 y2 I F G) → (∀ (y1 : Int32) (y2 : Int32) (y3 : Int32) (I : xw_I) (F : xw_F) (G : xw_G), bd_X8_place_14 post k7 k14 k25 k74 k113 y1 y2 y3 I F G → k14 y1 y2 y3 I F G) → (∀ (y1 : Int32) (y2 : Int32) (y3 : Int32) (y4 : Int32) (I : xw_I) (F : xw_F) (G : xw_G), bd_X8_place_25 post k7 k14 k25 k74 k113 y1 y2 y3 y4 I F G → k25 y1 y2 y3 y4 I F G) → (∀ (y1 : Int32) (y2 : Int32) (y3 : Int32) (y4 : Int32) (t1 : Int32) (t2 : Int64) (I : xw_I) (F : xw_F) (G : xw_G), bd_X8_place_74 post k7 k14 k25 k74 k113 y1 y2 y3 y4 t1 t2 I F G → k74 y1 y2 y3 y4 t1 t2 I F G) → (∀ (y2 : Int32) (I : xw_I) (F : xw_F) (G : xw_G), bd_X8_place_113 post k7 k14 k25 k74 k113 y2 I F G → k113 y2 I F G) → bd_X8_place_0 I F G post k7 k14 k25 k74 k113

def bd_X8_depth_4 (x1 : Int32) (I : xw_I) (F : xw_F) (G : xw_G) (post : Int32 → Prop) (k4 : Int32 → Int32 → Prop) (y2 : Int32) (y3 : Int32) : Prop := (((5 : Int32) ≤ y3 → post y2) ∧ (¬ ((5 : Int32) ≤ y3) → sm_X8_isThere y3 I F G (fun r12 => ((r12 = 0 → ∀ v14 : Int32, v14 = (y2 + (0 : Int32)) → ∀ v15 : Int32, v15 = y3 + 1 → k4 v14 v15) ∧ (¬ (r12 = 0) → vp_in y3 5 ∧ ∀ v16 : Int32, v16 = F 3 y3.toNatClampNeg → ((¬ ((v16 >>> (x1 &&& 31)) &&& (1 : Int32)) = (1 : Int32) → ∀ v18 : Int32, v18 = (y2 + (0 : Int32)) → ∀ v19 : Int32, v19 = y3 + 1 → k4 v18 v19) ∧ (((v16 >>> (x1 &&& 31)) &&& (1 : Int32)) = (1 : Int32) → ∀ v20 : Int32, v20 = (y2 + (1 : Int32)) → ∀ v21 : Int32, v21 = y3 + 1 → k4 v20 v21)))))))
def bd_X8_depth_0 (x1 : Int32) (I : xw_I) (F : xw_F) (G : xw_G) (post : Int32 → Prop) (k4 : Int32 → Int32 → Prop) : Prop := k4 (0 : Int32) (0 : Int32)
def sm_X8_depth (x1 : Int32) (I : xw_I) (F : xw_F) (G : xw_G) (post : Int32 → Prop) : Prop := ∀ (k4 : Int32 → Int32 → Prop), (∀ (y2 : Int32) (y3 : Int32), bd_X8_depth_4 x1 I F G post k4 y2 y3 → k4 y2 y3) → bd_X8_depth_0 x1 I F G post k4

def sm_X8_pair (x1 : Int32) (x2 : Int32) (I : xw_I) (F : xw_F) (G : xw_G) (post : Int32 → xw_I → xw_F → xw_G → Prop) : Prop := sm_X8_isThere x1 I F G (fun r12 => ((¬ r12 = 0 → sm_X8_in x2 (0 : Int32) (9 : Int32) (fun r14 => ((¬ r14 = 0 → sm_X8_place  I F G (fun I16 F16 G16 => ((x2 = 0 → vp_in x1 5 ∧ ∀ v18 : Int32, v18 = F16 1 x1.toNatClampNeg → post v18 I16 F16 G16) ∧ ((x2 = 1 → vp_in x1 5 ∧ ∀ v19 : Int32, v19 = F16 2 x1.toNatClampNeg → post v19 I16 F16 G16) ∧ ((x2 = 2 → sm_X8_depth x1 I16 F16 G16 (fun r20 => post r20 I16 F16 G16)) ∧ ((x2 = 3 → vp_in x1 5 ∧ ∀ v21 : Int32, v21 = F16 3 x1.toNatClampNeg → post v21 I16 F16 G16) ∧ ((x2 = 4 → sm_X8_wantedFrom x1 I16 F16 G16 (fun r22 => post r22 I16 F16 G16)) ∧ ((x2 = 5 → sm_X8_wantedTo x1 I16 F16 G16 (fun r23 => post r23 I16 F16 G16)) ∧ ((x2 = 6 → vp_in x1 5 ∧ ∀ v24 : Int32, v24 = F16 10 x1.toNatClampNeg → post v24 I16 F16 G16) ∧ ((x2 = 7 → vp_in x1 5 ∧ ∀ v25 : Int32, v25 = F16 11 x1.toNatClampNeg → post v25 I16 F16 G16) ∧ ((x2 = 8 → vp_in x1 5 ∧ ∀ v26 : Int32, v26 = F16 10 x1.toNatClampNeg → vp_in x1 5 ∧ ∀ v27 : Int32, v27 = F16 11 x1.toNatClampNeg → sm_X8_costOf x1 v26 v27 I16 F16 G16 (fun r28 => post r28 I16 F16 G16)) ∧ (¬ x2 = 0 → ¬ x2 = 1 → ¬ x2 = 2 → ¬ x2 = 3 → ¬ x2 = 4 → ¬ x2 = 5 → ¬ x2 = 6 → ¬ x2 = 7 → ¬ x2 = 8 → sm_X8_linksOf x1 I16 F16 G16 (fun r29 => ((¬ r29 = 0 → post (0 : Int32) I16 F16 G16) ∧ (r29 = 0 → post (1 : Int32) I16 F16 G16))))))))))))))) ∧ (r14 = 0 → post (-2 : Int32) I F G)))) ∧ (r12 = 0 → post (-1 : Int32) I F G)))

def sm_X8_mark (x1 : Int32) (x2 : Int32) (I : xw_I) (F : xw_F) (G : xw_G) (post : Int32 → xw_I → xw_F → xw_G → Prop) : Prop := sm_X8_in x1 (0 : Int32) (2 : Int32) (fun r10 => ((r10 = 0 → post (-1 : Int32) I F G) ∧ (¬ (r10 = 0) → vp_in x1 3 ∧ ∀ v12 : Int32, v12 = F 4 x1.toNatClampNeg → (((0 : Int32) ≤ v12 → sm_X8_in x2 (0 : Int32) (2 : Int32) (fun r14 => ((¬ r14 = 0 → sm_X8_place  I F G (fun I16 F16 G16 => ((¬ x2 = 0 → ((¬ x2 = (1 : Int32) → vp_in x1 3 ∧ ∀ v19 : Int32, v19 = F16 12 x1.toNatClampNeg → post v19 I16 F16 G16) ∧ (x2 = (1 : Int32) → vp_in x1 3 ∧ ∀ v20 : Int32, v20 = F16 4 x1.toNatClampNeg → sm_X8_anchor v20 I16 F16 G16 (fun r21 => post r21 I16 F16 G16)))) ∧ (x2 = 0 → vp_in x1 3 ∧ ∀ v22 : Int32, v22 = F16 4 x1.toNatClampNeg → post v22 I16 F16 G16)))) ∧ (r14 = 0 → post (-2 : Int32) I F G)))) ∧ (¬ ((0 : Int32) ≤ v12) → post (-1 : Int32) I F G)))))

def bd_X8_isCrossing_40 (x1 : Int32) (x2 : Int32) (I : xw_I) (F : xw_F) (G : xw_G) (post : Int32 → Prop) (k40 : Int32 → Int32 → Int32 → Int32 → Prop) (k58 : Int32 → Int32 → Int32 → Int32 → Int32 → Prop) (y3 : Int32) (y4 : Int32) (y5 : Int32) (y6 : Int32) : Prop := ((y5 < y3 → k58 y3 y4 y5 y6 (0 : Int32)) ∧ (¬ (y5 < y3) → ((y4 < y6 → k58 y3 y4 y5 y6 (0 : Int32)) ∧ (¬ (y4 < y6) → k58 y3 y4 y5 y6 (1 : Int32)))))
def bd_X8_isCrossing_58 (x1 : Int32) (x2 : Int32) (I : xw_I) (F : xw_F) (G : xw_G) (post : Int32 → Prop) (k40 : Int32 → Int32 → Int32 → Int32 → Prop) (k58 : Int32 → Int32 → Int32 → Int32 → Int32 → Prop) (y3 : Int32) (y4 : Int32) (y5 : Int32) (y6 : Int32) (t0 : Int32) : Prop := ((¬ t0 = 0 → post (0 : Int32)) ∧ (t0 = 0 → ((y4 ≤ y5 → post (0 : Int32)) ∧ (¬ (y4 ≤ y5) → ((y6 ≤ y3 → post (0 : Int32)) ∧ (¬ (y6 ≤ y3) → post (1 : Int32)))))))
def bd_X8_isCrossing_0 (x1 : Int32) (x2 : Int32) (I : xw_I) (F : xw_F) (G : xw_G) (post : Int32 → Prop) (k40 : Int32 → Int32 → Int32 → Int32 → Prop) (k58 : Int32 → Int32 → Int32 → Int32 → Int32 → Prop) : Prop := sm_X8_wantedFrom x1 I F G (fun r8 => sm_X8_wantedTo x1 I F G (fun r9 => sm_X8_wantedFrom x2 I F G (fun r10 => sm_X8_wantedTo x2 I F G (fun r11 => ((r8 < r10 → k40 r8 r9 r10 r11) ∧ (¬ (r8 < r10) → ((r9 ≤ r11 → k58 r8 r9 r10 r11 (1 : Int32)) ∧ (¬ (r9 ≤ r11) → k40 r8 r9 r10 r11))))))))
def sm_X8_isCrossing (x1 : Int32) (x2 : Int32) (I : xw_I) (F : xw_F) (G : xw_G) (post : Int32 → Prop) : Prop := ∀ (k40 : Int32 → Int32 → Int32 → Int32 → Prop) (k58 : Int32 → Int32 → Int32 → Int32 → Int32 → Prop), (∀ (y3 : Int32) (y4 : Int32) (y5 : Int32) (y6 : Int32), bd_X8_isCrossing_40 x1 x2 I F G post k40 k58 y3 y4 y5 y6 → k40 y3 y4 y5 y6) → (∀ (y3 : Int32) (y4 : Int32) (y5 : Int32) (y6 : Int32) (t0 : Int32), bd_X8_isCrossing_58 x1 x2 I F G post k40 k58 y3 y4 y5 y6 t0 → k58 y3 y4 y5 y6 t0) → bd_X8_isCrossing_0 x1 x2 I F G post k40 k58

def bd_X8_total_85 (x1 : Int32) (post : Int32 → xw_I → xw_F → xw_G → Prop) (k85 : Int32 → Int32 → xw_I → xw_F → xw_G → Prop) (k126 : Int32 → Int32 → xw_I → xw_F → xw_G → Prop) (k155 : Int32 → Int32 → xw_I → xw_F → xw_G → Prop) (k185 : Int32 → Int32 → xw_I → xw_F → xw_G → Prop) (k193 : Int32 → Int32 → Int32 → xw_I → xw_F → xw_G → Prop) (k250 : Int32 → Int32 → xw_I → xw_F → xw_G → Prop) (y2 : Int32) (y3 : Int32) (I : xw_I) (F : xw_F) (G : xw_G) : Prop := (((5 : Int32) ≤ y3 → post y2 I F G) ∧ (¬ ((5 : Int32) ≤ y3) → sm_X8_isThere y3 I F G (fun r47 => ((r47 = 0 → ∀ v49 : Int32, v49 = (y2 ||| (0 : Int32)) → ∀ v50 : Int32, v50 = y3 + 1 → k85 v49 v50 I F G) ∧ (¬ (r47 = 0) → sm_X8_linksOf y3 I F G (fun r51 => ((¬ r51 = 0 → ∀ v53 : Int32, v53 = (y2 ||| (0 : Int32)) → ∀ v54 : Int32, v54 = y3 + 1 → k85 v53 v54 I F G) ∧ (r51 = 0 → ∀ v55 : Int32, v55 = (y2 ||| ((1 : Int32) <<< (y3 &&& 31))) → ∀ v56 : Int32, v56 = y3 + 1 → k85 v55 v56 I F G))))))))
def bd_X8_total_126 (x1 : Int32) (post : Int32 → xw_I → xw_F → xw_G → Prop) (k85 : Int32 → Int32 → xw_I → xw_F → xw_G → Prop) (k126 : Int32 → Int32 → xw_I → xw_F → xw_G → Prop) (k155 : Int32 → Int32 → xw_I → xw_F → xw_G → Prop) (k185 : Int32 → Int32 → xw_I → xw_F → xw_G → Prop) (k193 : Int32 → Int32 → Int32 → xw_I → xw_F → xw_G → Prop) (k250 : Int32 → Int32 → xw_I → xw_F → xw_G → Prop) (y2 : Int32) (y3 : Int32) (I : xw_I) (F : xw_F) (G : xw_G) : Prop := (((I 1) ≤ y3 → post y2 I F G) ∧ (¬ ((I 1) ≤ y3) → vp_in y3 3 ∧ ∀ v58 : Int32, v58 = F 5 y3.toNatClampNeg → ∀ v59 : Int32, v59 = (y2 ||| ((1 : Int32) <<< (v58 &&& 31))) → ∀ v60 : Int32, v60 = y3 + 1 → k126 v59 v60 I F G))
def bd_X8_total_155 (x1 : Int32) (post : Int32 → xw_I → xw_F → xw_G → Prop) (k85 : Int32 → Int32 → xw_I → xw_F → xw_G → Prop) (k126 : Int32 → Int32 → xw_I → xw_F → xw_G → Prop) (k155 : Int32 → Int32 → xw_I → xw_F → xw_G → Prop) (k185 : Int32 → Int32 → xw_I → xw_F → xw_G → Prop) (k193 : Int32 → Int32 → Int32 → xw_I → xw_F → xw_G → Prop) (k250 : Int32 → Int32 → xw_I → xw_F → xw_G → Prop) (y2 : Int32) (y3 : Int32) (I : xw_I) (F : xw_F) (G : xw_G) : Prop := (((I 0) ≤ y3 → post y2 I F G) ∧ (¬ ((I 0) ≤ y3) → vp_in y3 12 ∧ ∀ v62 : Int32, v62 = F 6 y3.toNatClampNeg → sm_X8_bits v62 (fun r63 => ∀ v64 : Int32, v64 = (y2 + r63) → ∀ v65 : Int32, v65 = y3 + 1 → k155 v64 v65 I F G)))
def bd_X8_total_185 (x1 : Int32) (post : Int32 → xw_I → xw_F → xw_G → Prop) (k85 : Int32 → Int32 → xw_I → xw_F → xw_G → Prop) (k126 : Int32 → Int32 → xw_I → xw_F → xw_G → Prop) (k155 : Int32 → Int32 → xw_I → xw_F → xw_G → Prop) (k185 : Int32 → Int32 → xw_I → xw_F → xw_G → Prop) (k193 : Int32 → Int32 → Int32 → xw_I → xw_F → xw_G → Prop) (k250 : Int32 → Int32 → xw_I → xw_F → xw_G → Prop) (y2 : Int32) (y3 : Int32) (I : xw_I) (F : xw_F) (G : xw_G) : Prop := (((5 : Int32) ≤ y3 → post y2 I F G) ∧ (¬ ((5 : Int32) ≤ y3) → k193 y2 y3 (0 : Int32) I F G))
def bd_X8_total_193 (x1 : Int32) (post : Int32 → xw_I → xw_F → xw_G → Prop) (k85 : Int32 → Int32 → xw_I → xw_F → xw_G → Prop) (k126 : Int32 → Int32 → xw_I → xw_F → xw_G → Prop) (k155 : Int32 → Int32 → xw_I → xw_F → xw_G → Prop) (k185 : Int32 → Int32 → xw_I → xw_F → xw_G → Prop) (k193 : Int32 → Int32 → Int32 → xw_I → xw_F → xw_G → Prop) (k250 : Int32 → Int32 → xw_I → xw_F → xw_G → Prop) (y2 : Int32) (y3 : Int32) (y4 : Int32) (I : xw_I) (F : xw_F) (G : xw_G) : Prop := ((y3 ≤ y4 → ∀ v68 : Int32, v68 = y3 + 1 → k185 y2 v68 I F G) ∧ (¬ (y3 ≤ y4) → sm_X8_isThere y3 I F G (fun r69 => ((r69 = 0 → ∀ v71 : Int32, v71 = (y2 + (0 : Int32)) → ∀ v72 : Int32, v72 = y4 + 1 → k193 v71 y3 v72 I F G) ∧ (¬ (r69 = 0) → sm_X8_isThere y4 I F G (fun r73 => ((r73 = 0 → ∀ v75 : Int32, v75 = (y2 + (0 : Int32)) → ∀ v76 : Int32, v76 = y4 + 1 → k193 v75 y3 v76 I F G) ∧ (¬ (r73 = 0) → sm_X8_isCrossing y3 y4 I F G (fun r77 => ((r77 = 0 → ∀ v79 : Int32, v79 = (y2 + (0 : Int32)) → ∀ v80 : Int32, v80 = y4 + 1 → k193 v79 y3 v80 I F G) ∧ (¬ (r77 = 0) → ∀ v81 : Int32, v81 = (y2 + (1 : Int32)) → ∀ v82 : Int32, v82 = y4 + 1 → k193 v81 y3 v82 I F G)))))))))))
def bd_X8_total_250 (x1 : Int32) (post : Int32 → xw_I → xw_F → xw_G → Prop) (k85 : Int32 → Int32 → xw_I → xw_F → xw_G → Prop) (k126 : Int32 → Int32 → xw_I → xw_F → xw_G → Prop) (k155 : Int32 → Int32 → xw_I → xw_F → xw_G → Prop) (k185 : Int32 → Int32 → xw_I → xw_F → xw_G → Prop) (k193 : Int32 → Int32 → Int32 → xw_I → xw_F → xw_G → Prop) (k250 : Int32 → Int32 → xw_I → xw_F → xw_G → Prop) (y2 : Int32) (y3 : Int32) (I : xw_I) (F : xw_F) (G : xw_G) : Prop := (((5 : Int32) ≤ y3 → post y2 I F G) ∧ (¬ ((5 : Int32) ≤ y3) → sm_X8_isThere y3 I F G (fun r84 => ((r84 = 0 → ∀ v86 : Int32, v86 = (y2 + (0 : Int32)) → ∀ v87 : Int32, v87 = y3 + 1 → k250 v86 v87 I F G) ∧ (¬ (r84 = 0) → vp_in y3 5 ∧ ∀ v88 : Int32, v88 = F 3 y3.toNatClampNeg → sm_X8_bits v88 (fun r89 => ∀ v90 : Int32, v90 = (y2 + r89) → ∀ v91 : Int32, v91 = y3 + 1 → k250 v90 v91 I F G))))))
def bd_X8_total_0 (x1 : Int32) (I : xw_I) (F : xw_F) (G : xw_G) (post : Int32 → xw_I → xw_F → xw_G → Prop) (k85 : Int32 → Int32 → xw_I → xw_F → xw_G → Prop) (k126 : Int32 → Int32 → xw_I → xw_F → xw_G → Prop) (k155 : Int32 → Int32 → xw_I → xw_F → xw_G → Prop) (k185 : Int32 → Int32 → xw_I → xw_F → xw_G → Prop) (k193 : Int32 → Int32 → Int32 → xw_I → xw_F → xw_G → Prop) (k250 : Int32 → Int32 → xw_I → xw_F → xw_G → Prop) : Prop := sm_X8_in x1 (0 : Int32) (7 : Int32) (fun r41 => ((¬ r41 = 0 → sm_X8_place  I F G (fun I43 F43 G43 => ((x1 = 0 → post (((G43 0 0) >>> ((40 : Int32).toInt64 &&& 63)).toInt32) I43 F43 G43) ∧ ((x1 = 1 → post (I43 4) I43 F43 G43) ∧ ((x1 = 2 → sm_X8_there  I43 F43 G43 (fun r45 => post r45 I43 F43 G43)) ∧ ((x1 = 3 → k85 (0 : Int32) (0 : Int32) I43 F43 G43) ∧ ((x1 = 4 → k126 (0 : Int32) (0 : Int32) I43 F43 G43) ∧ ((x1 = 5 → k155 (0 : Int32) (0 : Int32) I43 F43 G43) ∧ ((x1 = 6 → k185 (0 : Int32) (0 : Int32) I43 F43 G43) ∧ (¬ x1 = 0 → ¬ x1 = 1 → ¬ x1 = 2 → ¬ x1 = 3 → ¬ x1 = 4 → ¬ x1 = 5 → ¬ x1 = 6 → k250 (0 : Int32) (0 : Int32) I43 F43 G43)))))))))) ∧ (r41 = 0 → post (-2 : Int32) I F G)))
def sm_X8_total (x1 : Int32) (I : xw_I) (F : xw_F) (G : xw_G) (post : Int32 → xw_I → xw_F → xw_G → Prop) : Prop := ∀ (k85 : Int32 → Int32 → xw_I → xw_F → xw_G → Prop) (k126 : Int32 → Int32 → xw_I → xw_F → xw_G → Prop) (k155 : Int32 → Int32 → xw_I → xw_F → xw_G → Prop) (k185 : Int32 → Int32 → xw_I → xw_F → xw_G → Prop) (k193 : Int32 → Int32 → Int32 → xw_I → xw_F → xw_G → Prop) (k250 : Int32 → Int32 → xw_I → xw_F → xw_G → Prop), (∀ (y2 : Int32) (y3 : Int32) (I : xw_I) (F : xw_F) (G : xw_G), bd_X8_total_85 x1 post k85 k126 k155 k185 k193 k250 y2 y3 I F G → k85 y2 y3 I F G) → (∀ (y2 : Int32) (y3 : Int32) (I : xw_I) (F : xw_F) (G : xw_G), bd_X8_total_126 x1 post k85 k126 k155 k185 k193 k250 y2 y3 I F G → k126 y2 y3 I F G) → (∀ (y2 : Int32) (y3 : Int32) (I : xw_I) (F : xw_F) (G : xw_G), bd_X8_total_155 x1 post k85 k126 k155 k185 k193 k250 y2 y3 I F G → k155 y2 y3 I F G) → (∀ (y2 : Int32) (y3 : Int32) (I : xw_I) (F : xw_F) (G : xw_G), bd_X8_total_185 x1 post k85 k126 k155 k185 k193 k250 y2 y3 I F G → k185 y2 y3 I F G) → (∀ (y2 : Int32) (y3 : Int32) (y4 : Int32) (I : xw_I) (F : xw_F) (G : xw_G), bd_X8_total_193 x1 post k85 k126 k155 k185 k193 k250 y2 y3 y4 I F G → k193 y2 y3 y4 I F G) → (∀ (y2 : Int32) (y3 : Int32) (I : xw_I) (F : xw_F) (G : xw_G), bd_X8_total_250 x1 post k85 k126 k155 k185 k193 k250 y2 y3 I F G → k250 y2 y3 I F G) → bd_X8_total_0 x1 I F G post k85 k126 k155 k185 k193 k250

def sm_X8_write (x1 : Int32) (I : xw_I) (F : xw_F) (G : xw_G) (post : xw_I → xw_F → xw_G → Prop) : Prop := vp_in (I 5) 30 ∧ ∀ F2 : xw_F, F2 = xw_up F 13 (upd (F 13) (I 5).toNatClampNeg x1) → ∀ I3 : xw_I, I3 = xw_up I 5 ((I 5) + (1 : Int32)) → post I3 F2 G

def bd_X8_writeClosed_4 (x1 : Int32) (post : xw_I → xw_F → xw_G → Prop) (k4 : Int32 → Int32 → xw_I → xw_F → xw_G → Prop) (k15 : Int32 → Int32 → Int32 → xw_I → xw_F → xw_G → Prop) (k120 : Int32 → Int32 → Int32 → Int32 → xw_I → xw_F → xw_G → Prop) (k152 : Int32 → Int32 → Int32 → xw_I → xw_F → xw_G → Prop) (y2 : Int32) (y3 : Int32) (I : xw_I) (F : xw_F) (G : xw_G) : Prop := ((y3 = 0 → post I F G) ∧ (¬ (y3 = 0) → k15 y2 (-6 : Int32) (0 : Int32) I F G))
def bd_X8_writeClosed_15 (x1 : Int32) (post : xw_I → xw_F → xw_G → Prop) (k4 : Int32 → Int32 → xw_I → xw_F → xw_G → Prop) (k15 : Int32 → Int32 → Int32 → xw_I → xw_F → xw_G → Prop) (k120 : Int32 → Int32 → Int32 → Int32 → xw_I → xw_F → xw_G → Prop) (k152 : Int32 → Int32 → Int32 → xw_I → xw_F → xw_G → Prop) (y2 : Int32) (y4 : Int32) (y5 : Int32) (I : xw_I) (F : xw_F) (G : xw_G) : Prop := (((5 : Int32) ≤ y5 → ((y4 < 0 → k152 y2 y4 (0 : Int32) I F G) ∧ (¬ (y4 < 0) → k152 y2 y4 (1 : Int32) I F G))) ∧ (¬ ((5 : Int32) ≤ y5) → sm_X8_isThere y5 I F G (fun r30 => ((r30 = 0 → ∀ v32 : Int32, v32 = y5 + 1 → k15 y2 y4 v32 I F G) ∧ (¬ (r30 = 0) → ((¬ ((y2 >>> (y5 &&& 31)) &&& (1 : Int32)) = 0 → ∀ v34 : Int32, v34 = y5 + 1 → k15 y2 y4 v34 I F G) ∧ (((y2 >>> (y5 &&& 31)) &&& (1 : Int32)) = 0 → vp_in y5 5 ∧ ∀ v35 : Int32, v35 = F 11 y5.toNatClampNeg → ((¬ v35 = x1 → ∀ v37 : Int32, v37 = y5 + 1 → k15 y2 y4 v37 I F G) ∧ (v35 = x1 → vp_in y5 5 ∧ ∀ v38 : Int32, v38 = F 10 y5.toNatClampNeg → ((x1 ≤ v38 → ∀ v40 : Int32, v40 = y5 + 1 → k15 y2 y4 v40 I F G) ∧ (¬ (x1 ≤ v38) → ((y4 < 0 → k120 y2 y4 y5 (1 : Int32) I F G) ∧ (¬ (y4 < 0) → vp_in y5 5 ∧ ∀ v42 : Int32, v42 = F 10 y5.toNatClampNeg → vp_in y4 5 ∧ ∀ v43 : Int32, v43 = F 10 y4.toNatClampNeg → ((v43 < v42 → k120 y2 y4 y5 (1 : Int32) I F G) ∧ (¬ (v43 < v42) → vp_in y5 5 ∧ ∀ v45 : Int32, v45 = F 10 y5.toNatClampNeg → vp_in y4 5 ∧ ∀ v46 : Int32, v46 = F 10 y4.toNatClampNeg → ((¬ v45 = v46 → k120 y2 y4 y5 (0 : Int32) I F G) ∧ (v45 = v46 → sm_X8_depth y5 I F G (fun r48 => sm_X8_depth y4 I F G (fun r49 => ((r48 < r49 → k120 y2 y4 y5 (0 : Int32) I F G) ∧ (¬ (r48 < r49) → k120 y2 y4 y5 (1 : Int32) I F G)))))))))))))))))))))
def bd_X8_writeClosed_120 (x1 : Int32) (post : xw_I → xw_F → xw_G → Prop) (k4 : Int32 → Int32 → xw_I → xw_F → xw_G → Prop) (k15 : Int32 → Int32 → Int32 → xw_I → xw_F → xw_G → Prop) (k120 : Int32 → Int32 → Int32 → Int32 → xw_I → xw_F → xw_G → Prop) (k152 : Int32 → Int32 → Int32 → xw_I → xw_F → xw_G → Prop) (y2 : Int32) (y4 : Int32) (y5 : Int32) (t0 : Int32) (I : xw_I) (F : xw_F) (G : xw_G) : Prop := ((t0 = 0 → ∀ v52 : Int32, v52 = y5 + 1 → k15 y2 y4 v52 I F G) ∧ (¬ (t0 = 0) → ∀ v53 : Int32, v53 = y5 + 1 → k15 y2 y5 v53 I F G))
def bd_X8_writeClosed_152 (x1 : Int32) (post : xw_I → xw_F → xw_G → Prop) (k4 : Int32 → Int32 → xw_I → xw_F → xw_G → Prop) (k15 : Int32 → Int32 → Int32 → xw_I → xw_F → xw_G → Prop) (k120 : Int32 → Int32 → Int32 → Int32 → xw_I → xw_F → xw_G → Prop) (k152 : Int32 → Int32 → Int32 → xw_I → xw_F → xw_G → Prop) (y2 : Int32) (y4 : Int32) (t0 : Int32) (I : xw_I) (F : xw_F) (G : xw_G) : Prop := ((t0 = 0 → k4 y2 t0 I F G) ∧ (¬ (t0 = 0) → ∀ v55 : Int32, v55 = (y2 ||| ((1 : Int32) <<< (y4 &&& 31))) → sm_X8_write ((97 : Int32) + y4) I F G (fun I56 F56 G56 => k4 v55 t0 I56 F56 G56)))
def bd_X8_writeClosed_0 (x1 : Int32) (I : xw_I) (F : xw_F) (G : xw_G) (post : xw_I → xw_F → xw_G → Prop) (k4 : Int32 → Int32 → xw_I → xw_F → xw_G → Prop) (k15 : Int32 → Int32 → Int32 → xw_I → xw_F → xw_G → Prop) (k120 : Int32 → Int32 → Int32 → Int32 → xw_I → xw_F → xw_G → Prop) (k152 : Int32 → Int32 → Int32 → xw_I → xw_F → xw_G → Prop) : Prop := k4 (0 : Int32) (1 : Int32) I F G
def sm_X8_writeClosed (x1 : Int32) (I : xw_I) (F : xw_F) (G : xw_G) (post : xw_I → xw_F → xw_G → Prop) : Prop := ∀ (k4 : Int32 → Int32 → xw_I → xw_F → xw_G → Prop) (k15 : Int32 → Int32 → Int32 → xw_I → xw_F → xw_G → Prop) (k120 : Int32 → Int32 → Int32 → Int32 → xw_I → xw_F → xw_G → Prop) (k152 : Int32 → Int32 → Int32 → xw_I → xw_F → xw_G → Prop), (∀ (y2 : Int32) (y3 : Int32) (I : xw_I) (F : xw_F) (G : xw_G), bd_X8_writeClosed_4 x1 post k4 k15 k120 k152 y2 y3 I F G → k4 y2 y3 I F G) → (∀ (y2 : Int32) (y4 : Int32) (y5 : Int32) (I : xw_I) (F : xw_F) (G : xw_G), bd_X8_writeClosed_15 x1 post k4 k15 k120 k152 y2 y4 y5 I F G → k15 y2 y4 y5 I F G) → (∀ (y2 : Int32) (y4 : Int32) (y5 : Int32) (t0 : Int32) (I : xw_I) (F : xw_F) (G : xw_G), bd_X8_writeClosed_120 x1 post k4 k15 k120 k152 y2 y4 y5 t0 I F G → k120 y2 y4 y5 t0 I F G) → (∀ (y2 : Int32) (y4 : Int32) (t0 : Int32) (I : xw_I) (F : xw_F) (G : xw_G), bd_X8_writeClosed_152 x1 post k4 k15 k120 k152 y2 y4 t0 I F G → k152 y2 y4 t0 I F G) → bd_X8_writeClosed_0 x1 I F G post k4 k15 k120 k152

def bd_X8_writeOpened_4 (x1 : Int32) (post : xw_I → xw_F → xw_G → Prop) (k4 : Int32 → Int32 → xw_I → xw_F → xw_G → Prop) (k15 : Int32 → Int32 → Int32 → xw_I → xw_F → xw_G → Prop) (k120 : Int32 → Int32 → Int32 → Int32 → xw_I → xw_F → xw_G → Prop) (k152 : Int32 → Int32 → Int32 → xw_I → xw_F → xw_G → Prop) (y2 : Int32) (y3 : Int32) (I : xw_I) (F : xw_F) (G : xw_G) : Prop := ((y3 = 0 → post I F G) ∧ (¬ (y3 = 0) → k15 y2 (-6 : Int32) (0 : Int32) I F G))
def bd_X8_writeOpened_15 (x1 : Int32) (post : xw_I → xw_F → xw_G → Prop) (k4 : Int32 → Int32 → xw_I → xw_F → xw_G → Prop) (k15 : Int32 → Int32 → Int32 → xw_I → xw_F → xw_G → Prop) (k120 : Int32 → Int32 → Int32 → Int32 → xw_I → xw_F → xw_G → Prop) (k152 : Int32 → Int32 → Int32 → xw_I → xw_F → xw_G → Prop) (y2 : Int32) (y4 : Int32) (y5 : Int32) (I : xw_I) (F : xw_F) (G : xw_G) : Prop := (((5 : Int32) ≤ y5 → ((y4 < 0 → k152 y2 y4 (0 : Int32) I F G) ∧ (¬ (y4 < 0) → k152 y2 y4 (1 : Int32) I F G))) ∧ (¬ ((5 : Int32) ≤ y5) → sm_X8_isThere y5 I F G (fun r30 => ((r30 = 0 → ∀ v32 : Int32, v32 = y5 + 1 → k15 y2 y4 v32 I F G) ∧ (¬ (r30 = 0) → ((¬ ((y2 >>> (y5 &&& 31)) &&& (1 : Int32)) = 0 → ∀ v34 : Int32, v34 = y5 + 1 → k15 y2 y4 v34 I F G) ∧ (((y2 >>> (y5 &&& 31)) &&& (1 : Int32)) = 0 → vp_in y5 5 ∧ ∀ v35 : Int32, v35 = F 10 y5.toNatClampNeg → ((¬ v35 = x1 → ∀ v37 : Int32, v37 = y5 + 1 → k15 y2 y4 v37 I F G) ∧ (v35 = x1 → vp_in y5 5 ∧ ∀ v38 : Int32, v38 = F 11 y5.toNatClampNeg → ((v38 ≤ x1 → ∀ v40 : Int32, v40 = y5 + 1 → k15 y2 y4 v40 I F G) ∧ (¬ (v38 ≤ x1) → ((y4 < 0 → k120 y2 y4 y5 (1 : Int32) I F G) ∧ (¬ (y4 < 0) → vp_in y5 5 ∧ ∀ v42 : Int32, v42 = F 11 y5.toNatClampNeg → vp_in y4 5 ∧ ∀ v43 : Int32, v43 = F 11 y4.toNatClampNeg → ((v43 < v42 → k120 y2 y4 y5 (1 : Int32) I F G) ∧ (¬ (v43 < v42) → vp_in y5 5 ∧ ∀ v45 : Int32, v45 = F 11 y5.toNatClampNeg → vp_in y4 5 ∧ ∀ v46 : Int32, v46 = F 11 y4.toNatClampNeg → ((¬ v45 = v46 → k120 y2 y4 y5 (0 : Int32) I F G) ∧ (v45 = v46 → sm_X8_depth y5 I F G (fun r48 => sm_X8_depth y4 I F G (fun r49 => ((r49 ≤ r48 → k120 y2 y4 y5 (0 : Int32) I F G) ∧ (¬ (r49 ≤ r48) → k120 y2 y4 y5 (1 : Int32) I F G)))))))))))))))))))))
def bd_X8_writeOpened_120 (x1 : Int32) (post : xw_I → xw_F → xw_G → Prop) (k4 : Int32 → Int32 → xw_I → xw_F → xw_G → Prop) (k15 : Int32 → Int32 → Int32 → xw_I → xw_F → xw_G → Prop) (k120 : Int32 → Int32 → Int32 → Int32 → xw_I → xw_F → xw_G → Prop) (k152 : Int32 → Int32 → Int32 → xw_I → xw_F → xw_G → Prop) (y2 : Int32) (y4 : Int32) (y5 : Int32) (t0 : Int32) (I : xw_I) (F : xw_F) (G : xw_G) : Prop := ((t0 = 0 → ∀ v52 : Int32, v52 = y5 + 1 → k15 y2 y4 v52 I F G) ∧ (¬ (t0 = 0) → ∀ v53 : Int32, v53 = y5 + 1 → k15 y2 y5 v53 I F G))
def bd_X8_writeOpened_152 (x1 : Int32) (post : xw_I → xw_F → xw_G → Prop) (k4 : Int32 → Int32 → xw_I → xw_F → xw_G → Prop) (k15 : Int32 → Int32 → Int32 → xw_I → xw_F → xw_G → Prop) (k120 : Int32 → Int32 → Int32 → Int32 → xw_I → xw_F → xw_G → Prop) (k152 : Int32 → Int32 → Int32 → xw_I → xw_F → xw_G → Prop) (y2 : Int32) (y4 : Int32) (t0 : Int32) (I : xw_I) (F : xw_F) (G : xw_G) : Prop := ((t0 = 0 → k4 y2 t0 I F G) ∧ (¬ (t0 = 0) → ∀ v55 : Int32, v55 = (y2 ||| ((1 : Int32) <<< (y4 &&& 31))) → sm_X8_write ((65 : Int32) + y4) I F G (fun I56 F56 G56 => k4 v55 t0 I56 F56 G56)))
def bd_X8_writeOpened_0 (x1 : Int32) (I : xw_I) (F : xw_F) (G : xw_G) (post : xw_I → xw_F → xw_G → Prop) (k4 : Int32 → Int32 → xw_I → xw_F → xw_G → Prop) (k15 : Int32 → Int32 → Int32 → xw_I → xw_F → xw_G → Prop) (k120 : Int32 → Int32 → Int32 → Int32 → xw_I → xw_F → xw_G → Prop) (k152 : Int32 → Int32 → Int32 → xw_I → xw_F → xw_G → Prop) : Prop := k4 (0 : Int32) (1 : Int32) I F G
def sm_X8_writeOpened (x1 : Int32) (I : xw_I) (F : xw_F) (G : xw_G) (post : xw_I → xw_F → xw_G → Prop) : Prop := ∀ (k4 : Int32 → Int32 → xw_I → xw_F → xw_G → Prop) (k15 : Int32 → Int32 → Int32 → xw_I → xw_F → xw_G → Prop) (k120 : Int32 → Int32 → Int32 → Int32 → xw_I → xw_F → xw_G → Prop) (k152 : Int32 → Int32 → Int32 → xw_I → xw_F → xw_G → Prop), (∀ (y2 : Int32) (y3 : Int32) (I : xw_I) (F : xw_F) (G : xw_G), bd_X8_writeOpened_4 x1 post k4 k15 k120 k152 y2 y3 I F G → k4 y2 y3 I F G) → (∀ (y2 : Int32) (y4 : Int32) (y5 : Int32) (I : xw_I) (F : xw_F) (G : xw_G), bd_X8_writeOpened_15 x1 post k4 k15 k120 k152 y2 y4 y5 I F G → k15 y2 y4 y5 I F G) → (∀ (y2 : Int32) (y4 : Int32) (y5 : Int32) (t0 : Int32) (I : xw_I) (F : xw_F) (G : xw_G), bd_X8_writeOpened_120 x1 post k4 k15 k120 k152 y2 y4 y5 t0 I F G → k120 y2 y4 y5 t0 I F G) → (∀ (y2 : Int32) (y4 : Int32) (t0 : Int32) (I : xw_I) (F : xw_F) (G : xw_G), bd_X8_writeOpened_152 x1 post k4 k15 k120 k152 y2 y4 t0 I F G → k152 y2 y4 t0 I F G) → bd_X8_writeOpened_0 x1 I F G post k4 k15 k120 k152

def bd_X8_stand_5 (x1 : Int32) (x2 : Int32) (I : xw_I) (F : xw_F) (G : xw_G) (post : Int32 → Prop) (k5 : Int32 → Int32 → Prop) (k57 : Int32 → Int32 → Int32 → Prop) (k85 : Int32 → Int32 → Int32 → Prop) (y3 : Int32) (y4 : Int32) : Prop := (((5 : Int32) ≤ y4 → post y3) ∧ (¬ ((5 : Int32) ≤ y4) → sm_X8_isThere y4 I F G (fun r19 => ((r19 = 0 → k57 y3 y4 (0 : Int32)) ∧ (¬ (r19 = 0) → vp_in y4 5 ∧ ∀ v21 : Int32, v21 = F 3 y4.toNatClampNeg → ((¬ ((v21 >>> (x2 &&& 31)) &&& (1 : Int32)) = (1 : Int32) → k57 y3 y4 (0 : Int32)) ∧ (((v21 >>> (x2 &&& 31)) &&& (1 : Int32)) = (1 : Int32) → vp_in y4 5 ∧ ∀ v23 : Int32, v23 = F 10 y4.toNatClampNeg → vp_in y4 5 ∧ ∀ v24 : Int32, v24 = F 11 y4.toNatClampNeg → ((v24 ≤ v23 → k57 y3 y4 (0 : Int32)) ∧ (¬ (v24 ≤ v23) → k57 y3 y4 (1 : Int32))))))))))
def bd_X8_stand_57 (x1 : Int32) (x2 : Int32) (I : xw_I) (F : xw_F) (G : xw_G) (post : Int32 → Prop) (k5 : Int32 → Int32 → Prop) (k57 : Int32 → Int32 → Int32 → Prop) (k85 : Int32 → Int32 → Int32 → Prop) (y3 : Int32) (y4 : Int32) (t0 : Int32) : Prop := ((t0 = 0 → k85 y4 t0 y3) ∧ (¬ (t0 = 0) → vp_in y4 5 ∧ ∀ v27 : Int32, v27 = F 10 y4.toNatClampNeg → ((¬ v27 = x1 → k85 y4 t0 y3) ∧ (v27 = x1 → ((¬ y3 = (1 : Int32) → k85 y4 t0 y3) ∧ (y3 = (1 : Int32) → k85 y4 t0 (2 : Int32)))))))
def bd_X8_stand_85 (x1 : Int32) (x2 : Int32) (I : xw_I) (F : xw_F) (G : xw_G) (post : Int32 → Prop) (k5 : Int32 → Int32 → Prop) (k57 : Int32 → Int32 → Int32 → Prop) (k85 : Int32 → Int32 → Int32 → Prop) (y4 : Int32) (y5 : Int32) (t0 : Int32) : Prop := ((y5 = 0 → ∀ v31 : Int32, v31 = y4 + 1 → k5 t0 v31) ∧ (¬ (y5 = 0) → vp_in y4 5 ∧ ∀ v32 : Int32, v32 = F 11 y4.toNatClampNeg → ((¬ v32 = x1 → ∀ v34 : Int32, v34 = y4 + 1 → k5 t0 v34) ∧ (v32 = x1 → ∀ v35 : Int32, v35 = y4 + 1 → k5 (0 : Int32) v35))))
def bd_X8_stand_0 (x1 : Int32) (x2 : Int32) (I : xw_I) (F : xw_F) (G : xw_G) (post : Int32 → Prop) (k5 : Int32 → Int32 → Prop) (k57 : Int32 → Int32 → Int32 → Prop) (k85 : Int32 → Int32 → Int32 → Prop) : Prop := k5 (1 : Int32) (0 : Int32)
def sm_X8_stand (x1 : Int32) (x2 : Int32) (I : xw_I) (F : xw_F) (G : xw_G) (post : Int32 → Prop) : Prop := ∀ (k5 : Int32 → Int32 → Prop) (k57 : Int32 → Int32 → Int32 → Prop) (k85 : Int32 → Int32 → Int32 → Prop), (∀ (y3 : Int32) (y4 : Int32), bd_X8_stand_5 x1 x2 I F G post k5 k57 k85 y3 y4 → k5 y3 y4) → (∀ (y3 : Int32) (y4 : Int32) (t0 : Int32), bd_X8_stand_57 x1 x2 I F G post k5 k57 k85 y3 y4 t0 → k57 y3 y4 t0) → (∀ (y4 : Int32) (y5 : Int32) (t0 : Int32), bd_X8_stand_85 x1 x2 I F G post k5 k57 k85 y4 y5 t0 → k85 y4 y5 t0) → bd_X8_stand_0 x1 x2 I F G post k5 k57 k85

def bd_X8_writeEmpty_2 (x1 : Int32) (x2 : Int32) (post : xw_I → xw_F → xw_G → Prop) (k2 : Int32 → xw_I → xw_F → xw_G → Prop) (y3 : Int32) (I : xw_I) (F : xw_F) (G : xw_G) : Prop := (((5 : Int32) ≤ y3 → post I F G) ∧ (¬ ((5 : Int32) ≤ y3) → sm_X8_isThere y3 I F G (fun r14 => ((r14 = 0 → ∀ v16 : Int32, v16 = y3 + 1 → k2 v16 I F G) ∧ (¬ (r14 = 0) → vp_in y3 5 ∧ ∀ v17 : Int32, v17 = F 10 y3.toNatClampNeg → ((¬ v17 = x1 → ∀ v19 : Int32, v19 = y3 + 1 → k2 v19 I F G) ∧ (v17 = x1 → vp_in y3 5 ∧ ∀ v20 : Int32, v20 = F 11 y3.toNatClampNeg → ((¬ v20 = x1 → ∀ v22 : Int32, v22 = y3 + 1 → k2 v22 I F G) ∧ (v20 = x1 → sm_X8_stand x1 y3 I F G (fun r23 => ((¬ r23 = x2 → ∀ v25 : Int32, v25 = y3 + 1 → k2 v25 I F G) ∧ (r23 = x2 → sm_X8_write ((65 : Int32) + y3) I F G (fun I26 F26 G26 => sm_X8_write ((97 : Int32) + y3) I26 F26 G26 (fun I27 F27 G27 => ∀ v28 : Int32, v28 = y3 + 1 → k2 v28 I27 F27 G27))))))))))))))
def bd_X8_writeEmpty_0 (x1 : Int32) (x2 : Int32) (I : xw_I) (F : xw_F) (G : xw_G) (post : xw_I → xw_F → xw_G → Prop) (k2 : Int32 → xw_I → xw_F → xw_G → Prop) : Prop := k2 (0 : Int32) I F G
def sm_X8_writeEmpty (x1 : Int32) (x2 : Int32) (I : xw_I) (F : xw_F) (G : xw_G) (post : xw_I → xw_F → xw_G → Prop) : Prop := ∀ (k2 : Int32 → xw_I → xw_F → xw_G → Prop), (∀ (y3 : Int32) (I : xw_I) (F : xw_F) (G : xw_G), bd_X8_writeEmpty_2 x1 x2 post k2 y3 I F G → k2 y3 I F G) → bd_X8_writeEmpty_0 x1 x2 I F G post k2

def bd_X8_sign_11 (x1 : Int32) (post : Int32 → xw_I → xw_F → xw_G → Prop) (k11 : Int32 → xw_I → xw_F → xw_G → Prop) (k32 : Int32 → Int32 → xw_I → xw_F → xw_G → Prop) (y2 : Int32) (I : xw_I) (F : xw_F) (G : xw_G) : Prop := (((I 2) < y2 → ((¬ x1 = (-1 : Int32) → sm_X8_in x1 (0 : Int32) ((I 5) - (1 : Int32)) (fun r19 => ((r19 = 0 → post (-6 : Int32) I F G) ∧ (¬ (r19 = 0) → vp_in x1 30 ∧ ∀ v21 : Int32, v21 = F 13 x1.toNatClampNeg → post v21 I F G)))) ∧ (x1 = (-1 : Int32) → post (I 5) I F G))) ∧ (¬ ((I 2) < y2) → sm_X8_writeEmpty y2 (0 : Int32) I F G (fun I22 F22 G22 => sm_X8_writeClosed y2 I22 F22 G22 (fun I23 F23 G23 => k32 y2 (0 : Int32) I23 F23 G23))))
def bd_X8_sign_32 (x1 : Int32) (post : Int32 → xw_I → xw_F → xw_G → Prop) (k11 : Int32 → xw_I → xw_F → xw_G → Prop) (k32 : Int32 → Int32 → xw_I → xw_F → xw_G → Prop) (y2 : Int32) (y3 : Int32) (I : xw_I) (F : xw_F) (G : xw_G) : Prop := (((I 1) ≤ y3 → sm_X8_writeEmpty y2 (1 : Int32) I F G (fun I25 F25 G25 => sm_X8_writeOpened y2 I25 F25 G25 (fun I26 F26 G26 => sm_X8_writeEmpty y2 (2 : Int32) I26 F26 G26 (fun I27 F27 G27 => (((I27 2) ≤ y2 → ∀ v29 : Int32, v29 = y2 + 1 → k11 v29 I27 F27 G27) ∧ (¬ ((I27 2) ≤ y2) → sm_X8_write (46 : Int32) I27 F27 G27 (fun I30 F30 G30 => ∀ v31 : Int32, v31 = y2 + 1 → k11 v31 I30 F30 G30))))))) ∧ (¬ ((I 1) ≤ y3) → vp_in y3 3 ∧ ∀ v32 : Int32, v32 = F 5 y3.toNatClampNeg → vp_in v32 3 ∧ ∀ v33 : Int32, v33 = F 12 v32.toNatClampNeg → ((¬ v33 = y2 → ∀ v35 : Int32, v35 = y3 + 1 → k32 y2 v35 I F G) ∧ (v33 = y2 → vp_in y3 3 ∧ ∀ v36 : Int32, v36 = F 5 y3.toNatClampNeg → sm_X8_write ((120 : Int32) + v36) I F G (fun I37 F37 G37 => ∀ v38 : Int32, v38 = y3 + 1 → k32 y2 v38 I37 F37 G37)))))
def bd_X8_sign_0 (x1 : Int32) (I : xw_I) (F : xw_F) (G : xw_G) (post : Int32 → xw_I → xw_F → xw_G → Prop) (k11 : Int32 → xw_I → xw_F → xw_G → Prop) (k32 : Int32 → Int32 → xw_I → xw_F → xw_G → Prop) : Prop := sm_X8_place  I F G (fun I15 F15 G15 => ∀ I16 : xw_I, I16 = xw_up I15 5 (0 : Int32) → k11 (0 : Int32) I16 F15 G15)
def sm_X8_sign (x1 : Int32) (I : xw_I) (F : xw_F) (G : xw_G) (post : Int32 → xw_I → xw_F → xw_G → Prop) : Prop := ∀ (k11 : Int32 → xw_I → xw_F → xw_G → Prop) (k32 : Int32 → Int32 → xw_I → xw_F → xw_G → Prop), (∀ (y2 : Int32) (I : xw_I) (F : xw_F) (G : xw_G), bd_X8_sign_11 x1 post k11 k32 y2 I F G → k11 y2 I F G) → (∀ (y2 : Int32) (y3 : Int32) (I : xw_I) (F : xw_F) (G : xw_G), bd_X8_sign_32 x1 post k11 k32 y2 y3 I F G → k32 y2 y3 I F G) → bd_X8_sign_0 x1 I F G post k11 k32

def bd_X8_image_19 (x1 : Int32) (post : Int32 → xw_I → xw_F → xw_G → Prop) (k19 : Int32 → Int32 → xw_I → xw_F → xw_G → Prop) (k79 : Int32 → Int32 → xw_I → xw_F → xw_G → Prop) (k126 : Int32 → Int32 → xw_I → xw_F → xw_G → Prop) (y2 : Int32) (y3 : Int32) (I : xw_I) (F : xw_F) (G : xw_G) : Prop := (((5 : Int32) ≤ y3 → k79 y2 (0 : Int32) I F G) ∧ (¬ ((5 : Int32) ≤ y3) → vp_in y3 5 ∧ ∀ v29 : Int32, v29 = F 1 y3.toNatClampNeg → vp_in (y2 + y3) 80 ∧ ∀ F30 : xw_F, F30 = xw_up F 14 (upd (F 14) (y2 + y3).toNatClampNeg v29) → vp_in y3 5 ∧ ∀ v31 : Int32, v31 = F30 2 y3.toNatClampNeg → vp_in ((y2 + (5 : Int32)) + y3) 80 ∧ ∀ F32 : xw_F, F32 = xw_up F30 14 (upd (F30 14) ((y2 + (5 : Int32)) + y3).toNatClampNeg v31) → vp_in y3 5 ∧ ∀ v33 : Int32, v33 = F32 3 y3.toNatClampNeg → vp_in ((y2 + (10 : Int32)) + y3) 80 ∧ ∀ F34 : xw_F, F34 = xw_up F32 14 (upd (F32 14) ((y2 + (10 : Int32)) + y3).toNatClampNeg v33) → ∀ v35 : Int32, v35 = y3 + 1 → k19 y2 v35 I F34 G))
def bd_X8_image_79 (x1 : Int32) (post : Int32 → xw_I → xw_F → xw_G → Prop) (k19 : Int32 → Int32 → xw_I → xw_F → xw_G → Prop) (k79 : Int32 → Int32 → xw_I → xw_F → xw_G → Prop) (k126 : Int32 → Int32 → xw_I → xw_F → xw_G → Prop) (y2 : Int32) (y3 : Int32) (I : xw_I) (F : xw_F) (G : xw_G) : Prop := (((3 : Int32) ≤ y3 → k126 y2 (0 : Int32) I F G) ∧ (¬ ((3 : Int32) ≤ y3) → vp_in y3 3 ∧ ∀ v37 : Int32, v37 = F 4 y3.toNatClampNeg → vp_in ((y2 + (15 : Int32)) + y3) 80 ∧ ∀ F38 : xw_F, F38 = xw_up F 14 (upd (F 14) ((y2 + (15 : Int32)) + y3).toNatClampNeg v37) → vp_in y3 3 ∧ ∀ v39 : Int32, v39 = F38 5 y3.toNatClampNeg → vp_in ((y2 + (18 : Int32)) + y3) 80 ∧ ∀ F40 : xw_F, F40 = xw_up F38 14 (upd (F38 14) ((y2 + (18 : Int32)) + y3).toNatClampNeg v39) → ∀ v41 : Int32, v41 = y3 + 1 → k79 y2 v41 I F40 G))
def bd_X8_image_126 (x1 : Int32) (post : Int32 → xw_I → xw_F → xw_G → Prop) (k19 : Int32 → Int32 → xw_I → xw_F → xw_G → Prop) (k79 : Int32 → Int32 → xw_I → xw_F → xw_G → Prop) (k126 : Int32 → Int32 → xw_I → xw_F → xw_G → Prop) (y2 : Int32) (y3 : Int32) (I : xw_I) (F : xw_F) (G : xw_G) : Prop := (((12 : Int32) ≤ y3 → vp_in (y2 + (33 : Int32)) 80 ∧ ∀ F43 : xw_F, F43 = xw_up F 14 (upd (F 14) (y2 + (33 : Int32)).toNatClampNeg (I 0)) → vp_in (y2 + (34 : Int32)) 80 ∧ ∀ F44 : xw_F, F44 = xw_up F43 14 (upd (F43 14) (y2 + (34 : Int32)).toNatClampNeg (I 1)) → vp_in (y2 + (35 : Int32)) 80 ∧ ∀ F45 : xw_F, F45 = xw_up F44 14 (upd (F44 14) (y2 + (35 : Int32)).toNatClampNeg (I 2)) → vp_in x1 2 ∧ ∀ F46 : xw_F, F46 = xw_up F45 15 (upd (F45 15) x1.toNatClampNeg (1 : Int32)) → post (1 : Int32) I F46 G) ∧ (¬ ((12 : Int32) ≤ y3) → vp_in y3 12 ∧ ∀ v47 : Int32, v47 = F 6 y3.toNatClampNeg → vp_in ((y2 + (21 : Int32)) + y3) 80 ∧ ∀ F48 : xw_F, F48 = xw_up F 14 (upd (F 14) ((y2 + (21 : Int32)) + y3).toNatClampNeg v47) → ∀ v49 : Int32, v49 = y3 + 1 → k126 y2 v49 I F48 G))
def bd_X8_image_0 (x1 : Int32) (I : xw_I) (F : xw_F) (G : xw_G) (post : Int32 → xw_I → xw_F → xw_G → Prop) (k19 : Int32 → Int32 → xw_I → xw_F → xw_G → Prop) (k79 : Int32 → Int32 → xw_I → xw_F → xw_G → Prop) (k126 : Int32 → Int32 → xw_I → xw_F → xw_G → Prop) : Prop := sm_X8_in x1 (0 : Int32) (1 : Int32) (fun r25 => ((¬ r25 = 0 → ∀ v27 : Int32, v27 = ((40 : Int32) * x1) → k19 v27 (0 : Int32) I F G) ∧ (r25 = 0 → post (-2 : Int32) I F G)))
def sm_X8_image (x1 : Int32) (I : xw_I) (F : xw_F) (G : xw_G) (post : Int32 → xw_I → xw_F → xw_G → Prop) : Prop := ∀ (k19 : Int32 → Int32 → xw_I → xw_F → xw_G → Prop) (k79 : Int32 → Int32 → xw_I → xw_F → xw_G → Prop) (k126 : Int32 → Int32 → xw_I → xw_F → xw_G → Prop), (∀ (y2 : Int32) (y3 : Int32) (I : xw_I) (F : xw_F) (G : xw_G), bd_X8_image_19 x1 post k19 k79 k126 y2 y3 I F G → k19 y2 y3 I F G) → (∀ (y2 : Int32) (y3 : Int32) (I : xw_I) (F : xw_F) (G : xw_G), bd_X8_image_79 x1 post k19 k79 k126 y2 y3 I F G → k79 y2 y3 I F G) → (∀ (y2 : Int32) (y3 : Int32) (I : xw_I) (F : xw_F) (G : xw_G), bd_X8_image_126 x1 post k19 k79 k126 y2 y3 I F G → k126 y2 y3 I F G) → bd_X8_image_0 x1 I F G post k19 k79 k126

def bd_X8_restore_31 (x1 : Int32) (post : Int32 → xw_I → xw_F → xw_G → Prop) (k31 : Int32 → Int32 → xw_I → xw_F → xw_G → Prop) (k91 : Int32 → Int32 → xw_I → xw_F → xw_G → Prop) (k138 : Int32 → Int32 → xw_I → xw_F → xw_G → Prop) (y2 : Int32) (y3 : Int32) (I : xw_I) (F : xw_F) (G : xw_G) : Prop := (((5 : Int32) ≤ y3 → k91 y2 (0 : Int32) I F G) ∧ (¬ ((5 : Int32) ≤ y3) → vp_in (y2 + y3) 80 ∧ ∀ v32 : Int32, v32 = F 14 (y2 + y3).toNatClampNeg → vp_in y3 5 ∧ ∀ F33 : xw_F, F33 = xw_up F 1 (upd (F 1) y3.toNatClampNeg v32) → vp_in ((y2 + (5 : Int32)) + y3) 80 ∧ ∀ v34 : Int32, v34 = F33 14 ((y2 + (5 : Int32)) + y3).toNatClampNeg → vp_in y3 5 ∧ ∀ F35 : xw_F, F35 = xw_up F33 2 (upd (F33 2) y3.toNatClampNeg v34) → vp_in ((y2 + (10 : Int32)) + y3) 80 ∧ ∀ v36 : Int32, v36 = F35 14 ((y2 + (10 : Int32)) + y3).toNatClampNeg → vp_in y3 5 ∧ ∀ F37 : xw_F, F37 = xw_up F35 3 (upd (F35 3) y3.toNatClampNeg v36) → ∀ v38 : Int32, v38 = y3 + 1 → k31 y2 v38 I F37 G))
def bd_X8_restore_91 (x1 : Int32) (post : Int32 → xw_I → xw_F → xw_G → Prop) (k31 : Int32 → Int32 → xw_I → xw_F → xw_G → Prop) (k91 : Int32 → Int32 → xw_I → xw_F → xw_G → Prop) (k138 : Int32 → Int32 → xw_I → xw_F → xw_G → Prop) (y2 : Int32) (y3 : Int32) (I : xw_I) (F : xw_F) (G : xw_G) : Prop := (((3 : Int32) ≤ y3 → k138 y2 (0 : Int32) I F G) ∧ (¬ ((3 : Int32) ≤ y3) → vp_in ((y2 + (15 : Int32)) + y3) 80 ∧ ∀ v40 : Int32, v40 = F 14 ((y2 + (15 : Int32)) + y3).toNatClampNeg → vp_in y3 3 ∧ ∀ F41 : xw_F, F41 = xw_up F 4 (upd (F 4) y3.toNatClampNeg v40) → vp_in ((y2 + (18 : Int32)) + y3) 80 ∧ ∀ v42 : Int32, v42 = F41 14 ((y2 + (18 : Int32)) + y3).toNatClampNeg → vp_in y3 3 ∧ ∀ F43 : xw_F, F43 = xw_up F41 5 (upd (F41 5) y3.toNatClampNeg v42) → ∀ v44 : Int32, v44 = y3 + 1 → k91 y2 v44 I F43 G))
def bd_X8_restore_138 (x1 : Int32) (post : Int32 → xw_I → xw_F → xw_G → Prop) (k31 : Int32 → Int32 → xw_I → xw_F → xw_G → Prop) (k91 : Int32 → Int32 → xw_I → xw_F → xw_G → Prop) (k138 : Int32 → Int32 → xw_I → xw_F → xw_G → Prop) (y2 : Int32) (y3 : Int32) (I : xw_I) (F : xw_F) (G : xw_G) : Prop := (((12 : Int32) ≤ y3 → vp_in (y2 + (33 : Int32)) 80 ∧ ∀ v46 : Int32, v46 = F 14 (y2 + (33 : Int32)).toNatClampNeg → ∀ I47 : xw_I, I47 = xw_up I 0 v46 → vp_in (y2 + (34 : Int32)) 80 ∧ ∀ v48 : Int32, v48 = F 14 (y2 + (34 : Int32)).toNatClampNeg → ∀ I49 : xw_I, I49 = xw_up I47 1 v48 → vp_in (y2 + (35 : Int32)) 80 ∧ ∀ v50 : Int32, v50 = F 14 (y2 + (35 : Int32)).toNatClampNeg → ∀ I51 : xw_I, I51 = xw_up I49 2 v50 → post (1 : Int32) I51 F G) ∧ (¬ ((12 : Int32) ≤ y3) → vp_in ((y2 + (21 : Int32)) + y3) 80 ∧ ∀ v52 : Int32, v52 = F 14 ((y2 + (21 : Int32)) + y3).toNatClampNeg → vp_in y3 12 ∧ ∀ F53 : xw_F, F53 = xw_up F 6 (upd (F 6) y3.toNatClampNeg v52) → ∀ v54 : Int32, v54 = y3 + 1 → k138 y2 v54 I F53 G))
def bd_X8_restore_0 (x1 : Int32) (I : xw_I) (F : xw_F) (G : xw_G) (post : Int32 → xw_I → xw_F → xw_G → Prop) (k31 : Int32 → Int32 → xw_I → xw_F → xw_G → Prop) (k91 : Int32 → Int32 → xw_I → xw_F → xw_G → Prop) (k138 : Int32 → Int32 → xw_I → xw_F → xw_G → Prop) : Prop := sm_X8_in x1 (0 : Int32) (1 : Int32) (fun r26 => ((¬ r26 = 0 → vp_in x1 2 ∧ ∀ v28 : Int32, v28 = F 15 x1.toNatClampNeg → ((¬ v28 = 0 → ∀ v30 : Int32, v30 = ((40 : Int32) * x1) → k31 v30 (0 : Int32) I F G) ∧ (v28 = 0 → post (-3 : Int32) I F G))) ∧ (r26 = 0 → post (-2 : Int32) I F G)))
def sm_X8_restore (x1 : Int32) (I : xw_I) (F : xw_F) (G : xw_G) (post : Int32 → xw_I → xw_F → xw_G → Prop) : Prop := ∀ (k31 : Int32 → Int32 → xw_I → xw_F → xw_G → Prop) (k91 : Int32 → Int32 → xw_I → xw_F → xw_G → Prop) (k138 : Int32 → Int32 → xw_I → xw_F → xw_G → Prop), (∀ (y2 : Int32) (y3 : Int32) (I : xw_I) (F : xw_F) (G : xw_G), bd_X8_restore_31 x1 post k31 k91 k138 y2 y3 I F G → k31 y2 y3 I F G) → (∀ (y2 : Int32) (y3 : Int32) (I : xw_I) (F : xw_F) (G : xw_G), bd_X8_restore_91 x1 post k31 k91 k138 y2 y3 I F G → k91 y2 y3 I F G) → (∀ (y2 : Int32) (y3 : Int32) (I : xw_I) (F : xw_F) (G : xw_G), bd_X8_restore_138 x1 post k31 k91 k138 y2 y3 I F G → k138 y2 y3 I F G) → bd_X8_restore_0 x1 I F G post k31 k91 k138

def sm_X8_told (x1 : Int32) (I : xw_I) (F : xw_F) (G : xw_G) (post : Int32 → Prop) : Prop := ((x1 = 0 → post (I 3)) ∧ ((x1 = 1 → post (I 0)) ∧ ((x1 = 2 → post (I 2)) ∧ (¬ x1 = 0 → ¬ x1 = 1 → ¬ x1 = 2 → sm_X8_in x1 (10 : Int32) ((9 : Int32) + (I 0)) (fun r5 => ((r5 = 0 → post (-2 : Int32)) ∧ (¬ (r5 = 0) → vp_in (x1 - (10 : Int32)) 12 ∧ ∀ v7 : Int32, v7 = F 6 (x1 - (10 : Int32)).toNatClampNeg → post v7)))))))

def bd_X4_copyC_42 (post : xw_I → xw_F → xw_G → Prop) (k42 : Int32 → xw_I → xw_F → xw_G → Prop) (k115 : Int32 → xw_I → xw_F → xw_G → Prop) (y2 : Int32) (I : xw_I) (F : xw_F) (G : xw_G) : Prop := (((5 : Int32) ≤ y2 → k115 (0 : Int32) I F G) ∧ (¬ ((5 : Int32) ≤ y2) → vp_in y2 5 ∧ ∀ v25 : Int32, v25 = F 3 y2.toNatClampNeg → vp_in y2 5 ∧ ∀ F26 : xw_F, F26 = xw_up F 13 (upd (F 13) y2.toNatClampNeg v25) → vp_in y2 5 ∧ ∀ v27 : Int32, v27 = F26 4 y2.toNatClampNeg → vp_in y2 5 ∧ ∀ F28 : xw_F, F28 = xw_up F26 14 (upd (F26 14) y2.toNatClampNeg v27) → vp_in y2 5 ∧ ∀ v29 : Int32, v29 = F28 5 y2.toNatClampNeg → vp_in y2 5 ∧ ∀ F30 : xw_F, F30 = xw_up F28 15 (upd (F28 15) y2.toNatClampNeg v29) → vp_in y2 5 ∧ ∀ v31 : Int32, v31 = F30 6 y2.toNatClampNeg → vp_in y2 5 ∧ ∀ F32 : xw_F, F32 = xw_up F30 16 (upd (F30 16) y2.toNatClampNeg v31) → vp_in y2 5 ∧ ∀ v33 : Int32, v33 = F32 9 y2.toNatClampNeg → vp_in y2 5 ∧ ∀ F34 : xw_F, F34 = xw_up F32 19 (upd (F32 19) y2.toNatClampNeg v33) → ∀ v35 : Int32, v35 = y2 + 1 → k42 v35 I F34 G))
def bd_X4_copyC_115 (post : xw_I → xw_F → xw_G → Prop) (k42 : Int32 → xw_I → xw_F → xw_G → Prop) (k115 : Int32 → xw_I → xw_F → xw_G → Prop) (y2 : Int32) (I : xw_I) (F : xw_F) (G : xw_G) : Prop := (((3 : Int32) ≤ y2 → post I F G) ∧ (¬ ((3 : Int32) ≤ y2) → vp_in y2 3 ∧ ∀ v37 : Int32, v37 = F 7 y2.toNatClampNeg → vp_in y2 3 ∧ ∀ F38 : xw_F, F38 = xw_up F 17 (upd (F 17) y2.toNatClampNeg v37) → vp_in y2 3 ∧ ∀ v39 : Int32, v39 = F38 8 y2.toNatClampNeg → vp_in y2 3 ∧ ∀ F40 : xw_F, F40 = xw_up F38 18 (upd (F38 18) y2.toNatClampNeg v39) → ∀ v41 : Int32, v41 = y2 + 1 → k115 v41 I F40 G))
def bd_X4_copyC_0 (I : xw_I) (F : xw_F) (G : xw_G) (post : xw_I → xw_F → xw_G → Prop) (k42 : Int32 → xw_I → xw_F → xw_G → Prop) (k115 : Int32 → xw_I → xw_F → xw_G → Prop) : Prop := ∀ I19 : xw_I, I19 = xw_up I 7 (I 2) → ∀ I20 : xw_I, I20 = xw_up I19 8 (I19 3) → ∀ I21 : xw_I, I21 = xw_up I20 9 (I20 4) → ∀ I22 : xw_I, I22 = xw_up I21 10 (I21 5) → ∀ I23 : xw_I, I23 = xw_up I22 11 (I22 6) → k42 (0 : Int32) I23 F G
def sm_X4_copyC (I : xw_I) (F : xw_F) (G : xw_G) (post : xw_I → xw_F → xw_G → Prop) : Prop := ∀ (k42 : Int32 → xw_I → xw_F → xw_G → Prop) (k115 : Int32 → xw_I → xw_F → xw_G → Prop), (∀ (y2 : Int32) (I : xw_I) (F : xw_F) (G : xw_G), bd_X4_copyC_42 post k42 k115 y2 I F G → k42 y2 I F G) → (∀ (y2 : Int32) (I : xw_I) (F : xw_F) (G : xw_G), bd_X4_copyC_115 post k42 k115 y2 I F G → k115 y2 I F G) → bd_X4_copyC_0 I F G post k42 k115

def bd_X4_copyT_42 (post : xw_I → xw_F → xw_G → Prop) (k42 : Int32 → xw_I → xw_F → xw_G → Prop) (k115 : Int32 → xw_I → xw_F → xw_G → Prop) (y2 : Int32) (I : xw_I) (F : xw_F) (G : xw_G) : Prop := (((5 : Int32) ≤ y2 → k115 (0 : Int32) I F G) ∧ (¬ ((5 : Int32) ≤ y2) → vp_in y2 5 ∧ ∀ v25 : Int32, v25 = F 12 y2.toNatClampNeg → vp_in y2 5 ∧ ∀ F26 : xw_F, F26 = xw_up F 2 (upd (F 2) y2.toNatClampNeg v25) → vp_in y2 5 ∧ ∀ v27 : Int32, v27 = F26 13 y2.toNatClampNeg → vp_in y2 5 ∧ ∀ F28 : xw_F, F28 = xw_up F26 3 (upd (F26 3) y2.toNatClampNeg v27) → vp_in y2 5 ∧ ∀ v29 : Int32, v29 = F28 14 y2.toNatClampNeg → vp_in y2 5 ∧ ∀ F30 : xw_F, F30 = xw_up F28 4 (upd (F28 4) y2.toNatClampNeg v29) → vp_in y2 5 ∧ ∀ v31 : Int32, v31 = F30 15 y2.toNatClampNeg → vp_in y2 5 ∧ ∀ F32 : xw_F, F32 = xw_up F30 5 (upd (F30 5) y2.toNatClampNeg v31) → vp_in y2 5 ∧ ∀ v33 : Int32, v33 = F32 18 y2.toNatClampNeg → vp_in y2 5 ∧ ∀ F34 : xw_F, F34 = xw_up F32 8 (upd (F32 8) y2.toNatClampNeg v33) → ∀ v35 : Int32, v35 = y2 + 1 → k42 v35 I F34 G))
def bd_X4_copyT_115 (post : xw_I → xw_F → xw_G → Prop) (k42 : Int32 → xw_I → xw_F → xw_G → Prop) (k115 : Int32 → xw_I → xw_F → xw_G → Prop) (y2 : Int32) (I : xw_I) (F : xw_F) (G : xw_G) : Prop := (((3 : Int32) ≤ y2 → post I F G) ∧ (¬ ((3 : Int32) ≤ y2) → vp_in y2 3 ∧ ∀ v37 : Int32, v37 = F 16 y2.toNatClampNeg → vp_in y2 3 ∧ ∀ F38 : xw_F, F38 = xw_up F 6 (upd (F 6) y2.toNatClampNeg v37) → vp_in y2 3 ∧ ∀ v39 : Int32, v39 = F38 17 y2.toNatClampNeg → vp_in y2 3 ∧ ∀ F40 : xw_F, F40 = xw_up F38 7 (upd (F38 7) y2.toNatClampNeg v39) → ∀ v41 : Int32, v41 = y2 + 1 → k115 v41 I F40 G))
def bd_X4_copyT_0 (I : xw_I) (F : xw_F) (G : xw_G) (post : xw_I → xw_F → xw_G → Prop) (k42 : Int32 → xw_I → xw_F → xw_G → Prop) (k115 : Int32 → xw_I → xw_F → xw_G → Prop) : Prop := ∀ I19 : xw_I, I19 = xw_up I 0 (I 6) → ∀ I20 : xw_I, I20 = xw_up I19 1 (I19 7) → ∀ I21 : xw_I, I21 = xw_up I20 2 (I20 8) → ∀ I22 : xw_I, I22 = xw_up I21 3 (I21 9) → ∀ I23 : xw_I, I23 = xw_up I22 4 (I22 10) → k42 (0 : Int32) I23 F G
def sm_X4_copyT (I : xw_I) (F : xw_F) (G : xw_G) (post : xw_I → xw_F → xw_G → Prop) : Prop := ∀ (k42 : Int32 → xw_I → xw_F → xw_G → Prop) (k115 : Int32 → xw_I → xw_F → xw_G → Prop), (∀ (y2 : Int32) (I : xw_I) (F : xw_F) (G : xw_G), bd_X4_copyT_42 post k42 k115 y2 I F G → k42 y2 I F G) → (∀ (y2 : Int32) (I : xw_I) (F : xw_F) (G : xw_G), bd_X4_copyT_115 post k42 k115 y2 I F G → k115 y2 I F G) → bd_X4_copyT_0 I F G post k42 k115

def bd_X3_copyT_21 (post : xw_I → xw_F → xw_G → Prop) (k21 : Int32 → xw_I → xw_F → xw_G → Prop) (y2 : Int32) (I : xw_I) (F : xw_F) (G : xw_G) : Prop := (((12 : Int32) ≤ y2 → post I F G) ∧ (¬ ((12 : Int32) ≤ y2) → vp_in y2 12 ∧ ∀ v8 : Int32, v8 = F 19 y2.toNatClampNeg → vp_in y2 12 ∧ ∀ F9 : xw_F, F9 = xw_up F 9 (upd (F 9) y2.toNatClampNeg v8) → ∀ v10 : Int32, v10 = y2 + 1 → k21 v10 I F9 G))
def bd_X3_copyT_0 (I : xw_I) (F : xw_F) (G : xw_G) (post : xw_I → xw_F → xw_G → Prop) (k21 : Int32 → xw_I → xw_F → xw_G → Prop) : Prop := sm_X4_copyT  I F G (fun I5 F5 G5 => ∀ I6 : xw_I, I6 = xw_up I5 5 (I5 11) → k21 (0 : Int32) I6 F5 G5)
def sm_X3_copyT (I : xw_I) (F : xw_F) (G : xw_G) (post : xw_I → xw_F → xw_G → Prop) : Prop := ∀ (k21 : Int32 → xw_I → xw_F → xw_G → Prop), (∀ (y2 : Int32) (I : xw_I) (F : xw_F) (G : xw_G), bd_X3_copyT_21 post k21 y2 I F G → k21 y2 I F G) → bd_X3_copyT_0 I F G post k21

def sm_X7_load (I : xw_I) (F : xw_F) (G : xw_G) (post : Int32 → xw_I → xw_F → xw_G → Prop) : Prop := sm_X1_read  I F G (fun r2 I2 F2 G2 => ((r2 = (-6 : Int32) → sm_X4_copyC  I2 F2 G2 (fun I4 F4 G4 => sm_X3_dropLinks  I4 F4 G4 (fun I5 F5 G5 => ∀ I6 : xw_I, I6 = xw_up I5 1 (0 : Int32) → ∀ I7 : xw_I, I7 = xw_up I6 0 (1 : Int32) → post (I7 7) I7 F5 G5))) ∧ (¬ (r2 = (-6 : Int32)) → post (-5 : Int32) I2 F2 G2)))
end
section
/-! ===== Int32 by its bits: bt x i ===== -/
def bt (x : Int32) (i : Nat) : Bool := x.toBitVec.getLsbD i
theorem b_ext {x y : Int32} (h : ∀ i, i < 32 → bt x i = bt y i) : x = y := Int32.toBitVec_inj.mp (BitVec.eq_of_getLsbD_eq (fun i hi => h i hi))
theorem b_or (x y : Int32) (i : Nat) : bt (x ||| y) i = (bt x i || bt y i) := by unfold bt; rw [Int32.toBitVec_or, BitVec.getLsbD_or]
theorem b_and (x y : Int32) (i : Nat) : bt (x &&& y) i = (bt x i && bt y i) := by unfold bt; rw [Int32.toBitVec_and, BitVec.getLsbD_and]
theorem b_xor (x y : Int32) (i : Nat) : bt (x ^^^ y) i = (bt x i ^^ bt y i) := by unfold bt; rw [Int32.toBitVec_xor, BitVec.getLsbD_xor]
theorem b_big {x : Int32} {i : Nat} (h : 32 ≤ i) : bt x i = false := BitVec.getLsbD_of_ge _ _ h
theorem b_m1 : ∀ i, i < 32 → bt (-1) i = true := by decide +kernel
theorem b_0 (i : Nat) : bt 0 i = false := BitVec.getLsbD_zero
theorem s_l : ∀ n, n < 32 → ((nI n &&& 31).toBitVec.smod 32).toNat = n := by decide +kernel
theorem s_u : ∀ n, n < 32 → (((nI n).toUInt32 &&& Int32.toUInt32 31).toBitVec % 32).toNat = n := by decide +kernel
theorem b_shl (n : Nat) (hn : n < 32) (x : Int32) {i : Nat} (hi : i < 32) : bt (x <<< (nI n &&& 31)) i = (decide (n ≤ i) && bt x (i - n)) := by
  unfold bt
  rw [Int32.toBitVec_shiftLeft]
  show (x.toBitVec <<< ((nI n &&& 31).toBitVec.smod 32).toNat).getLsbD i = _
  rw [s_l n hn, BitVec.getLsbD_shiftLeft]
  rcases Nat.lt_or_ge i n with h | h
  · simp [h, Nat.not_le.mpr h]
  · simp [hi, h, Nat.not_lt.mpr h]
theorem b_ushr (n : Nat) (hn : n < 32) (x : Int32) (i : Nat) : bt ((x.toUInt32 >>> ((nI n).toUInt32 &&& Int32.toUInt32 31)).toInt32) i = bt x (n + i) := by
  show (x.toUInt32 >>> ((nI n).toUInt32 &&& Int32.toUInt32 31)).toBitVec.getLsbD i = x.toUInt32.toBitVec.getLsbD (n + i)
  rw [UInt32.toBitVec_shiftRight]
  show (x.toUInt32.toBitVec >>> (((nI n).toUInt32 &&& Int32.toUInt32 31).toBitVec % 32).toNat).getLsbD i = _
  rw [s_u n hn, BitVec.getLsbD_ushiftRight]
theorem b_sshr (n : Nat) (hn : n < 32) (x : Int32) {i : Nat} (hi : i < 32) : bt (x >>> (nI n &&& 31)) i = if n + i < 32 then bt x (n + i) else bt x 31 := by
  unfold bt
  rw [Int32.toBitVec_shiftRight]
  show (x.toBitVec.sshiftRight ((nI n &&& 31).toBitVec.smod 32).toNat).getLsbD i = _
  rw [s_l n hn, BitVec.getLsbD_sshiftRight, BitVec.msb_eq_getLsbD_last]
  simp [hi]
/-! ===== nI under and, xor, >>>, one bit, 65535 ===== -/
theorem nx_and (a b : Nat) : nI a &&& nI b = nI (a &&& b) := by
  apply Int32.toBitVec_inj.1
  show BitVec.ofNat 32 a &&& BitVec.ofNat 32 b = BitVec.ofNat 32 (a &&& b)
  apply BitVec.eq_of_getLsbD_eq
  intro i hi
  simp [hi]
theorem nx_xor (a b : Nat) : nI a ^^^ nI b = nI (a ^^^ b) := by
  apply Int32.toBitVec_inj.1
  show BitVec.ofNat 32 a ^^^ BitVec.ofNat 32 b = BitVec.ofNat 32 (a ^^^ b)
  apply BitVec.eq_of_getLsbD_eq
  intro i hi
  simp [hi]
/-! ===== numbers and bits, small ===== -/
theorem xw_upi {α : Type} (f : Nat → α) (j : Nat) (v : α) (k : Nat) : xw_up f j v k = if k = j then v else f k := by
  by_cases h : k = j
  · subst h; rw [xw_ups, if_pos rfl]
  · rw [xw_upn h, if_neg h]
theorem xb_updi (f : Nat → Int32) (j : Nat) (v : Int32) (k : Nat) : upd f j v k = if k = j then v else f k := rfl
theorem xb_updl (f : Nat → Int64) (j : Nat) (v : Int64) (k : Nat) : vp_updL f j v k = if k = j then v else f k := rfl
theorem xb_bt (s i : Nat) (hi : i < 32) : bt (nI s) i = s.testBit i := by
  show (BitVec.ofNat 32 s).getLsbD i = _
  rw [BitVec.getLsbD_ofNat]; simp [hi]
theorem xb_or (a b : Nat) : nI a ||| nI b = nI (a ||| b) := by
  apply Int32.toBitVec_inj.1
  show BitVec.ofNat 32 a ||| BitVec.ofNat 32 b = BitVec.ofNat 32 (a ||| b)
  apply BitVec.eq_of_getLsbD_eq
  intro i hi
  simp [hi]
theorem xb_shr {s p : Nat} (hs : s < 2 ^ 31) (hp : p < 32) : nI s >>> (nI p &&& 31) = nI (s / 2 ^ p) := by
  apply b_ext
  intro i hi
  rw [b_sshr p hp _ hi, xb_bt _ _ hi, Nat.testBit_div_two_pow]
  split
  · rename_i h
    rw [xb_bt _ _ h, Nat.add_comm]
  · rename_i h
    rw [xb_bt _ _ (by omega), Nat.testBit_lt_two_pow hs]
    symm
    apply Nat.testBit_lt_two_pow
    exact Nat.lt_of_lt_of_le hs (Nat.pow_le_pow_right (by decide) (by omega))
theorem xb_1 (s : Nat) : nI s &&& 1 = nI (s % 2) := by
  rw [show (1 : Int32) = nI 1 from rfl, nx_and, Nat.and_one_is_mod]
theorem xb_bit {s p : Nat} (hs : s < 2 ^ 31) (hp : p < 32) : (nI s >>> (nI p &&& 31)) &&& (1 : Int32) = nI (s.testBit p).toNat := by
  rw [xb_shr hs hp, xb_1, Nat.toNat_testBit]
theorem xb_shl : ∀ p, p < 31 → (1 : Int32) <<< (nI p &&& 31) = nI (2 ^ p) := by decide +kernel
/-- the answer of has -/
def xb_h (s p : Nat) : Int32 := nI (s.testBit p).toNat
theorem xs_has {s p : Nat} {post : Int32 → Prop} (hs : s < 2 ^ 31) (hp : p < 32) (h0 : s.testBit p = false → post 0) (h1 : s.testBit p = true → post 1) : sm_X7_has (nI s) (nI p) post := by
  unfold sm_X7_has
  rw [xb_bit hs hp]
  cases hb : s.testBit p
  · exact ⟨fun _ => h0 hb, fun h => absurd rfl h⟩
  · exact ⟨fun h => absurd h (by decide), fun _ => h1 hb⟩
theorem xn_le {a b : Nat} (ha : a < 2 ^ 31) (hb : b < 2 ^ 31) : nI a ≤ nI b ↔ a ≤ b := nI_leI ha hb
theorem xn_lt {a b : Nat} (ha : a < 2 ^ 31) (hb : b < 2 ^ 31) : nI a < nI b ↔ a < b := nI_ltI ha hb
theorem xn_eq {a b : Nat} (ha : a < 2 ^ 31) (hb : b < 2 ^ 31) : nI a = nI b ↔ a = b := nI_eq ha hb
theorem xn_sub {a b : Nat} (h : b ≤ a) : nI a - nI b = nI (a - b) := by
  apply Int32.toBitVec_inj.1
  show BitVec.ofNat 32 a - BitVec.ofNat 32 b = BitVec.ofNat 32 (a - b)
  apply BitVec.eq_of_toNat_eq
  rw [BitVec.toNat_sub, BitVec.toNat_ofNat, BitVec.toNat_ofNat, BitVec.toNat_ofNat]
  omega
theorem xn_mul (a b : Nat) : nI a * nI b = nI (a * b) := by
  apply Int32.toBitVec_inj.1
  show BitVec.ofNat 32 a * BitVec.ofNat 32 b = BitVec.ofNat 32 (a * b)
  apply BitVec.eq_of_toNat_eq
  simp [BitVec.toNat_mul, Nat.mul_mod]
theorem xn_lit0 : (0 : Int32) = nI 0 := rfl
/-- a counted loop, upwards -/
theorem xl_up {σ : Type} (K : Nat → σ → Prop) (n : Nat) (V : Nat → σ → Prop) (hs : ∀ i s, i < n → V i s → (∀ s', V (i + 1) s' → K (i + 1) s') → K i s) (he : ∀ s, V n s → K n s) : ∀ i s, i ≤ n → V i s → K i s := by
  have key : ∀ d i s, i + d = n → V i s → K i s := by
    intro d
    induction d with
    | zero => intro i s h v; have : i = n := by omega
              subst this; exact he s v
    | succ d ih => intro i s h v; exact hs i s (by omega) v (fun s' v' => ih (i + 1) s' (by omega) v')
  intro i s h v
  exact key (n - i) i s (by omega) v
theorem xs_drop {I : xw_I} {F : xw_F} {G : xw_G} {post : xw_I → xw_F → xw_G → Prop} (h : ∀ F1 : xw_F, (∀ w, w < 12 → F1 20 w = 0) → (∀ j, j ≠ 20 → F1 j = F j) → post I F1 G) : sm_X3_dropLinks I F G post := by
  intro k hk
  refine xl_up (fun i F1 => k (nI i) I F1 G) 12 (fun i F1 => (∀ w, w < i → F1 20 w = 0) ∧ ∀ j, j ≠ 20 → F1 j = F j) ?_ ?_ 0 F (by omega) ⟨fun w h => by omega, fun _ _ => rfl⟩
  · intro i F1 hi hv ih
    apply hk
    unfold bd_X3_dropLinks_2
    refine ⟨fun c => absurd ((xn_le (a := 12) (by omega) (by omega)).mp c) (by omega), fun _ => ⟨vp_in_nI hi (by omega), ?_⟩⟩
    intro F2 e2 v e
    rw [e, nI_1]
    refine ih F2 ⟨fun w hw => ?_, fun j hj => ?_⟩
    · rw [e2, xw_upi, if_pos rfl, xb_updi, nI_clamp (by omega)]
      split
      · rfl
      · exact hv.1 w (by omega)
    · rw [e2, xw_upn hj]; exact hv.2 j hj
  · intro F1 hv
    apply hk
    unfold bd_X3_dropLinks_2
    exact ⟨fun _ => h F1 hv.1 hv.2, fun c => absurd ((xn_le (a := 12) (b := 12) (by omega) (by omega)).mpr (by omega)) c⟩
theorem xs_unlink {I : xw_I} {F : xw_F} {G : xw_G} {post : xw_I → xw_F → xw_G → Prop} (h : ∀ F1 : xw_F, (∀ w, w < 12 → F1 6 w = 0) → (∀ j, j ≠ 6 → F1 j = F j) → post I F1 G) : sm_X8_unlink I F G post := by
  intro k hk
  refine xl_up (fun i F1 => k (nI i) I F1 G) 12 (fun i F1 => (∀ w, w < i → F1 6 w = 0) ∧ ∀ j, j ≠ 6 → F1 j = F j) ?_ ?_ 0 F (by omega) ⟨fun w h => by omega, fun _ _ => rfl⟩
  · intro i F1 hi hv ih
    apply hk
    unfold bd_X8_unlink_2
    refine ⟨fun c => absurd ((xn_le (a := 12) (by omega) (by omega)).mp c) (by omega), fun _ => ⟨vp_in_nI hi (by omega), ?_⟩⟩
    intro F2 e2 v e
    rw [e, nI_1]
    refine ih F2 ⟨fun w hw => ?_, fun j hj => ?_⟩
    · rw [e2, xw_upi, if_pos rfl, xb_updi, nI_clamp (by omega)]
      split
      · rfl
      · exact hv.1 w (by omega)
    · rw [e2, xw_upn hj]; exact hv.2 j hj
  · intro F1 hv
    apply hk
    unfold bd_X8_unlink_2
    exact ⟨fun _ => h F1 hv.1 hv.2, fun c => absurd ((xn_le (a := 12) (b := 12) (by omega) (by omega)).mpr (by omega)) c⟩
end
section
/-! ===== the sentence as it is told ===== -/
/-- words, pairs, marks (bits), how many marks, how many open; opens, closes, holds, heldBy, gap of a mark, marks in order, open ones in order, rank -/
abbrev xa_R : Type := Nat × Nat × Nat × Nat × Nat × (Nat → Nat) × (Nat → Nat) × (Nat → Nat) × (Nat → Nat) × (Nat → Nat) × (Nat → Nat) × (Nat → Nat) × (Nat → Nat)
def xa_u (f : Nat → Nat) (j v : Nat) : Nat → Nat := fun k => if k = j then v else f k
theorem xa_us {f : Nat → Nat} {j v : Nat} : xa_u f j v j = v := if_pos rfl
theorem xa_un {f : Nat → Nat} {j v k : Nat} (h : k ≠ j) : xa_u f j v k = f k := if_neg h
def xa_om (st : Nat → Nat) : Nat → Nat
  | 0 => 0
  | j + 1 => xa_om st j ||| 2 ^ st j
def xa_pop (s : Nat) : Nat := (s.testBit 0).toNat + (s.testBit 1).toNat + (s.testBit 2).toNat + (s.testBit 3).toNat + (s.testBit 4).toNat
def xa_0 : xa_R := (0, 0, 0, 0, 0, fun _ => 0, fun _ => 0, fun _ => 0, fun _ => 0, fun _ => 0, fun _ => 0, fun _ => 0, fun _ => 0)
def xa_step : xa_R → Nat → Option xa_R
  | (n, ps, mb, mc, oc, op, cl, hd, hb, mg, mr, st, rk), s =>
    if s = 46 then (if n < 12 then some (n + 1, ps, mb, mc, oc, op, cl, hd, hb, mg, mr, st, rk) else none)
    else if 65 ≤ s ∧ s < 70 then (if ps.testBit (s - 65) then none else some (n, ps ||| 2 ^ (s - 65), mb, mc, oc + 1, xa_u op (s - 65) n, xa_u cl (s - 65) n, (fun q => if q = s - 65 then 0 else if (xa_om st oc).testBit q then hd q ||| 2 ^ (s - 65) else hd q), xa_u hb (s - 65) (xa_om st oc), mg, mr, xa_u st oc (s - 65), xa_u rk (s - 65) (xa_pop ps)))
    else if 97 ≤ s ∧ s < 102 then (if 0 < oc ∧ st (oc - 1) = s - 97 then some (n, ps, mb, mc, oc - 1, op, xa_u cl (s - 97) n, hd, hb, mg, mr, st, rk) else none)
    else if 120 ≤ s ∧ s < 123 then (if mb.testBit (s - 120) then none else some (n, ps, mb ||| 2 ^ (s - 120), mc + 1, oc, op, cl, hd, hb, xa_u mg (s - 120) n, xa_u mr mc (s - 120), st, rk))
    else none
/-- how a run of signs ends: at a sign that can not stand, or with what it tells -/
def xa_go (sg : Nat → Nat) : Nat → Nat → xa_R → Nat ⊕ xa_R
  | 0, _, A => .inr A
  | d + 1, k, A => match xa_step A (sg k) with
    | none => .inl k
    | some A' => xa_go sg d (k + 1) A'
theorem xa_om_bit (st : Nat → Nat) (q : Nat) : ∀ j, (xa_om st j).testBit q = true ↔ ∃ i, i < j ∧ st i = q
  | 0 => by simp [xa_om]
  | j + 1 => by
    rw [xa_om, Nat.testBit_or, Bool.or_eq_true, xa_om_bit st q j, Nat.testBit_two_pow]
    simp only [decide_eq_true_eq]
    constructor
    · rintro (⟨i, h, e⟩ | e)
      · exact ⟨i, by omega, e⟩
      · exact ⟨j, by omega, e⟩
    · rintro ⟨i, h, e⟩
      by_cases hij : i = j
      · subst hij; exact Or.inr e
      · exact Or.inl ⟨i, by omega, e⟩
theorem xa_om_lt (st : Nat → Nat) : ∀ j, (∀ i, i < j → st i < 5) → xa_om st j < 32
  | 0, _ => by simp [xa_om]
  | j + 1, h => by
    have h1 := xa_om_lt st j (fun i hi => h i (by omega))
    have h2 : 2 ^ st j < 2 ^ 5 := Nat.pow_lt_pow_right (by decide) (h j (by omega))
    exact Nat.or_lt_two_pow (n := 5) h1 h2
theorem xa_om_u (st : Nat → Nat) (p v : Nat) : ∀ j, j ≤ p → xa_om (xa_u st p v) j = xa_om st j
  | 0, _ => rfl
  | j + 1, h => by rw [xa_om, xa_om, xa_om_u st p v j (by omega), xa_un (by omega)]
theorem xa_pop_new : ∀ s, s < 32 → ∀ p, p < 5 → s.testBit p = false → xa_pop (s ||| 2 ^ p) = xa_pop s + 1 ∧ xa_pop s ≤ 4 ∧ s ||| 2 ^ p < 32 := by decide +kernel
theorem xa_pop_new3 : ∀ s, s < 8 → ∀ p, p < 3 → s.testBit p = false → xa_pop (s ||| 2 ^ p) = xa_pop s + 1 ∧ xa_pop s ≤ 2 ∧ s ||| 2 ^ p < 8 := by decide +kernel
theorem xa_pop_le : ∀ s, s < 8 → xa_pop s ≤ 3 := by decide +kernel
theorem xa_bit_or (s p q : Nat) : (s ||| 2 ^ p).testBit q = (s.testBit q || decide (p = q)) := by rw [Nat.testBit_or, Nat.testBit_two_pow]
/-- what holds of all that is told without a fault -/
def xa_ok : xa_R → Prop
  | (n, ps, mb, mc, oc, op, cl, hd, hb, mg, mr, st, rk) => n ≤ 12 ∧ ps < 32 ∧ mb < 8 ∧ mc = xa_pop mb ∧ oc ≤ xa_pop ps ∧
    (∀ i, i < oc → st i < 5 ∧ ps.testBit (st i) = true) ∧ (∀ i j, i < oc → j < oc → st i = st j → i = j) ∧
    (∀ p, p < 5 → ps.testBit p = true → op p ≤ cl p ∧ cl p ≤ n ∧ hd p < 32 ∧ hb p < 32 ∧ rk p < xa_pop ps) ∧
    (∀ p q, p < 5 → q < 5 → ps.testBit p = true → (hd p).testBit q = true → ps.testBit q = true ∧ rk p < rk q) ∧
    (∀ p q, p < 5 → q < 5 → ps.testBit p = true → (hb p).testBit q = true → ps.testBit q = true) ∧
    (∀ p q, p < 5 → q < 5 → ps.testBit p = true → ps.testBit q = true → (hd q).testBit p = (hb p).testBit q) ∧
    (∀ i, i < mc → mr i < 3 ∧ mb.testBit (mr i) = true) ∧ (∀ i j, i < mc → j < mc → mr i = mr j → i = j) ∧
    (∀ m, m < 3 → mb.testBit m = true → mg m ≤ n ∧ ∃ i, i < mc ∧ mr i = m)
theorem xa_ok0 : xa_ok xa_0 := by
  simp [xa_ok, xa_0, xa_pop]
theorem xa_step_ok {A A' : xa_R} {s : Nat} (h : xa_ok A) (e : xa_step A s = some A') : xa_ok A' := by
  obtain ⟨n, ps, mb, mc, oc, op, cl, hd, hb, mg, mr, st, rk⟩ := A
  obtain ⟨h1, h2, h3, h4, h5, h6, h7, h8, h9, h10, h11, h12, h13, h14⟩ := h
  unfold xa_step at e
  dsimp only at e
  split at e
  · split at e
    · rename_i hn
      cases e
      exact ⟨by omega, h2, h3, h4, h5, h6, h7, fun p hp hb => by have := h8 p hp hb; omega, h9, h10, h11, h12, h13, fun m hm hb => ⟨by have := (h14 m hm hb).1; omega, (h14 m hm hb).2⟩⟩
    · cases e
  · split at e
    · rename_i hs
      split at e
      · cases e
      · rename_i hb0
        obtain ⟨p, hp⟩ : ∃ p, p = s - 65 := ⟨_, rfl⟩
        rw [← hp] at e hb0
        have hp5 : p < 5 := by omega
        have hb0 : ps.testBit p = false := by simpa using hb0
        obtain ⟨g1, g2, g3⟩ := xa_pop_new ps h2 p hp5 hb0
        have hst : ∀ i, i < oc → st i ≠ p := fun i hi z => by have := (h6 i hi).2; rw [z, hb0] at this; cases this
        cases e
        refine ⟨h1, g3, h3, h4, by omega, ?_, ?_, ?_, ?_, ?_, ?_, h12, h13, h14⟩
        · intro i hi
          by_cases hio : i = oc
          · subst hio; rw [xa_us]; exact ⟨hp5, by rw [xa_bit_or]; simp⟩
          · rw [xa_un hio]
            have := h6 i (by omega)
            exact ⟨this.1, by rw [xa_bit_or, this.2]; rfl⟩
        · intro i j hi hj
          by_cases hio : i = oc
          · by_cases hjo : j = oc
            · intro _; omega
            · subst hio; rw [xa_us, xa_un hjo]; intro z; exact absurd z.symm (hst j (by omega))
          · by_cases hjo : j = oc
            · subst hjo; rw [xa_us, xa_un hio]; intro z; exact absurd z (hst i (by omega))
            · rw [xa_un hio, xa_un hjo]; exact h7 i j (by omega) (by omega)
        · intro q hq hb
          rw [xa_bit_or] at hb
          by_cases hqp : q = p
          · subst hqp
            simp only [xa_us, if_pos]
            exact ⟨Nat.le_refl _, Nat.le_refl _, by decide, xa_om_lt st oc (fun i hi => (h6 i hi).1), by omega⟩
          · have hbq : ps.testBit q = true := by simpa [Ne.symm hqp] using hb
            obtain ⟨a1, a2, a3, a4, a5⟩ := h8 q hq hbq
            simp only [xa_un hqp, if_neg hqp]
            refine ⟨a1, a2, ?_, a4, by omega⟩
            split
            · exact Nat.or_lt_two_pow (n := 5) a3 (Nat.pow_lt_pow_right (by decide) hp5)
            · exact a3
        · intro q r hq hr hb
          rw [xa_bit_or] at hb
          by_cases hqp : q = p
          · subst hqp; simp
          · have hbq : ps.testBit q = true := by simpa [Ne.symm hqp] using hb
            simp only [if_neg hqp, xa_un hqp]
            rw [xa_bit_or]
            have h8q := h8 q hq hbq
            split
            · rw [xa_bit_or]
              intro z
              by_cases hrp : r = p
              · subst hrp; simp [xa_us]; omega
              · have z2 : (hd q).testBit r = true := by simpa [Ne.symm hrp] using z
                obtain ⟨b1, b2⟩ := h9 q r hq hr hbq z2
                rw [xa_un hrp]; exact ⟨by simp [b1], b2⟩
            · intro z
              obtain ⟨b1, b2⟩ := h9 q r hq hr hbq z
              have hrp : r ≠ p := fun z => by rw [z, hb0] at b1; cases b1
              rw [xa_un hrp]; exact ⟨by simp [b1], b2⟩
        · intro q r hq hr hb
          rw [xa_bit_or] at hb
          by_cases hqp : q = p
          · subst hqp; rw [xa_us]; intro z
            obtain ⟨i, hi, hz⟩ := (xa_om_bit st r oc).mp z
            rw [xa_bit_or, ← hz, (h6 i hi).2]; rfl
          · have hbq : ps.testBit q = true := by simpa [Ne.symm hqp] using hb
            rw [xa_un hqp]; intro z
            rw [xa_bit_or, h10 q r hq hr hbq z]; rfl
        · intro q r hq hr hb1 hb2
          rw [xa_bit_or] at hb1 hb2
          by_cases hqp : q = p
          · subst hqp
            rw [xa_us]
            by_cases hrp : r = q
            · subst hrp
              simp only [if_pos, Nat.zero_testBit]
              cases hz : (xa_om st oc).testBit r
              · rfl
              · obtain ⟨i, hi, hz2⟩ := (xa_om_bit st r oc).mp hz
                exact absurd hz2 (hst i hi)
            · have hbr : ps.testBit r = true := by simpa [Ne.symm hrp] using hb2
              simp only [if_neg hrp]
              cases hz : (xa_om st oc).testBit r
              · simp only [Bool.false_eq_true, if_false]
                cases hz3 : (hd r).testBit q
                · rfl
                · have := (h9 r q hr hq hbr hz3).1
                  rw [hb0] at this; cases this
              · simp [xa_bit_or]
          · have hbq : ps.testBit q = true := by simpa [Ne.symm hqp] using hb1
            rw [xa_un hqp]
            by_cases hrp : r = p
            · subst hrp
              simp only [if_pos, Nat.zero_testBit]
              cases hz : (hb q).testBit r
              · rfl
              · have := h10 q r hq hr hbq hz
                rw [hb0] at this; cases this
            · have hbr : ps.testBit r = true := by simpa [Ne.symm hrp] using hb2
              simp only [if_neg hrp]
              rw [← h11 q r hq hr hbq hbr]
              split
              · rw [xa_bit_or]; simp [Ne.symm hqp]
              · rfl
    · split at e
      · rename_i hs
        split at e
        · rename_i hc
          obtain ⟨p, hp⟩ : ∃ p, p = s - 97 := ⟨_, rfl⟩
          rw [← hp] at e hc
          cases e
          refine ⟨h1, h2, h3, h4, by omega, fun i hi => h6 i (by omega), fun i j hi hj => h7 i j (by omega) (by omega), ?_, h9, h10, h11, h12, h13, h14⟩
          intro q hq hb
          obtain ⟨a1, a2, a3, a4, a5⟩ := h8 q hq hb
          by_cases hqp : q = p
          · subst hqp; rw [xa_us]; exact ⟨by omega, Nat.le_refl _, a3, a4, a5⟩
          · rw [xa_un hqp]; exact ⟨a1, a2, a3, a4, a5⟩
        · cases e
      · split at e
        · rename_i hs
          split at e
          · cases e
          · rename_i hb0
            obtain ⟨p, hp⟩ : ∃ p, p = s - 120 := ⟨_, rfl⟩
            rw [← hp] at e hb0
            have hp3 : p < 3 := by omega
            have hb0 : mb.testBit p = false := by simpa using hb0
            obtain ⟨g1, g2, g3⟩ := xa_pop_new3 mb h3 p hp3 hb0
            have hmr : ∀ i, i < mc → mr i ≠ p := fun i hi z => by have := (h12 i hi).2; rw [z, hb0] at this; cases this
            cases e
            refine ⟨h1, h2, g3, by omega, h5, h6, h7, h8, h9, h10, h11, ?_, ?_, ?_⟩
            · intro i hi
              by_cases hio : i = mc
              · subst hio; rw [xa_us]; exact ⟨hp3, by rw [xa_bit_or]; simp⟩
              · rw [xa_un hio]
                have := h12 i (by omega)
                exact ⟨this.1, by rw [xa_bit_or, this.2]; rfl⟩
            · intro i j hi hj
              by_cases hio : i = mc
              · by_cases hjo : j = mc
                · intro _; omega
                · subst hio; rw [xa_us, xa_un hjo]; intro z; exact absurd z.symm (hmr j (by omega))
              · by_cases hjo : j = mc
                · subst hjo; rw [xa_us, xa_un hio]; intro z; exact absurd z (hmr i (by omega))
                · rw [xa_un hio, xa_un hjo]; exact h13 i j (by omega) (by omega)
            · intro m hm hb
              rw [xa_bit_or] at hb
              by_cases hmp : m = p
              · subst hmp; rw [xa_us]; exact ⟨Nat.le_refl _, mc, by omega, xa_us⟩
              · have hbm : mb.testBit m = true := by simpa [Ne.symm hmp] using hb
                obtain ⟨b1, i, b2, b3⟩ := h14 m hm hbm
                rw [xa_un hmp]
                exact ⟨b1, i, by omega, by rw [xa_un (by omega)]; exact b3⟩
        · cases e
end
section
/-! ===== the class's pad: take, read ===== -/
/-- the source of the pad holds A -/
def xe_P (I : xw_I) (F : xw_F) : xa_R → Prop
  | (n, ps, mb, mc, oc, op, cl, hd, hb, mg, mr, st, _) => I 2 = nI n ∧ I 3 = nI ps ∧ I 4 = nI mb ∧ I 5 = nI mc ∧ I 6 = nI oc ∧
    (∀ p, p < 5 → ps.testBit p = true → F 3 p = nI (op p) ∧ F 4 p = nI (cl p) ∧ F 5 p = nI (hd p) ∧ F 6 p = nI (hb p)) ∧
    (∀ m, m < 3 → mb.testBit m = true → F 7 m = nI (mg m)) ∧ (∀ i, i < mc → F 8 i = nI (mr i)) ∧ (∀ i, i < oc → F 9 i = nI (st i))
/-- what take leaves as it is -/
def xe_fr (I I1 : xw_I) (F F1 : xw_F) : Prop := (∀ j, j < 2 ∨ 6 < j → I1 j = I j) ∧ ∀ j, j < 3 ∨ 9 < j → F1 j = F j
theorem xe_fr.rf {I : xw_I} {F : xw_F} : xe_fr I I F F := ⟨fun _ _ => rfl, fun _ _ => rfl⟩
theorem xe_fr.tr {I I1 I2 : xw_I} {F F1 F2 : xw_F} (h : xe_fr I I1 F F1) (h2 : xe_fr I1 I2 F1 F2) : xe_fr I I2 F F2 := ⟨fun j q => (h2.1 j q).trans (h.1 j q), fun j q => (h2.2 j q).trans (h.2 j q)⟩
theorem xe_0 : narrow .boolean (.int 0) = .int 0 := rfl
theorem xe_1 : narrow .boolean (.int 1) = .int 1 := rfl
theorem xs_open {p n ps mb mc oc : Nat} {op cl hd hb mg mr st rk : Nat → Nat} {I : xw_I} {F : xw_F} {G : xw_G} {post : Int32 → xw_I → xw_F → xw_G → Prop} (hp : p < 5) (hok : xa_ok (n, ps, mb, mc, oc, op, cl, hd, hb, mg, mr, st, rk)) (hE : xe_P I F (n, ps, mb, mc, oc, op, cl, hd, hb, mg, mr, st, rk))
    (h0 : ps.testBit p = true → post 0 I F G)
    (h1 : ps.testBit p = false → ∀ I1 F1, xe_P I1 F1 (n, ps ||| 2 ^ p, mb, mc, oc + 1, xa_u op p n, xa_u cl p n, (fun q => if q = p then 0 else if (xa_om st oc).testBit q then hd q ||| 2 ^ p else hd q), xa_u hb p (xa_om st oc), mg, mr, xa_u st oc p, xa_u rk p (xa_pop ps)) → xe_fr I I1 F F1 → post 1 I1 F1 G) :
    sm_X4_takeOpening (nI p) I F G post := by
  obtain ⟨o1, o2, o3, o4, o5, o6, o7, o8, o9, o10, o11, o12, o13, o14⟩ := hok
  obtain ⟨e1, e2, e3, e4, e5, e6, e7, e8, e9⟩ := hE
  intro k hk
  unfold bd_X4_takeOpening_0
  rw [e2]
  refine xs_has (by omega) (by omega) ?_ ?_
  · intro hb0
    refine ⟨fun c => absurd rfl c, fun _ => ⟨fun _ => ?_, fun c => ?_⟩⟩
    · obtain ⟨g1, g2, g3⟩ := xa_pop_new ps o2 p hp hb0
      have hst : ∀ i, i < oc → st i ≠ p := fun i hi z => by have := (o6 i hi).2; rw [z, hb0] at this; cases this
      intro I1 eI1
      have hin : vp_in (nI p) 5 := vp_in_nI hp (by omega)
      have hcp : (nI p).toNatClampNeg = p := nI_clamp (by omega)
      refine ⟨hin, fun F1 eF1 => ⟨hin, fun F2 eF2 => ⟨hin, fun F3 eF3 => ⟨hin, fun F4 eF4 => ?_⟩⟩⟩⟩
      rw [hcp] at eF1 eF2 eF3 eF4
      have hI2 : I1 2 = nI n := by rw [eI1, xw_upn (by decide)]; exact e1
      have hI6 : I1 6 = nI oc := by rw [eI1, xw_upn (by decide)]; exact e5
      have hI3 : I1 3 = nI (ps ||| 2 ^ p) := by rw [eI1, xw_ups, xb_shl p (by omega), xb_or]
      have hIj : ∀ j, j ≠ 3 → I1 j = I j := fun j hj => by rw [eI1, xw_upn hj]
      -- the loop
      refine xl_up (fun i Fs => k (nI i) I1 Fs G) oc (fun i Fs => (∀ q, q < 5 → ps.testBit q = true → q ≠ p → Fs 5 q = nI (if (xa_om st i).testBit q then hd q ||| 2 ^ p else hd q)) ∧ Fs 5 p = nI 0 ∧ Fs 6 p = nI (xa_om st i) ∧ (∀ q, q < 5 → ps.testBit q = true → q ≠ p → Fs 6 q = nI (hb q)) ∧ (∀ j, j ≠ 5 → j ≠ 6 → Fs j = F4 j)) ?_ ?_ 0 F4 (by omega) ?_
      · intro i Fs hi hv ih
        obtain ⟨v1, v2, v3, v4, v5⟩ := hv
        apply hk
        unfold bd_X4_takeOpening_69
        refine ⟨fun c => absurd (by rw [hI6] at c; exact (xn_le (by omega) (by omega)).mp c) (by omega), fun _ => ?_⟩
        have hi5 : i < 5 := by omega
        refine ⟨vp_in_nI hi5 (by omega), fun v ev => ?_⟩
        have hF9 : ∀ j, F4 9 j = F 9 j := fun j => by rw [eF4, xw_upn (by decide), eF3, xw_upn (by decide), eF2, xw_upn (by decide), eF1, xw_upn (by decide)]
        have hsti := o6 i hi
        have ev : v = nI (st i) := by rw [ev, nI_clamp (by omega), v5 9 (by decide) (by decide), hF9, e9 i hi]
        subst ev
        refine ⟨vp_in_nI hsti.1 (by omega), fun w ew => ⟨vp_in_nI hsti.1 (by omega), fun F5 eF5 => ⟨hin, fun x ex => ⟨vp_in_nI hi5 (by omega), fun y ey => ⟨hin, fun F6 eF6 u eu => ?_⟩⟩⟩⟩⟩
        rw [nI_clamp (by omega)] at ew eF5
        rw [hcp] at ex eF6
        have hq := hst i hi
        have ew : w = nI (hd (st i)) := by
          rw [ew, v1 (st i) hsti.1 hsti.2 hq]
          have : (xa_om st i).testBit (st i) = false := by
            cases hz : (xa_om st i).testBit (st i)
            · rfl
            · obtain ⟨j, hj, hz2⟩ := (xa_om_bit st (st i) i).mp hz
              have := o7 j i (by omega) hi hz2
              omega
          rw [this]; rfl
        have ex : x = nI (xa_om st i) := by rw [ex, eF5, xw_upn (by decide), v3]
        have ey : y = nI (st i) := by rw [ey, nI_clamp (by omega), eF5, xw_upn (by decide), v5 9 (by decide) (by decide), hF9, e9 i hi]
        subst ew ex ey
        rw [xb_shl p (by omega), xb_or] at eF5
        rw [xb_shl (st i) (by omega), xb_or] at eF6
        rw [eu, nI_1]
        apply ih
        refine ⟨?_, ?_, ?_, ?_, ?_⟩
        · intro q hq5 hqb hqp
          rw [eF6, xw_upn (by decide), eF5, xw_ups, xb_updi]
          by_cases hqs : q = st i
          · subst hqs
            rw [if_pos rfl]
            have : (xa_om st (i + 1)).testBit (st i) = true := (xa_om_bit st _ _).mpr ⟨i, by omega, rfl⟩
            rw [this]; rfl
          · rw [if_neg hqs, v1 q hq5 hqb hqp, xa_om, xa_bit_or]
            simp [Ne.symm hqs]
        · rw [eF6, xw_upn (by decide), eF5, xw_ups, xb_updi, if_neg (Ne.symm hq), v2]
        · rw [eF6, xw_ups, xb_updi, if_pos rfl]; rfl
        · intro q hq5 hqb hqp
          rw [eF6, xw_ups, xb_updi, if_neg hqp, eF5, xw_upn (by decide), v4 q hq5 hqb hqp]
        · intro j hj5 hj6
          rw [eF6, xw_upn hj6, eF5, xw_upn hj5, v5 j hj5 hj6]
      · intro Fs hv
        obtain ⟨v1, v2, v3, v4, v5⟩ := hv
        apply hk
        unfold bd_X4_takeOpening_69
        refine ⟨fun _ => ?_, fun c => absurd (by rw [hI6]; exact (xn_le (by omega) (by omega)).mpr (Nat.le_refl _)) c⟩
        rw [hI6]
        refine ⟨vp_in_nI (by omega) (by omega), fun F5 eF5 I2 eI2 => ?_⟩
        rw [nI_clamp (by omega)] at eF5
        rw [nI_1] at eI2
        have hF : ∀ j, j ≠ 3 → j ≠ 4 → j ≠ 5 → j ≠ 6 → F4 j = F j := fun j a b c d => by rw [eF4, xw_upn d, eF3, xw_upn c, eF2, xw_upn b, eF1, xw_upn a]
        apply h1 hb0
        · refine ⟨?_, ?_, ?_, ?_, ?_, ?_, ?_, ?_, ?_⟩
          · rw [eI2, xw_upn (by decide)]; exact hI2
          · rw [eI2, xw_upn (by decide)]; exact hI3
          · rw [eI2, xw_upn (by decide), hIj 4 (by decide)]; exact e3
          · rw [eI2, xw_upn (by decide), hIj 5 (by decide)]; exact e4
          · rw [eI2, xw_ups]
          · intro q hq5 hqb
            rw [xa_bit_or] at hqb
            by_cases hqp : q = p
            · subst hqp
              refine ⟨?_, ?_, ?_, ?_⟩
              · rw [eF5, xw_upn (by decide), v5 3 (by decide) (by decide), eF4, xw_upn (by decide), eF3, xw_upn (by decide), eF2, xw_upn (by decide), eF1, xw_ups, xb_updi, if_pos rfl, xa_us, hI2]
              · rw [eF5, xw_upn (by decide), v5 4 (by decide) (by decide), eF4, xw_upn (by decide), eF3, xw_upn (by decide), eF2, xw_ups, xb_updi, if_pos rfl, xa_us, hI2]
              · rw [eF5, xw_upn (by decide), v2]; simp only [if_pos]
              · rw [eF5, xw_upn (by decide), v3, xa_us]
            · have hqb : ps.testBit q = true := by simpa [Ne.symm hqp] using hqb
              obtain ⟨a1, a2, a3, a4⟩ := e6 q hq5 hqb
              refine ⟨?_, ?_, ?_, ?_⟩
              · rw [eF5, xw_upn (by decide), v5 3 (by decide) (by decide), eF4, xw_upn (by decide), eF3, xw_upn (by decide), eF2, xw_upn (by decide), eF1, xw_ups, xb_updi, if_neg hqp, xa_un hqp, a1]
              · rw [eF5, xw_upn (by decide), v5 4 (by decide) (by decide), eF4, xw_upn (by decide), eF3, xw_upn (by decide), eF2, xw_ups, xb_updi, if_neg hqp, xa_un hqp, eF1, xw_upn (by decide), a2]
              · rw [eF5, xw_upn (by decide), v1 q hq5 hqb hqp]; simp only [if_neg hqp]
              · rw [eF5, xw_upn (by decide), v4 q hq5 hqb hqp, xa_un hqp]
          · intro m hm hmb
            rw [eF5, xw_upn (by decide), v5 7 (by decide) (by decide), hF 7 (by decide) (by decide) (by decide) (by decide)]; exact e7 m hm hmb
          · intro i hi
            rw [eF5, xw_upn (by decide), v5 8 (by decide) (by decide), hF 8 (by decide) (by decide) (by decide) (by decide)]; exact e8 i hi
          · intro i hi
            rw [eF5, xw_ups, xb_updi]
            by_cases hio : i = oc
            · subst hio; rw [if_pos rfl, xa_us]
            · rw [if_neg hio, xa_un hio, v5 9 (by decide) (by decide), hF 9 (by decide) (by decide) (by decide) (by decide)]; exact e9 i (by omega)
        · refine ⟨fun j hj => ?_, fun j hj => ?_⟩
          · rw [eI2, xw_upn (by omega), hIj j (by omega)]
          · rw [eF5, xw_upn (by omega), v5 j (by omega) (by omega), hF j (by omega) (by omega) (by omega) (by omega)]
      · refine ⟨?_, ?_, ?_, ?_, fun _ _ _ => rfl⟩
        · intro q hq5 hqb hqp
          rw [eF4, xw_upn (by decide), eF3, xw_ups, xb_updi, if_neg hqp, eF2, xw_upn (by decide), eF1, xw_upn (by decide), (e6 q hq5 hqb).2.2.1]
          simp [xa_om]
        · rw [eF4, xw_upn (by decide), eF3, xw_ups, xb_updi, if_pos rfl]; rfl
        · rw [eF4, xw_ups, xb_updi, if_pos rfl]; rfl
        · intro q hq5 hqb hqp
          rw [eF4, xw_ups, xb_updi, if_neg hqp, eF3, xw_upn (by decide), eF2, xw_upn (by decide), eF1, xw_upn (by decide), (e6 q hq5 hqb).2.2.2]
    · exfalso
      apply c
      obtain ⟨g1, g2, g3⟩ := xa_pop_new ps o2 p hp hb0
      rw [e5]
      exact (xn_lt (b := 5) (by omega) (by omega)).mpr (by omega)
  · intro hb1
    exact ⟨fun _ => h0 hb1, fun c => absurd c (by decide)⟩
theorem xs_take {s : Nat} {A : xa_R} {I : xw_I} {F : xw_F} {G : xw_G} {post : Int32 → xw_I → xw_F → xw_G → Prop} (hs : s < 127) (hok : xa_ok A) (hE : xe_P I F A)
    (h0 : xa_step A s = none → post 0 I F G) (h1 : ∀ A' I1 F1, xa_step A s = some A' → xe_P I1 F1 A' → xe_fr I I1 F F1 → post 1 I1 F1 G) : sm_X4_take (nI s) I F G post := by
  obtain ⟨n, ps, mb, mc, oc, op, cl, hd, hb, mg, mr, st, rk⟩ := A
  intro k32 k53 r32 r53
  have hok' := hok
  have hE' := hE
  obtain ⟨o1, o2, o3, o4, o5, o6, o7, o8, o9, o10, o11, o12, o13, o14⟩ := hok'
  obtain ⟨e1, e2, e3, e4, e5, e6, e7, e8, e9⟩ := hE'
  unfold bd_X4_take_0
  unfold xa_step at h0 h1
  dsimp only at h0 h1
  have hlt : ∀ c : Nat, c < 127 → (nI s < nI c ↔ s < c) := fun c hc => xn_lt (by omega) (by omega)
  have hle : ∀ c : Nat, c < 127 → (nI c ≤ nI s ↔ c ≤ s) := fun c hc => xn_le (by omega) (by omega)
  refine ⟨fun c46 => ?_, fun c46 => ?_⟩
  · have c46 : s ≠ 46 := fun z => c46 (by rw [z]; rfl)
    rw [if_neg c46] at h0 h1
    -- marks
    have hmark : ¬ (65 ≤ s ∧ s < 70) → ¬ (97 ≤ s ∧ s < 102) → k53 I F G := by
      intro n1 n2
      rw [if_neg n1, if_neg n2] at h0 h1
      apply r53
      unfold bd_X4_take_53
      refine ⟨fun c => ?_, fun c => ⟨fun c2 => ?_, fun c2 => ?_⟩⟩
      · have c : s < 120 := (hlt 120 (by omega)).mp c
        rw [if_neg (by omega)] at h0; exact h0 rfl
      · have c2 : 123 ≤ s := (hle 123 (by omega)).mp c2
        rw [if_neg (by omega)] at h0; exact h0 rfl
      · have c : 120 ≤ s := Nat.not_lt.mp (fun z => c ((hlt 120 (by omega)).mpr z))
        have c2 : s < 123 := Nat.not_le.mp (fun z => c2 ((hle 123 (by omega)).mpr z))
        rw [if_pos ⟨c, c2⟩] at h0 h1
        rw [show (120 : Int32) = nI 120 from rfl, xn_sub c]
        obtain ⟨p, hp⟩ : ∃ p, p = s - 120 := ⟨_, rfl⟩
        rw [← hp] at h0 h1 ⊢
        have hp3 : p < 3 := by omega
        unfold sm_X4_takeMark
        rw [e3]
        refine xs_has (by omega) (by omega) (fun hb0 => ?_) (fun hb1 => ?_)
        · obtain ⟨g1, g2, g3⟩ := xa_pop_new3 mb o3 p hp3 hb0
          refine ⟨fun c => absurd rfl c, fun _ => ⟨fun _ => ?_, fun c => ?_⟩⟩
          · intro I1 eI1
            have hin : vp_in (nI p) 3 := vp_in_nI hp3 (by omega)
            have hI5 : I1 5 = nI mc := by rw [eI1, xw_upn (by decide)]; exact e4
            have hI2 : I1 2 = nI n := by rw [eI1, xw_upn (by decide)]; exact e1
            refine ⟨hin, fun F1 eF1 => ?_⟩
            rw [hI5]
            refine ⟨vp_in_nI (by omega) (by omega), fun F2 eF2 I2 eI2 => ⟨xe_1, ?_⟩⟩
            rw [nI_clamp (by omega), hI2] at eF1
            rw [nI_clamp (by omega)] at eF2
            rw [xb_shl p (by omega), xb_or] at eI1
            rw [nI_1] at eI2
            refine h1 _ I2 F2 (by rw [hb0]; rfl) ?_ ?_
            · refine ⟨?_, ?_, ?_, ?_, ?_, ?_, ?_, ?_, ?_⟩
              · rw [eI2, xw_upn (by decide)]; exact hI2
              · rw [eI2, xw_upn (by decide), eI1, xw_upn (by decide)]; exact e2
              · rw [eI2, xw_upn (by decide), eI1, xw_ups]
              · rw [eI2, xw_ups]
              · rw [eI2, xw_upn (by decide), eI1, xw_upn (by decide)]; exact e5
              · intro q hq hqb
                rw [eF2, xw_upn (by decide), xw_upn (by decide), xw_upn (by decide), xw_upn (by decide), eF1, xw_upn (by decide), xw_upn (by decide), xw_upn (by decide), xw_upn (by decide)]
                exact e6 q hq hqb
              · intro m hm hmb
                rw [xa_bit_or] at hmb
                rw [eF2, xw_upn (by decide), eF1, xw_ups, xb_updi]
                by_cases hmp : m = p
                · subst hmp; rw [if_pos rfl, xa_us]
                · rw [if_neg hmp, xa_un hmp]; exact e7 m hm (by simpa [Ne.symm hmp] using hmb)
              · intro i hi
                rw [eF2, xw_ups, xb_updi]
                by_cases him : i = mc
                · subst him; rw [if_pos rfl, xa_us]
                · rw [if_neg him, xa_un him, eF1, xw_upn (by decide)]; exact e8 i (by omega)
              · intro i hi
                rw [eF2, xw_upn (by decide), eF1, xw_upn (by decide)]; exact e9 i hi
            · exact ⟨fun j hj => by rw [eI2, xw_upn (by omega), eI1, xw_upn (by omega)], fun j hj => by rw [eF2, xw_upn (by omega), eF1, xw_upn (by omega)]⟩
          · exact absurd (by rw [e4]; exact (xn_lt (b := 3) (by omega) (by omega)).mpr (by omega)) c
        · rw [hb1] at h0
          exact ⟨fun _ => ⟨xe_0, h0 rfl⟩, fun c => absurd c (by decide)⟩
    have hclose : ¬ (65 ≤ s ∧ s < 70) → k32 I F G := by
      intro n1
      apply r32
      unfold bd_X4_take_32
      refine ⟨fun c => hmark n1 (fun z => by have := (hlt 97 (by omega)).mp c; omega), fun c => ⟨fun c2 => hmark n1 (fun z => by have := (hle 102 (by omega)).mp c2; omega), fun c2 => ?_⟩⟩
      have c : 97 ≤ s := Nat.not_lt.mp (fun z => c ((hlt 97 (by omega)).mpr z))
      have c2 : s < 102 := Nat.not_le.mp (fun z => c2 ((hle 102 (by omega)).mpr z))
      rw [if_neg n1, if_pos ⟨c, c2⟩] at h0 h1
      rw [show (97 : Int32) = nI 97 from rfl, xn_sub c]
      obtain ⟨p, hp⟩ : ∃ p, p = s - 97 := ⟨_, rfl⟩
      rw [← hp] at h0 h1 ⊢
      have hp5 : p < 5 := by omega
      have hoc : oc ≤ 5 := by
        have := Nat.le_trans o5 (show xa_pop ps ≤ 5 by unfold xa_pop; have := fun b : Bool => (by cases b <;> decide : b.toNat ≤ 1); have := this (ps.testBit 0); have := (by cases ps.testBit 1 <;> decide : (ps.testBit 1).toNat ≤ 1); have := (by cases ps.testBit 2 <;> decide : (ps.testBit 2).toNat ≤ 1); have := (by cases ps.testBit 3 <;> decide : (ps.testBit 3).toNat ≤ 1); have := (by cases ps.testBit 4 <;> decide : (ps.testBit 4).toNat ≤ 1); omega)
        exact this
      unfold sm_X4_takeClosing
      rw [e5]
      refine ⟨fun c => ?_, fun c => ?_⟩
      · have c : oc < 1 := (xn_lt (b := 1) (by omega) (by omega)).mp c
        rw [if_neg (by omega)] at h0; exact ⟨xe_0, h0 rfl⟩
      · have c : 0 < oc := Nat.not_le.mp (fun z => c ((xn_lt (b := 1) (by omega) (by omega)).mpr (by omega)))
        rw [show (1 : Int32) = nI 1 from rfl, xn_sub (show 1 ≤ oc from c)]
        refine ⟨vp_in_nI (by omega) (by omega), fun v ev => ?_⟩
        rw [nI_clamp (by omega), e9 (oc - 1) (by omega)] at ev
        have hst5 := (o6 (oc - 1) (by omega)).1
        subst ev
        refine ⟨fun z => ?_, fun z => ?_⟩
        · have z : st (oc - 1) = p := (xn_eq (by omega) (by omega)).mp z
          rw [if_pos ⟨c, z⟩] at h1
          intro I1 eI1
          refine ⟨vp_in_nI hp5 (by omega), fun F1 eF1 => ⟨xe_1, ?_⟩⟩
          have hI2 : I1 2 = nI n := by rw [eI1, xw_upn (by decide)]; exact e1
          rw [nI_clamp (by omega), hI2] at eF1
          refine h1 _ I1 F1 rfl ?_ ?_
          · refine ⟨hI2, ?_, ?_, ?_, ?_, ?_, ?_, ?_, ?_⟩
            · rw [eI1, xw_upn (by decide)]; exact e2
            · rw [eI1, xw_upn (by decide)]; exact e3
            · rw [eI1, xw_upn (by decide)]; exact e4
            · rw [eI1, xw_ups]
            · intro q hq hqb
              obtain ⟨a1, a2, a3, a4⟩ := e6 q hq hqb
              rw [eF1, xw_upn (by decide), xw_ups, xw_upn (by decide), xw_upn (by decide), xb_updi]
              refine ⟨a1, ?_, a3, a4⟩
              by_cases hqp : q = p
              · subst hqp; rw [if_pos rfl, xa_us]
              · rw [if_neg hqp, xa_un hqp, a2]
            · intro m hm hmb; rw [eF1, xw_upn (by decide)]; exact e7 m hm hmb
            · intro i hi; rw [eF1, xw_upn (by decide)]; exact e8 i hi
            · intro i hi; rw [eF1, xw_upn (by decide)]; exact e9 i (by omega)
          · exact ⟨fun j hj => by rw [eI1, xw_upn (by omega)], fun j hj => by rw [eF1, xw_upn (by omega)]⟩
        · rw [if_neg (fun y => z (by rw [y.2]))] at h0; exact ⟨xe_0, h0 rfl⟩
    refine ⟨fun c => hclose (fun z => by have := (hlt 65 (by omega)).mp c; omega), fun c => ⟨fun c2 => hclose (fun z => by have := (hle 70 (by omega)).mp c2; omega), fun c2 => ?_⟩⟩
    have c : 65 ≤ s := Nat.not_lt.mp (fun z => c ((hlt 65 (by omega)).mpr z))
    have c2 : s < 70 := Nat.not_le.mp (fun z => c2 ((hle 70 (by omega)).mpr z))
    rw [if_pos ⟨c, c2⟩] at h0 h1
    rw [show (65 : Int32) = nI 65 from rfl, xn_sub c]
    obtain ⟨p, hp⟩ : ∃ p, p = s - 65 := ⟨_, rfl⟩
    rw [← hp] at h0 h1 ⊢
    refine xs_open (by omega) hok hE (fun hb1 => ?_) (fun hb0 I1 F1 hE1 hfr => ?_)
    · rw [hb1] at h0; exact ⟨xe_0, h0 rfl⟩
    · exact ⟨xe_1, h1 _ I1 F1 (by rw [hb0]; rfl) hE1 hfr⟩
  · have c46 : s = 46 := (xn_eq (b := 46) (by omega) (by omega)).mp c46
    rw [if_pos c46] at h0 h1
    unfold sm_X4_takeWord
    rw [e1]
    refine ⟨fun c => ?_, fun c => ?_⟩
    · have c : n < 12 := (xn_lt (b := 12) (by omega) (by omega)).mp c
      intro I1 eI1
      rw [if_pos c] at h1
      rw [nI_1] at eI1
      refine ⟨xe_1, h1 _ I1 F rfl ⟨?_, ?_, ?_, ?_, ?_, e6, e7, e8, e9⟩ ⟨fun j hj => by rw [eI1, xw_upn (by omega)], fun _ _ => rfl⟩⟩
      · rw [eI1, xw_ups]
      · rw [eI1, xw_upn (by decide)]; exact e2
      · rw [eI1, xw_upn (by decide)]; exact e3
      · rw [eI1, xw_upn (by decide)]; exact e4
      · rw [eI1, xw_upn (by decide)]; exact e5
    · rw [if_neg (fun z => c ((xn_lt (b := 12) (by omega) (by omega)).mpr z))] at h0
      exact ⟨xe_0, h0 rfl⟩
end
section
/-! ===== read, fault, load: both sides ===== -/
def xa_oc (A : xa_R) : Nat := A.2.2.2.2.1
def xa_res (sg : Nat → Nat) (c : Nat) : Int32 := match xa_go sg c 0 xa_0 with
  | .inl k => nI k
  | .inr A => if xa_oc A = 0 then -6 else nI c
theorem xa_go_ok {sg : Nat → Nat} : ∀ (d k : Nat) (A B : xa_R), xa_ok A → xa_go sg d k A = .inr B → xa_ok B
  | 0, k, A, B, h, e => by cases e; exact h
  | d + 1, k, A, B, h, e => by
    rw [xa_go] at e
    split at e
    · cases e
    · rename_i A' hs
      exact xa_go_ok d (k + 1) A' B (xa_step_ok h hs) e
theorem xa_go_lt {sg : Nat → Nat} : ∀ (d k : Nat) (A : xa_R) (j : Nat), xa_go sg d k A = .inl j → j < k + d
  | 0, k, A, j, e => by cases e
  | d + 1, k, A, j, e => by
    rw [xa_go] at e
    split at e
    · cases e; omega
    · rename_i A' hs
      have := xa_go_lt d (k + 1) A' j e
      omega
theorem xa_oc_le {A : xa_R} (h : xa_ok A) : xa_oc A ≤ 5 := by
  obtain ⟨n, ps, mb, mc, oc, op, cl, hd, hb, mg, mr, st, rk⟩ := A
  have o5 : oc ≤ xa_pop ps := h.2.2.2.2.1
  have o2 : ps < 32 := h.2.1
  have : ∀ s, s < 32 → xa_pop s ≤ 5 := by decide +kernel
  have := this ps o2
  show oc ≤ 5
  omega
theorem xs_read {c : Nat} {sg : Nat → Nat} {I : xw_I} {F : xw_F} {G : xw_G} {post : Int32 → xw_I → xw_F → xw_G → Prop} (hc : c ≤ 30) (hI : I 1 = nI c) (hF : ∀ i, i < c → F 10 i = nI (sg i)) (hsg : ∀ i, i < c → sg i < 127)
    (h : ∀ I1 F1, xe_fr I I1 F F1 → (∀ A, xa_go sg c 0 xa_0 = .inr A → xe_P I1 F1 A) → post (xa_res sg c) I1 F1 G) : sm_X1_read I F G post := by
  intro k9 k47 r9 r47
  have key : ∀ (d k : Nat) (A : xa_R) (I1 : xw_I) (F1 : xw_F), k + d = c → xa_ok A → xe_P I1 F1 A → xe_fr I I1 F F1 → xa_go sg d k A = xa_go sg c 0 xa_0 → k9 (nI k) I1 F1 G := by
    intro d
    induction d with
    | zero =>
      intro k A I1 F1 hk hok hE hfr hgo
      have hI1 : I1 1 = nI c := (hfr.1 1 (by omega)).trans hI
      apply r9
      unfold bd_X1_read_9
      have hkc : k = c := by omega
      subst hkc
      have hgo : xa_go sg k 0 xa_0 = .inr A := hgo.symm
      have h47 : k47 I1 F1 G := by
        apply r47
        unfold bd_X1_read_47
        have hres : xa_res sg k = if xa_oc A = 0 then -6 else nI k := by unfold xa_res; rw [hgo]
        have hp := h I1 F1 hfr (fun B e => by rw [hgo] at e; cases e; exact hE)
        have hoc := xa_oc_le hok
        have h6 : I1 6 = nI (xa_oc A) := by
          obtain ⟨n, ps, mb, mc, oc, op, cl, hd, hb, mg, mr, st, rk⟩ := A
          exact hE.2.2.2.2.1
        rw [hres] at hp
        rw [h6]
        refine ⟨fun q => ?_, fun q => ?_⟩
        · have : xa_oc A ≤ 0 := (xn_le (b := 0) (by omega) (by omega)).mp q
          rw [if_pos (by omega)] at hp; exact hp
        · rw [if_neg (fun z => q (by rw [z]; exact (xn_le (a := 0) (b := 0) (by omega) (by omega)).mpr (by omega)))] at hp
          rw [hI1]; exact hp
      exact ⟨fun _ => h47, fun q => absurd (by rw [hI1]; exact (xn_le (by omega) (by omega)).mpr (Nat.le_refl _)) q⟩
    | succ d ih =>
      intro k A I1 F1 hk hok hE hfr hgo
      have hI1 : I1 1 = nI c := (hfr.1 1 (by omega)).trans hI
      apply r9
      unfold bd_X1_read_9
      rw [hI1]
      refine ⟨fun q => absurd ((xn_le (by omega) (by omega)).mp q) (by omega), fun _ => ⟨fun q => absurd ((xn_le (a := 30) (by omega) (by omega)).mp q) (by omega), fun _ => ?_⟩⟩
      refine ⟨vp_in_nI (by omega) (by omega), fun v ev => ?_⟩
      rw [nI_clamp (by omega), hfr.2 10 (by omega), hF k (by omega)] at ev
      subst ev
      refine xs_take (hsg k (by omega)) hok hE (fun hs => ?_) (fun A' I2 F2 hs hE2 hfr2 => ?_)
      · refine ⟨fun q => absurd rfl q, fun _ => ?_⟩
        have hg : xa_go sg c 0 xa_0 = .inl k := by rw [← hgo, xa_go, hs]
        have hp := h I1 F1 hfr (fun B e => by rw [hg] at e; cases e)
        have hres : xa_res sg c = nI k := by unfold xa_res; rw [hg]
        rw [hres] at hp
        exact hp
      · refine ⟨fun _ => ?_, fun q => absurd q (by decide)⟩
        intro w ew
        rw [ew, nI_1]
        refine ih (k + 1) A' I2 F2 (by omega) (xa_step_ok hok hs) hE2 (hfr.tr hfr2) ?_
        rw [← hgo, xa_go, hs]
  unfold bd_X1_read_0 sm_X4_clear
  intro I1 e1 I2 e2 I3 e3 I4 e4 I5 e5
  refine key c 0 xa_0 I5 F (by omega) xa_ok0 ?_ ?_ rfl
  · refine ⟨?_, ?_, ?_, ?_, ?_, fun p _ hb => ?_, fun m _ hb => ?_, fun i hi => ?_, fun i hi => ?_⟩
    · rw [e5, xw_upn (by decide), e4, xw_upn (by decide), e3, xw_upn (by decide), e2, xw_upn (by decide), e1, xw_ups]; rfl
    · rw [e5, xw_upn (by decide), e4, xw_upn (by decide), e3, xw_upn (by decide), e2, xw_ups]; rfl
    · rw [e5, xw_upn (by decide), e4, xw_upn (by decide), e3, xw_ups]; rfl
    · rw [e5, xw_upn (by decide), e4, xw_ups]; rfl
    · rw [e5, xw_ups]; rfl
    · simp at hb
    · simp at hb
    · omega
    · omega
  · exact ⟨fun j hj => by rw [e5, xw_upn (by omega), e4, xw_upn (by omega), e3, xw_upn (by omega), e2, xw_upn (by omega), e1, xw_upn (by omega)], fun _ _ => rfl⟩
theorem xs_in {s a b : Nat} {post : Int32 → Prop} (hs : s < 2 ^ 31) (ha : a < 2 ^ 31) (hb : b < 2 ^ 31) (h1 : a ≤ s → s ≤ b → post 1) (h0 : ¬ (a ≤ s ∧ s ≤ b) → post 0) : sm_X8_in (nI s) (nI a) (nI b) post := by
  unfold sm_X8_in
  refine ⟨fun q => h0 (fun z => by have := (xn_lt hs ha).mp q; omega), fun q => ⟨fun q2 => h0 (fun z => by have := (xn_lt hb hs).mp q2; omega), fun q2 => h1 ?_ ?_⟩⟩
  · exact Nat.not_lt.mp (fun z => q ((xn_lt hs ha).mpr z))
  · exact Nat.not_lt.mp (fun z => q2 ((xn_lt hb hs).mpr z))
theorem xn_dec {a : Nat} (h : 0 < a) : nI a + (-1) = nI (a - 1) := by
  obtain ⟨b, rfl⟩ : ∃ b, a = b + 1 := ⟨a - 1, by omega⟩
  rw [show b + 1 - 1 = b by omega, ← nI_pred b, Int32.sub_eq_add_neg]
theorem xn_b1 (b : Bool) : (nI b.toNat = 1) ↔ b = true := by cases b <;> decide
theorem xs_fault {c : Nat} {sg : Nat → Nat} {I : xw_I} {F : xw_F} {G : xw_G} {post : Int32 → xw_I → xw_F → xw_G → Prop} (hc : c ≤ 30) (hI : I 3 = nI c) (hF : ∀ i, i < c → F 7 i = nI (sg i)) (hsg : ∀ i, i < c → sg i < 127)
    (h : ∀ F1, (∀ j, j ≠ 8 → F1 j = F j) → post (xa_res sg c) I F1 G) : sm_X8_faultOf I F G post := by
  intro k12 r12
  have key : ∀ (d k n ps mb mc oc : Nat) (op cl hd hb mg mr st rk : Nat → Nat) (F1 : xw_F), k + d = c → xa_ok (n, ps, mb, mc, oc, op, cl, hd, hb, mg, mr, st, rk) → (∀ i, i < oc → F1 8 i = nI (st i)) → (∀ j, j ≠ 8 → F1 j = F j) → xa_go sg d k (n, ps, mb, mc, oc, op, cl, hd, hb, mg, mr, st, rk) = xa_go sg c 0 xa_0 → k12 (nI n) (nI ps) (nI mb) (nI oc) (nI k) I F1 G := by
    intro d
    induction d with
    | zero =>
      intro k n ps mb mc oc op cl hd hb mg mr st rk F1 hk hok hst hfr hgo
      apply r12
      unfold bd_X8_faultOf_12
      have hkc : k = c := by omega
      subst hkc
      have hgo : xa_go sg k 0 xa_0 = .inr _ := hgo.symm
      have hoc : oc ≤ 5 := xa_oc_le hok
      have hres : xa_res sg k = if oc = 0 then -6 else nI k := by unfold xa_res; rw [hgo]; rfl
      have hp := h F1 hfr
      rw [hres] at hp
      rw [hI]
      refine ⟨fun _ => ⟨fun q => ?_, fun q => ?_⟩, fun q => absurd ((xn_le (by omega) (by omega)).mpr (Nat.le_refl _)) q⟩
      · have : oc ≤ 0 := (xn_le (b := 0) (by omega) (by omega)).mp q
        rw [if_pos (by omega)] at hp; exact hp
      · rw [if_neg (fun z => q (by rw [z]; exact (xn_le (a := 0) (b := 0) (by omega) (by omega)).mpr (by omega)))] at hp
        exact hp
    | succ d ih =>
      intro k n ps mb mc oc op cl hd hb mg mr st rk F1 hk hok hst hfr hgo
      have hok' := hok
      obtain ⟨o1, o2, o3, o4, o5, o6, o7, o8, o9, o10, o11, o12, o13, o14⟩ := hok'
      have hoc : oc ≤ 5 := xa_oc_le hok
      apply r12
      unfold bd_X8_faultOf_12
      rw [hI]
      refine ⟨fun q => absurd ((xn_le (by omega) (by omega)).mp q) (by omega), fun _ => ⟨vp_in_nI (by omega) (by omega), fun v ev => ?_⟩⟩
      rw [nI_clamp (by omega), hfr 7 (by decide), hF k (by omega)] at ev
      subst ev
      obtain ⟨s, hs⟩ : ∃ s, s = sg k := ⟨_, rfl⟩
      have hs127 : s < 127 := by rw [hs]; exact hsg k (by omega)
      have hfail : xa_step (n, ps, mb, mc, oc, op, cl, hd, hb, mg, mr, st, rk) s = none → post (nI k) I F1 G := by
        intro hz
        have hg : xa_go sg c 0 xa_0 = .inl k := by rw [← hgo, xa_go, ← hs, hz]
        have hp := h F1 hfr
        have hres : xa_res sg c = nI k := by unfold xa_res; rw [hg]
        rw [hres] at hp
        exact hp
      have hgo2 : ∀ A', xa_step (n, ps, mb, mc, oc, op, cl, hd, hb, mg, mr, st, rk) s = some A' → xa_go sg d (k + 1) A' = xa_go sg c 0 xa_0 := by
        intro A' hz
        rw [← hgo, xa_go, ← hs, hz]
      have hok2 : ∀ A', xa_step (n, ps, mb, mc, oc, op, cl, hd, hb, mg, mr, st, rk) s = some A' → xa_ok A' := fun A' hz => xa_step_ok hok hz
      rw [← hs]
      unfold xa_step at hfail hgo2 hok2
      dsimp only at hfail hgo2 hok2
      refine ⟨fun c46 => ?_, fun c46 => ?_⟩
      · have c46 : s ≠ 46 := fun z => c46 (by rw [z]; rfl)
        rw [if_neg c46] at hfail hgo2 hok2
        refine xs_in (a := 65) (b := 69) (by omega) (by omega) (by omega) (fun a1 a2 => ?_) (fun a0 => ?_)
        · refine ⟨fun q => absurd q (by decide), fun _ => ?_⟩
          rw [if_pos (by omega)] at hfail hgo2 hok2
          rw [show (65 : Int32) = nI 65 from rfl, xn_sub a1]
          obtain ⟨p, hp⟩ : ∃ p, p = s - 65 := ⟨_, rfl⟩
          rw [← hp] at hfail hgo2 hok2 ⊢
          rw [xb_bit (by omega) (by omega), xn_b1]
          refine ⟨fun q => ?_, fun q => ?_⟩
          · have q : ps.testBit p = false := by simpa using q
            rw [q] at hgo2 hok2
            obtain ⟨g1, g2, g3⟩ := xa_pop_new ps o2 p (by omega) q
            intro v ev
            refine ⟨vp_in_nI (by omega) (by omega), fun F2 eF2 w ew u eu => ?_⟩
            rw [ev, ew, eu, nI_1, nI_1, xb_shl p (by omega), xb_or]
            rw [nI_clamp (by omega)] at eF2
            refine ih (k + 1) _ _ _ _ _ _ _ _ _ _ _ _ _ F2 (by omega) (hok2 _ rfl) ?_ ?_ (hgo2 _ rfl)
            · intro i hi
              rw [eF2, xw_ups, xb_updi]
              by_cases hio : i = oc
              · subst hio; rw [if_pos rfl, xa_us]
              · rw [if_neg hio, xa_un hio]; exact hst i (by omega)
            · intro j hj; rw [eF2, xw_upn hj]; exact hfr j hj
          · rw [q] at hfail; exact hfail rfl
        · refine ⟨fun _ => ?_, fun q => absurd rfl q⟩
          rw [if_neg (by omega)] at hfail hgo2 hok2
          refine xs_in (a := 97) (b := 101) (by omega) (by omega) (by omega) (fun a1 a2 => ?_) (fun a02 => ?_)
          · refine ⟨fun q => absurd q (by decide), fun _ => ?_⟩
            rw [if_pos (by omega)] at hfail hgo2 hok2
            rw [show (97 : Int32) = nI 97 from rfl, xn_sub a1]
            obtain ⟨p, hp⟩ : ∃ p, p = s - 97 := ⟨_, rfl⟩
            rw [← hp] at hfail hgo2 hok2 ⊢
            refine ⟨fun q => ?_, fun q => ?_⟩
            · have q : oc = 0 := (xn_eq (b := 0) (by omega) (by omega)).mp q
              rw [if_neg (by omega)] at hfail; exact hfail rfl
            · have q : 0 < oc := Nat.pos_of_ne_zero (fun z => q (by rw [z]; rfl))
              rw [show (1 : Int32) = nI 1 from rfl, xn_sub (show 1 ≤ oc from q)]
              refine ⟨vp_in_nI (by omega) (by omega), fun v ev => ?_⟩
              rw [nI_clamp (by omega), hst (oc - 1) (by omega)] at ev
              have hst5 := (o6 (oc - 1) (by omega)).1
              subst ev
              refine ⟨fun z => ?_, fun z => ?_⟩
              · have z : st (oc - 1) = p := (xn_eq (by omega) (by omega)).mp z
                rw [if_pos ⟨q, z⟩] at hgo2 hok2
                intro w ew u eu
                rw [ew, eu, ← show (1 : Int32) = nI 1 from rfl, nI_1, xn_dec q]
                exact ih (k + 1) _ _ _ _ _ _ _ _ _ _ _ _ _ F1 (by omega) (hok2 _ rfl) (fun i hi => hst i (by omega)) hfr (hgo2 _ rfl)
              · rw [if_neg (fun y => z (by rw [y.2]))] at hfail; exact hfail rfl
          · refine ⟨fun _ => ?_, fun q => absurd rfl q⟩
            rw [if_neg (by omega)] at hfail hgo2 hok2
            refine xs_in (a := 120) (b := 122) (by omega) (by omega) (by omega) (fun a1 a2 => ?_) (fun a03 => ?_)
            · refine ⟨fun q => absurd q (by decide), fun _ => ?_⟩
              rw [if_pos (by omega)] at hfail hgo2 hok2
              rw [show (120 : Int32) = nI 120 from rfl, xn_sub a1]
              obtain ⟨p, hp⟩ : ∃ p, p = s - 120 := ⟨_, rfl⟩
              rw [← hp] at hfail hgo2 hok2 ⊢
              rw [xb_bit (by omega) (by omega), xn_b1]
              refine ⟨fun q => ?_, fun q => ?_⟩
              · have q : mb.testBit p = false := by simpa using q
                rw [q] at hgo2 hok2
                intro v ev u eu
                rw [ev, eu, nI_1, xb_shl p (by omega), xb_or]
                exact ih (k + 1) _ _ _ _ _ _ _ _ _ _ _ _ _ F1 (by omega) (hok2 _ rfl) hst hfr (hgo2 _ rfl)
              · rw [q] at hfail; exact hfail rfl
            · refine ⟨fun _ => ?_, fun q => absurd rfl q⟩
              rw [if_neg (by omega)] at hfail; exact hfail rfl
      · have c46 : s = 46 := (xn_eq (b := 46) (by omega) (by omega)).mp c46
        rw [if_pos c46] at hfail hgo2 hok2
        refine ⟨fun q => ?_, fun q => ?_⟩
        · have q : n < 12 := Nat.lt_of_le_of_ne o1 (fun z => q (by rw [z]; rfl))
          rw [if_pos q] at hgo2 hok2
          intro v ev u eu
          rw [ev, eu, nI_1, nI_1]
          exact ih (k + 1) _ _ _ _ _ _ _ _ _ _ _ _ _ F1 (by omega) (hok2 _ rfl) hst hfr (hgo2 _ rfl)
        · have q : n = 12 := (xn_eq (b := 12) (by omega) (by omega)).mp q
          rw [if_neg (by omega)] at hfail; exact hfail rfl
  exact key c 0 0 0 0 0 0 _ _ _ _ _ _ _ _ F (by omega) xa_ok0 (fun i hi => by omega) (fun _ _ => rfl) rfl
end
section
/-! ===== load of the reference ===== -/
/-- the reference holds the source A -/
def xe_M (I : xw_I) (F : xw_F) : xa_R → Prop
  | (n, ps, mb, mc, _, op, cl, hd, _, mg, mr, _, _) => I 0 = nI n ∧ I 1 = nI mc ∧
    (∀ p, p < 5 → ps.testBit p = true → F 1 p = nI (op p) ∧ F 2 p = nI (cl p) ∧ F 3 p = nI (hd p)) ∧
    (∀ p, p < 5 → ps.testBit p = false → F 1 p = -6 ∧ F 3 p = 0) ∧
    (∀ m, m < 3 → mb.testBit m = true → F 4 m = nI (mg m)) ∧ (∀ m, m < 3 → mb.testBit m = false → F 4 m = -6) ∧ (∀ i, i < mc → F 5 i = nI (mr i))
/-- while it is read: what closes is not there yet for what is open -/
def xe_L (I : xw_I) (F : xw_F) : xa_R → Prop
  | (n, ps, mb, mc, oc, op, cl, hd, _, mg, mr, st, _) => I 0 = nI n ∧ I 1 = nI mc ∧
    (∀ p, p < 5 → ps.testBit p = true → F 1 p = nI (op p) ∧ F 3 p = nI (hd p)) ∧
    (∀ p, p < 5 → ps.testBit p = true → (xa_om st oc).testBit p = false → F 2 p = nI (cl p)) ∧
    (∀ p, p < 5 → ps.testBit p = false → F 1 p = -6 ∧ F 3 p = 0) ∧
    (∀ m, m < 3 → mb.testBit m = true → F 4 m = nI (mg m)) ∧ (∀ m, m < 3 → mb.testBit m = false → F 4 m = -6) ∧ (∀ i, i < mc → F 5 i = nI (mr i))
theorem xn_clr : ∀ s, s < 32 → ∀ p, p < 5 → s.testBit p = false → nI (s ||| 2 ^ p) &&& (nI (2 ^ p) ^^^ (-1)) = nI s := by decide +kernel
/-- what load of the reference leaves as it is -/
def xe_fm (I I1 : xw_I) (F F1 : xw_F) : Prop := (∀ j, j ≠ 0 → j ≠ 1 → I1 j = I j) ∧ ∀ j, (j = 0 ∨ 5 < j) → F1 j = F j
theorem xe_fm.tr {I I1 I2 : xw_I} {F F1 F2 : xw_F} (h : xe_fm I I1 F F1) (h2 : xe_fm I1 I2 F1 F2) : xe_fm I I2 F F2 := ⟨fun j a b => (h2.1 j a b).trans (h.1 j a b), fun j q => (h2.2 j q).trans (h.2 j q)⟩
theorem xs_mload {c : Nat} {sg : Nat → Nat} {I : xw_I} {F : xw_F} {G : xw_G} {post : Int32 → xw_I → xw_F → xw_G → Prop} (hc : c ≤ 30) (hI : I 3 = nI c) (hF : ∀ i, i < c → F 7 i = nI (sg i)) (hsg : ∀ i, i < c → sg i < 127)
    (hno : xa_res sg c ≠ -6 → ∀ F1, (∀ j, j ≠ 8 → F1 j = F j) → post (-5) I F1 G)
    (hyes : ∀ A, xa_go sg c 0 xa_0 = .inr A → xa_oc A = 0 → ∀ I1 F1, xe_M I1 F1 A → (∀ w, w < 12 → F1 6 w = 0) → I1 3 = 0 → (∀ j, j ≠ 0 → j ≠ 1 → j ≠ 3 → I1 j = I j) → (∀ j, (j = 0 ∨ 8 < j ∨ j = 7) → F1 j = F j) → post (I1 0) I1 F1 G) : sm_X8_load I F G post := by
  intro k22 k50 k73 k121 k155 r22 r50 r73 r121 r155
  have hneg : ∀ k : Nat, k ≤ 30 → ¬ nI k < 0 := fun k hk => nI_pos (by omega)
  unfold bd_X8_load_0
  refine xs_fault hc hI hF hsg (fun F0 hF0 => ⟨fun q => ?_, fun q => ?_⟩)
  · -- no fault
    obtain ⟨A, hA, hoc⟩ : ∃ A, xa_go sg c 0 xa_0 = .inr A ∧ xa_oc A = 0 := by
      unfold xa_res at q
      cases hg : xa_go sg c 0 xa_0 with
      | inl k =>
        rw [hg] at q
        have := xa_go_lt c 0 xa_0 k hg
        exact absurd q (hneg k (by omega))
      | inr A =>
        rw [hg] at q
        dsimp only at q
        by_cases hz : xa_oc A = 0
        · exact ⟨A, rfl, hz⟩
        · rw [if_neg hz] at q; exact absurd q (hneg c hc)
    intro I1 eI1 I2 eI2
    have hokA := xa_go_ok c 0 xa_0 A xa_ok0 hA
    -- the run over the signs
    have key : ∀ (d k n ps mb mc oc : Nat) (op cl hd hb mg mr st rk : Nat → Nat) (J : xw_I) (F1 : xw_F), k + d = c → xa_ok (n, ps, mb, mc, oc, op, cl, hd, hb, mg, mr, st, rk) → xe_L J F1 (n, ps, mb, mc, oc, op, cl, hd, hb, mg, mr, st, rk) → xe_fm I J F0 F1 → xa_go sg d k (n, ps, mb, mc, oc, op, cl, hd, hb, mg, mr, st, rk) = .inr A → k73 (nI (xa_om st oc)) (nI k) J F1 G := by
      intro d
      induction d with
      | zero =>
        intro k n ps mb mc oc op cl hd hb mg mr st rk J F1 hk hok hL hfr hgo
        cases hgo
        have hoc : oc = 0 := hoc
        subst hoc
        have hJ3 : J 3 = nI c := (hfr.1 3 (by decide) (by decide)).trans hI
        apply r73
        unfold bd_X8_load_73
        rw [hJ3]
        refine ⟨fun _ => ?_, fun z => absurd ((xn_le (by omega) (by omega)).mpr (by omega)) z⟩
        refine xs_unlink (fun F2 hz hj => ?_)
        intro J2 eJ2
        obtain ⟨l1, l2, l3, l4, l5, l6, l7, l8⟩ := hL
        refine hyes _ hA rfl J2 F2 ?_ hz ?_ ?_ ?_
        · refine ⟨?_, ?_, ?_, ?_, ?_, ?_, ?_⟩
          · rw [eJ2, xw_upn (by decide)]; exact l1
          · rw [eJ2, xw_upn (by decide)]; exact l2
          · intro p hp hpb
            rw [hj 1 (by decide), hj 2 (by decide), hj 3 (by decide)]
            exact ⟨(l3 p hp hpb).1, l4 p hp hpb (by simp [xa_om]), (l3 p hp hpb).2⟩
          · intro p hp hpb
            rw [hj 1 (by decide), hj 3 (by decide)]; exact l5 p hp hpb
          · intro m hm hmb; rw [hj 4 (by decide)]; exact l6 m hm hmb
          · intro m hm hmb; rw [hj 4 (by decide)]; exact l7 m hm hmb
          · intro i hi; rw [hj 5 (by decide)]; exact l8 i hi
        · rw [eJ2, xw_ups]
        · intro j a b cc; rw [eJ2, xw_upn cc]; exact hfr.1 j a b
        · intro j hjj
          rw [hj j (by omega), hfr.2 j (by omega), hF0 j (by omega)]
      | succ d ih =>
        intro k n ps mb mc oc op cl hd hb mg mr st rk J F1 hk hok hL hfr hgo
        have hok' := hok
        obtain ⟨o1, o2, o3, o4, o5, o6, o7, o8, o9, o10, o11, o12, o13, o14⟩ := hok'
        obtain ⟨l1, l2, l3, l4, l5, l6, l7, l8⟩ := hL
        have hJ3 : J 3 = nI c := (hfr.1 3 (by decide) (by decide)).trans hI
        have hoc5 : oc ≤ 5 := xa_oc_le hok
        have homlt : xa_om st oc < 32 := xa_om_lt st oc (fun i hi => (o6 i hi).1)
        apply r73
        unfold bd_X8_load_73
        rw [hJ3]
        refine ⟨fun z => absurd ((xn_le (by omega) (by omega)).mp z) (by omega), fun _ => ⟨vp_in_nI (by omega) (by omega), fun v ev => ?_⟩⟩
        rw [nI_clamp (by omega), hfr.2 7 (by omega), hF0 7 (by decide), hF k (by omega)] at ev
        subst ev
        obtain ⟨s, hs⟩ : ∃ s, s = sg k := ⟨_, rfl⟩
        have hs127 : s < 127 := by rw [hs]; exact hsg k (by omega)
        rw [xa_go, ← hs] at hgo
        rw [← hs]
        cases hst : xa_step (n, ps, mb, mc, oc, op, cl, hd, hb, mg, mr, st, rk) s with
        | none => rw [hst] at hgo; cases hgo
        | some A' =>
        rw [hst] at hgo
        dsimp only at hgo
        have hok2 := xa_step_ok hok hst
        unfold xa_step at hst
        dsimp only at hst
        refine ⟨fun c46 => ?_, fun c46 => ?_⟩
        · have c46 : s ≠ 46 := fun z => c46 (by rw [z]; rfl)
          rw [if_neg c46] at hst
          refine xs_in (a := 65) (b := 69) (by omega) (by omega) (by omega) (fun a1 a2 => ?_) (fun a0 => ?_)
          · refine ⟨fun z => absurd z (by decide), fun _ => ?_⟩
            rw [if_pos (by omega)] at hst
            obtain ⟨p, hp⟩ : ∃ p, p = s - 65 := ⟨_, rfl⟩
            rw [← hp] at hst
            split at hst
            · cases hst
            · rename_i hpb
              have hpb : ps.testBit p = false := by simpa using hpb
              have hp5 : p < 5 := by omega
              cases hst
              have hsp : nI s - 65 = nI p := by rw [show (65 : Int32) = nI 65 from rfl, xn_sub a1, hp]
              have hstp : ∀ i, i < oc → st i ≠ p := fun i hi z => by have := (o6 i hi).2; rw [z, hpb] at this; cases this
              have homp : (xa_om st oc).testBit p = false := by
                cases hz : (xa_om st oc).testBit p
                · rfl
                · obtain ⟨i, hi, hz2⟩ := (xa_om_bit st p oc).mp hz
                  exact absurd hz2 (hstp i hi)
              -- holds of the open ones
              refine xl_up (fun i Fs => k121 (nI (xa_om st oc)) (nI k) (nI s) (nI i) J Fs G) 5 (fun i Fs => (∀ q, q < 5 → Fs 3 q = if q < i ∧ (xa_om st oc).testBit q = true then F1 3 q ||| nI (2 ^ p) else F1 3 q) ∧ ∀ j, j ≠ 3 → Fs j = F1 j) ?_ ?_ 0 F1 (by omega) ⟨fun q _ => by rw [if_neg (by omega)], fun _ _ => rfl⟩
              · intro i Fs hi hv ihh
                apply r121
                unfold bd_X8_load_121
                refine ⟨fun z => absurd ((xn_le (a := 5) (by omega) (by omega)).mp z) (by omega), fun _ => ⟨vp_in_nI hi (by omega), fun w ew => ?_⟩⟩
                rw [nI_clamp (by omega), hv.1 i hi, if_neg (by omega)] at ew
                rw [xb_bit (by omega) (by omega), xn_b1, hsp, xb_shl p (by omega)]
                have hstep : ∀ x : Int32, w ||| x = (if (xa_om st oc).testBit i = true then F1 3 i ||| nI (2 ^ p) else F1 3 i) → k155 (nI (xa_om st oc)) (nI k) (nI s) (nI i) (nI i) w x J Fs G := by
                  intro x hx
                  apply r155
                  unfold bd_X8_load_155
                  refine ⟨vp_in_nI hi (by omega), fun F2 eF2 u eu => ?_⟩
                  rw [eu, nI_1]
                  rw [nI_clamp (by omega), hx] at eF2
                  refine ihh F2 ⟨fun q hq => ?_, fun j hj => ?_⟩
                  · rw [eF2, xw_ups, xb_updi]
                    by_cases hqi : q = i
                    · subst hqi
                      rw [if_pos rfl]
                      by_cases hz : (xa_om st oc).testBit q = true
                      · rw [if_pos hz, if_pos ⟨by omega, hz⟩]
                      · rw [if_neg hz, if_neg (fun y => hz y.2)]
                    · rw [if_neg hqi, hv.1 q hq]
                      by_cases hz : q < i ∧ (xa_om st oc).testBit q = true
                      · rw [if_pos hz, if_pos ⟨by omega, hz.2⟩]
                      · rw [if_neg hz, if_neg (fun y => hz ⟨by omega, y.2⟩)]
                  · rw [eF2, xw_upn hj]; exact hv.2 j hj
                refine ⟨fun z => hstep 0 ?_, fun z => hstep _ ?_⟩
                · rw [if_neg z, ew, Int32.or_zero]
                · rw [if_pos z, ew]
              · intro Fs hv
                apply r121
                unfold bd_X8_load_121
                refine ⟨fun _ => ?_, fun z => absurd ((xn_le (a := 5) (b := 5) (by omega) (by omega)).mpr (by omega)) z⟩
                rw [hsp]
                refine ⟨vp_in_nI hp5 (by omega), fun F2 eF2 w ew u eu => ?_⟩
                rw [nI_clamp (by omega), l1] at eF2
                have hom2 : xa_om (xa_u st oc p) (oc + 1) = xa_om st oc ||| 2 ^ p := by rw [xa_om, xa_om_u st oc p oc (Nat.le_refl _), xa_us]
                rw [ew, eu, nI_1, xb_shl p (by omega), xb_or, ← hom2]
                refine ih (k + 1) _ _ _ _ _ _ _ _ _ _ _ _ _ J F2 (by omega) hok2 ?_ ?_ hgo
                · refine ⟨l1, l2, ?_, ?_, ?_, ?_, ?_, ?_⟩
                  · intro q hq hqb
                    rw [eF2, xw_ups, xw_upn (by decide), xb_updi, hv.1 q hq]
                    rw [xa_bit_or] at hqb
                    by_cases hqp : q = p
                    · subst hqp
                      rw [if_pos rfl, xa_us, if_neg (fun y => by rw [homp] at y; cases y.2)]
                      refine ⟨rfl, ?_⟩
                      rw [(l5 q hq hpb).2]; simp only [if_pos]; rfl
                    · have hqb : ps.testBit q = true := by simpa [Ne.symm hqp] using hqb
                      rw [if_neg hqp, xa_un hqp, hv.2 1 (by decide)]
                      refine ⟨(l3 q hq hqb).1, ?_⟩
                      simp only [if_neg hqp]
                      rw [(l3 q hq hqb).2]
                      by_cases hz : (xa_om st oc).testBit q = true
                      · rw [if_pos ⟨hq, hz⟩, if_pos hz, xb_or]
                      · rw [if_neg (fun y => hz y.2), if_neg hz]
                  · intro q hq hqb hqo
                    rw [hom2, xa_bit_or] at hqo
                    rw [xa_bit_or] at hqb
                    have hqp : q ≠ p := fun z => by rw [z] at hqo; simp at hqo
                    have hqb : ps.testBit q = true := by simpa [Ne.symm hqp] using hqb
                    have hqo : (xa_om st oc).testBit q = false := by simpa [Ne.symm hqp] using hqo
                    rw [eF2, xw_upn (by decide), hv.2 2 (by decide), xa_un hqp]
                    exact l4 q hq hqb hqo
                  · intro q hq hqb
                    rw [xa_bit_or] at hqb
                    have hqp : q ≠ p := fun z => by rw [z] at hqb; simp at hqb
                    have hqb : ps.testBit q = false := by simpa [Ne.symm hqp] using hqb
                    have hqo : ¬ (xa_om st oc).testBit q = true := fun z => by
                      obtain ⟨i, hi, hz2⟩ := (xa_om_bit st q oc).mp z
                      have := (o6 i hi).2
                      rw [hz2, hqb] at this; cases this
                    rw [eF2, xw_ups, xw_upn (by decide), xb_updi, if_neg hqp, hv.2 1 (by decide), hv.1 q hq, if_neg (fun y => hqo y.2)]
                    exact l5 q hq hqb
                  · intro m hm hmb; rw [eF2, xw_upn (by decide), hv.2 4 (by decide)]; exact l6 m hm hmb
                  · intro m hm hmb; rw [eF2, xw_upn (by decide), hv.2 4 (by decide)]; exact l7 m hm hmb
                  · intro i hi; rw [eF2, xw_upn (by decide), hv.2 5 (by decide)]; exact l8 i hi
                · exact hfr.tr ⟨fun _ _ _ => rfl, fun j hj => by rw [eF2, xw_upn (by omega), hv.2 j (by omega)]⟩
          · refine ⟨fun _ => ?_, fun z => absurd rfl z⟩
            rw [if_neg (by omega)] at hst
            refine xs_in (a := 97) (b := 101) (by omega) (by omega) (by omega) (fun a1 a2 => ?_) (fun a02 => ?_)
            · refine ⟨fun z => absurd z (by decide), fun _ => ?_⟩
              rw [if_pos (by omega)] at hst
              obtain ⟨p, hp⟩ : ∃ p, p = s - 97 := ⟨_, rfl⟩
              rw [← hp] at hst
              have hsp : nI s - 97 = nI p := by rw [show (97 : Int32) = nI 97 from rfl, xn_sub a1, hp]
              rw [hsp]
              split at hst
              · rename_i hz
                cases hst
                refine ⟨vp_in_nI (by omega) (by omega), fun F2 eF2 w ew u eu => ?_⟩
                rw [nI_clamp (by omega), l1] at eF2
                obtain ⟨o, ho⟩ : ∃ o, oc = o + 1 := ⟨oc - 1, by omega⟩
                subst ho
                have hz2 : st o = p := hz.2
                have hnb : (xa_om st o).testBit p = false := by
                  cases hy : (xa_om st o).testBit p
                  · rfl
                  · obtain ⟨i, hi, hy2⟩ := (xa_om_bit st p o).mp hy
                    have := o7 i o (by omega) (by omega) (by rw [hy2, hz2])
                    omega
                have homo : xa_om st o < 32 := xa_om_lt st o (fun i hi => (o6 i (by omega)).1)
                have hom : xa_om st (o + 1) = xa_om st o ||| 2 ^ p := by rw [xa_om, hz2]
                rw [ew, eu, nI_1, xb_shl p (by omega), hom, xn_clr _ homo p (by omega) hnb]
                refine ih (k + 1) _ _ _ _ _ _ _ _ _ _ _ _ _ J F2 (by omega) hok2 ?_ ?_ hgo
                · refine ⟨l1, l2, ?_, ?_, ?_, ?_, ?_, ?_⟩
                  · intro q hq hqb; rw [eF2, xw_upn (by decide), xw_upn (by decide)]; exact l3 q hq hqb
                  · intro q hq hqb hqo
                    rw [eF2, xw_ups, xb_updi]
                    by_cases hqp : q = p
                    · subst hqp; rw [if_pos rfl, xa_us]
                    · rw [if_neg hqp, xa_un hqp]
                      refine l4 q hq hqb ?_
                      rw [hom, xa_bit_or]
                      have hqo : (xa_om st o).testBit q = false := hqo
                      rw [hqo]; simp [Ne.symm hqp]
                  · intro q hq hqb; rw [eF2, xw_upn (by decide), xw_upn (by decide)]; exact l5 q hq hqb
                  · intro m hm hmb; rw [eF2, xw_upn (by decide)]; exact l6 m hm hmb
                  · intro m hm hmb; rw [eF2, xw_upn (by decide)]; exact l7 m hm hmb
                  · intro i hi; rw [eF2, xw_upn (by decide)]; exact l8 i hi
                · exact hfr.tr ⟨fun _ _ _ => rfl, fun j hj => by rw [eF2, xw_upn (by omega)]⟩
              · cases hst
            · refine ⟨fun _ => ?_, fun z => absurd rfl z⟩
              rw [if_neg (by omega)] at hst
              split at hst
              · rename_i hz3
                obtain ⟨p, hp⟩ : ∃ p, p = s - 120 := ⟨_, rfl⟩
                rw [← hp] at hst
                have hsp : nI s - 120 = nI p := by rw [show (120 : Int32) = nI 120 from rfl, xn_sub hz3.1, hp]
                rw [hsp]
                split at hst
                · cases hst
                · rename_i hpb
                  have hpb : mb.testBit p = false := by simpa using hpb
                  obtain ⟨g1, g2, g3⟩ := xa_pop_new3 mb o3 p (by omega) hpb
                  cases hst
                  refine ⟨vp_in_nI (by omega) (by omega), fun F2 eF2 => ?_⟩
                  rw [l2]
                  refine ⟨vp_in_nI (by omega) (by omega), fun F3 eF3 J2 eJ2 u eu => ?_⟩
                  rw [nI_clamp (by omega), l1] at eF2
                  rw [nI_clamp (by omega)] at eF3
                  rw [nI_1] at eJ2
                  rw [eu, nI_1]
                  refine ih (k + 1) _ _ _ _ _ _ _ _ _ _ _ _ _ J2 F3 (by omega) hok2 ?_ ?_ hgo
                  · refine ⟨?_, ?_, ?_, ?_, ?_, ?_, ?_, ?_⟩
                    · rw [eJ2, xw_upn (by decide)]; exact l1
                    · rw [eJ2, xw_ups]
                    · intro q hq hqb; rw [eF3, xw_upn (by decide), xw_upn (by decide), eF2, xw_upn (by decide), xw_upn (by decide)]; exact l3 q hq hqb
                    · intro q hq hqb hqo; rw [eF3, xw_upn (by decide), eF2, xw_upn (by decide)]; exact l4 q hq hqb hqo
                    · intro q hq hqb; rw [eF3, xw_upn (by decide), xw_upn (by decide), eF2, xw_upn (by decide), xw_upn (by decide)]; exact l5 q hq hqb
                    · intro m hm hmb
                      rw [xa_bit_or] at hmb
                      rw [eF3, xw_upn (by decide), eF2, xw_ups, xb_updi]
                      by_cases hmp : m = p
                      · subst hmp; rw [if_pos rfl, xa_us]
                      · rw [if_neg hmp, xa_un hmp]; exact l6 m hm (by simpa [Ne.symm hmp] using hmb)
                    · intro m hm hmb
                      rw [xa_bit_or] at hmb
                      have hmp : m ≠ p := fun z => by rw [z] at hmb; simp at hmb
                      rw [eF3, xw_upn (by decide), eF2, xw_ups, xb_updi, if_neg hmp]
                      exact l7 m hm (by simpa [Ne.symm hmp] using hmb)
                    · intro i hi
                      rw [eF3, xw_ups, xb_updi]
                      by_cases him : i = mc
                      · subst him; rw [if_pos rfl, xa_us]
                      · rw [if_neg him, xa_un him, eF2, xw_upn (by decide)]; exact l8 i (by omega)
                  · exact hfr.tr ⟨fun j a b => by rw [eJ2, xw_upn b], fun j hj => by rw [eF3, xw_upn (by omega), eF2, xw_upn (by omega)]⟩
              · cases hst
        · have c46 : s = 46 := (xn_eq (b := 46) (by omega) (by omega)).mp c46
          rw [if_pos c46] at hst
          split at hst
          · cases hst
            intro J2 eJ2 u eu
            rw [l1, nI_1] at eJ2
            rw [eu, nI_1]
            refine ih (k + 1) _ _ _ _ _ _ _ _ _ _ _ _ _ J2 F1 (by omega) hok2 ?_ ?_ hgo
            · refine ⟨?_, ?_, l3, l4, l5, l6, l7, l8⟩
              · rw [eJ2, xw_ups]
              · rw [eJ2, xw_upn (by decide)]; exact l2
            · exact hfr.tr ⟨fun j a b => by rw [eJ2, xw_upn a], fun _ _ => rfl⟩
          · cases hst
    -- the two loops ahead of it
    have hI20 : I2 0 = nI 0 := by rw [eI2, xw_upn (by decide), eI1, xw_ups]; rfl
    have hI21 : I2 1 = nI 0 := by rw [eI2, xw_ups]; rfl
    refine xl_up (fun i Fs => k22 (nI i) I2 Fs G) 5 (fun i Fs => (∀ p, p < i → Fs 1 p = -6 ∧ Fs 3 p = 0) ∧ ∀ j, (j = 0 ∨ 5 < j) → Fs j = F0 j) ?_ ?_ 0 F0 (by omega) ⟨fun p hp => by omega, fun _ _ => rfl⟩
    · intro i Fs hi hv ih
      apply r22
      unfold bd_X8_load_22
      refine ⟨fun z => absurd ((xn_le (a := 5) (by omega) (by omega)).mp z) (by omega), fun _ => ⟨vp_in_nI hi (by omega), fun F2 eF2 => ⟨vp_in_nI hi (by omega), fun F3 eF3 u eu => ?_⟩⟩⟩
      rw [nI_clamp (by omega)] at eF2 eF3
      rw [eu, nI_1]
      refine ih F3 ⟨fun p hp => ?_, fun j hj => ?_⟩
      · rw [eF3, xw_upn (by decide), xw_ups, xb_updi, eF2, xw_ups, xw_upn (by decide), xb_updi]
        by_cases hpi : p = i
        · rw [if_pos hpi, if_pos hpi]; exact ⟨rfl, rfl⟩
        · rw [if_neg hpi, if_neg hpi]; exact hv.1 p (by omega)
      · rw [eF3, xw_upn (by omega), eF2, xw_upn (by omega)]; exact hv.2 j hj
    · intro Fs hv
      apply r22
      unfold bd_X8_load_22
      refine ⟨fun _ => ?_, fun z => absurd ((xn_le (a := 5) (b := 5) (by omega) (by omega)).mpr (by omega)) z⟩
      refine xl_up (fun i Ft => k50 (nI i) I2 Ft G) 3 (fun i Ft => (∀ p, p < 5 → Ft 1 p = -6 ∧ Ft 3 p = 0) ∧ (∀ m, m < i → Ft 4 m = -6) ∧ ∀ j, (j = 0 ∨ 5 < j) → Ft j = F0 j) ?_ ?_ 0 Fs (by omega) ⟨hv.1, fun m hm => by omega, hv.2⟩
      · intro i Ft hi hw ih
        apply r50
        unfold bd_X8_load_50
        refine ⟨fun z => absurd ((xn_le (a := 3) (by omega) (by omega)).mp z) (by omega), fun _ => ⟨vp_in_nI hi (by omega), fun F2 eF2 u eu => ?_⟩⟩
        rw [nI_clamp (by omega)] at eF2
        rw [eu, nI_1]
        refine ih F2 ⟨fun p hp => ?_, fun m hm => ?_, fun j hj => ?_⟩
        · rw [eF2, xw_upn (by decide), xw_upn (by decide)]; exact hw.1 p hp
        · rw [eF2, xw_ups, xb_updi]
          by_cases hmi : m = i
          · rw [if_pos hmi]
          · rw [if_neg hmi]; exact hw.2.1 m (by omega)
        · rw [eF2, xw_upn (by omega)]; exact hw.2.2 j hj
      · intro Ft hw
        apply r50
        unfold bd_X8_load_50
        refine ⟨fun _ => ?_, fun z => absurd ((xn_le (a := 3) (b := 3) (by omega) (by omega)).mpr (by omega)) z⟩
        refine key c 0 0 0 0 0 0 _ _ _ _ _ _ _ _ I2 Ft (by omega) xa_ok0 ?_ ?_ hA
        · exact ⟨hI20, hI21, fun p _ hb => by simp at hb, fun p _ hb => by simp at hb, fun p hp _ => hw.1 p hp, fun m _ hb => by simp at hb, fun m hm _ => hw.2.1 m hm, fun i hi => by omega⟩
        · exact ⟨fun j a b => by rw [eI2, xw_upn b, eI1, xw_upn a], hw.2.2⟩
  · refine hno (fun z => q ?_) F0 hF0
    rw [z]; decide
end
section
/-! ===== the two states side by side; the calls that place nothing ===== -/
def xa_n (A : xa_R) : Nat := A.1
/-- the class's 'now' holds A -/
def xe_N (I : xw_I) (F : xw_F) : xa_R → Prop
  | (n, ps, mb, mc, _, op, cl, hd, hb, mg, mr, _, _) => I 7 = nI n ∧ I 8 = nI ps ∧ I 9 = nI mb ∧ I 10 = nI mc ∧
    (∀ p, p < 5 → ps.testBit p = true → F 13 p = nI (op p) ∧ F 14 p = nI (cl p) ∧ F 15 p = nI (hd p) ∧ F 16 p = nI (hb p)) ∧
    (∀ m, m < 3 → mb.testBit m = true → F 17 m = nI (mg m)) ∧ (∀ i, i < mc → F 18 i = nI (mr i))
abbrev xc_T : Type := xw_I → xw_F → xa_R → Nat → (Nat → Nat) → Prop
/-- what was carried stays, where nothing of it is written -/
def xc_ok (Q : xc_T) : Prop := ∀ (I I1 : xw_I) (F F1 : xw_F) (A : xa_R) (T : Nat) (lk : Nat → Nat), (∀ j, 12 ≤ j → I1 j = I j) → (∀ j, 21 ≤ j → F1 j = F j) → Q I F A T lk → Q I1 F1 A T lk
def xl_ok (n T : Nat) (lk : Nat → Nat) : Prop := ∀ w, w < 12 → lk w < 2 ^ T ∧ (n ≤ w → lk w = 0)
def xr_R (Q : xc_T) (I : xw_I) (F : xw_F) (G : xw_G) (J : xw_I) (K : xw_F) : Prop := ∃ (A : xa_R) (T : Nat) (lk : Nat → Nat) (c : Nat) (sg : Nat → Nat),
  (xa_ok A ∧ T ≤ 8 ∧ xl_ok (xa_n A) T lk) ∧ (xe_N I F A ∧ I 12 = nI T ∧ ∀ w, w < 12 → F 20 w = nI (lk w)) ∧ (xe_M J K A ∧ J 2 = nI T ∧ ∀ w, w < 12 → K 6 w = nI (lk w)) ∧
  (c ≤ 30 ∧ I 1 = nI c ∧ J 3 = nI c ∧ ∀ i, i < c → F 10 i = nI (sg i) ∧ K 7 i = nI (sg i) ∧ sg i < 127) ∧ (∀ i, i < 81 → G 30 i = 0) ∧ (I 0 = 0 → Q I F A T lk)
/-- the images of the reference stay -/
def xr_im (K K1 : xw_F) : Prop := K1 14 = K 14 ∧ K1 15 = K 15
theorem xe_N.to {I I1 : xw_I} {F F1 : xw_F} {A : xa_R} (h : xe_N I F A) (hi : ∀ j, 7 ≤ j → j ≤ 10 → I1 j = I j) (hf : ∀ j, 13 ≤ j → j ≤ 18 → F1 j = F j) : xe_N I1 F1 A := by
  obtain ⟨n, ps, mb, mc, oc, op, cl, hd, hb, mg, mr, st, rk⟩ := A
  obtain ⟨h1, h2, h3, h4, h5, h6, h7⟩ := h
  refine ⟨?_, ?_, ?_, ?_, ?_, ?_, ?_⟩
  · rw [hi 7 (by omega) (by omega)]; exact h1
  · rw [hi 8 (by omega) (by omega)]; exact h2
  · rw [hi 9 (by omega) (by omega)]; exact h3
  · rw [hi 10 (by omega) (by omega)]; exact h4
  · intro p hp hb; rw [hf 13 (by omega) (by omega), hf 14 (by omega) (by omega), hf 15 (by omega) (by omega), hf 16 (by omega) (by omega)]; exact h5 p hp hb
  · intro m hm hb; rw [hf 17 (by omega) (by omega)]; exact h6 m hm hb
  · intro i hi2; rw [hf 18 (by omega) (by omega)]; exact h7 i hi2
theorem xe_M.to {I I1 : xw_I} {F F1 : xw_F} {A : xa_R} (h : xe_M I F A) (hi : ∀ j, j < 2 → I1 j = I j) (hf : ∀ j, 1 ≤ j → j ≤ 5 → F1 j = F j) : xe_M I1 F1 A := by
  obtain ⟨n, ps, mb, mc, oc, op, cl, hd, hb, mg, mr, st, rk⟩ := A
  obtain ⟨h1, h2, h3, h4, h5, h6, h7⟩ := h
  refine ⟨?_, ?_, ?_, ?_, ?_, ?_, ?_⟩
  · rw [hi 0 (by omega)]; exact h1
  · rw [hi 1 (by omega)]; exact h2
  · intro p hp hb; rw [hf 1 (by omega) (by omega), hf 2 (by omega) (by omega), hf 3 (by omega) (by omega)]; exact h3 p hp hb
  · intro p hp hb; rw [hf 1 (by omega) (by omega), hf 3 (by omega) (by omega)]; exact h4 p hp hb
  · intro m hm hb; rw [hf 4 (by omega) (by omega)]; exact h5 m hm hb
  · intro m hm hb; rw [hf 4 (by omega) (by omega)]; exact h6 m hm hb
  · intro i hi2; rw [hf 5 (by omega) (by omega)]; exact h7 i hi2
theorem xe_Nn {I : xw_I} {F : xw_F} {A : xa_R} (h : xe_N I F A) : I 7 = nI (xa_n A) := by
  obtain ⟨n, ps, mb, mc, oc, op, cl, hd, hb, mg, mr, st, rk⟩ := A
  exact h.1
theorem xe_Mn {I : xw_I} {F : xw_F} {A : xa_R} (h : xe_M I F A) : I 0 = nI (xa_n A) := by
  obtain ⟨n, ps, mb, mc, oc, op, cl, hd, hb, mg, mr, st, rk⟩ := A
  exact h.1
theorem xa_n_le {A : xa_R} (h : xa_ok A) : xa_n A ≤ 12 := by
  obtain ⟨n, ps, mb, mc, oc, op, cl, hd, hb, mg, mr, st, rk⟩ := A
  exact h.1
theorem xq_say {Q : xc_T} (hQ : xc_ok Q) {I : xw_I} {F : xw_F} {G : xw_G} {J : xw_I} {K : xw_F} {L : xw_G} (x : Int32) (h : xr_R Q I F G J K) : sm_X7_say x I F G (fun r I1 F1 G1 => sm_X8_say x J K L (fun r2 J1 K1 _ => r2 = r ∧ xr_R Q I1 F1 G1 J1 K1 ∧ xr_im K K1)) := by
  have hsame := h
  obtain ⟨A, T, lk, c, sg, ⟨a1, a2, a3⟩, ⟨n1, n2, n3⟩, ⟨m1, m2, m3⟩, ⟨c1, c2, c3, c4⟩, g1, q1⟩ := h
  unfold sm_X7_say sm_X8_say
  refine ⟨fun z => ?_, fun z => ⟨fun z2 => ?_, fun z2 => ?_⟩⟩
  · exact ⟨fun _ => ⟨fun y => absurd rfl y, fun _ => ⟨rfl, hsame, rfl, rfl⟩⟩, fun y => absurd z y⟩
  · have hs : ¬ x < 0 := fun y => z (Int32.lt_of_lt_of_le y (by decide))
    obtain ⟨s, hs31, rfl⟩ := nI_of hs
    have s1 : 33 ≤ s := Nat.not_lt.mp (fun y => z ((xn_lt (b := 33) (by omega) (by omega)).mpr y))
    have s2 : s ≤ 126 := (xn_le (b := 126) (by omega) (by omega)).mp z2
    have hin : ∀ post : Int32 → Prop, post 1 → sm_X8_in (nI s) 33 126 post := fun post hp => xs_in (a := 33) (b := 126) (by omega) (by omega) (by omega) (fun _ _ => hp) (fun y => absurd ⟨s1, s2⟩ y)
    unfold sm_X1_add
    rw [c2]
    refine ⟨fun y => ?_, fun y => ?_⟩
    · have y : c < 30 := (xn_lt (b := 30) (by omega) (by omega)).mp y
      refine ⟨vp_in_nI y (by omega), fun F1 eF1 I1 eI1 => ⟨fun w => absurd w (by decide), fun _ => ?_⟩⟩
      rw [nI_clamp (by omega)] at eF1
      rw [nI_1] at eI1
      apply hin
      refine ⟨fun _ => ⟨fun _ => ?_, fun w => ?_⟩, fun w => absurd w (by decide)⟩
      · rw [c3]
        refine ⟨vp_in_nI y (by omega), fun K1 eK1 J1 eJ1 => ⟨?_, ?_, ?_⟩⟩
        · rw [eJ1, xw_ups, eI1, xw_ups, nI_1]
        · rw [nI_clamp (by omega)] at eK1
          rw [nI_1] at eJ1
          refine ⟨A, T, lk, c + 1, xa_u sg c s, ⟨a1, a2, a3⟩, ⟨n1.to (fun j p q => by rw [eI1, xw_upn (by omega)]) (fun j p q => by rw [eF1, xw_upn (by omega)]), by rw [eI1, xw_upn (by decide)]; exact n2, fun w hw => by rw [eF1, xw_upn (by decide)]; exact n3 w hw⟩, ⟨m1.to (fun j p => by rw [eJ1, xw_upn (by omega)]) (fun j p q => by rw [eK1, xw_upn (by omega)]), by rw [eJ1, xw_upn (by decide)]; exact m2, fun w hw => by rw [eK1, xw_upn (by decide)]; exact m3 w hw⟩, ⟨by omega, by rw [eI1, xw_ups], by rw [eJ1, xw_ups], ?_⟩, g1, ?_⟩
          · intro i hi
            rw [eF1, xw_ups, xb_updi, eK1, xw_ups, xb_updi]
            by_cases hic : i = c
            · subst hic; rw [if_pos rfl, if_pos rfl, xa_us]; exact ⟨rfl, rfl, by omega⟩
            · rw [if_neg hic, if_neg hic, xa_un hic]; exact c4 i (by omega)
          · intro hz
            rw [eI1, xw_upn (by decide)] at hz
            exact hQ I I1 F F1 A T lk (fun j hj => by rw [eI1, xw_upn (by omega)]) (fun j hj => by rw [eF1, xw_upn (by omega)]) (q1 hz)
        · exact ⟨by rw [eK1, xw_upn (by decide)], by rw [eK1, xw_upn (by decide)]⟩
      · rw [c3] at w
        have := (xn_eq (b := 30) (by omega) (by omega)).mp w
        omega
    · have y : c = 30 := by
        have : ¬ c < 30 := fun w => y ((xn_lt (b := 30) (by omega) (by omega)).mpr w)
        omega
      refine ⟨fun _ => ?_, fun w => absurd rfl w⟩
      apply hin
      refine ⟨fun _ => ⟨fun w => ?_, fun _ => ⟨rfl, hsame, rfl, rfl⟩⟩, fun w => absurd w (by decide)⟩
      exact absurd (by rw [c3, y]; rfl) w
  · refine ⟨fun y => absurd y z, fun _ => ⟨fun _ => ⟨fun y => absurd rfl y, fun _ => ⟨rfl, hsame, rfl, rfl⟩⟩, fun y => ?_⟩⟩
    exact absurd (Int32.not_lt.mp y) z2
theorem xq_wipe {Q : xc_T} (hQ : xc_ok Q) {I : xw_I} {F : xw_F} {G : xw_G} {J : xw_I} {K : xw_F} {L : xw_G} (h : xr_R Q I F G J K) : sm_X7_wipe I F G (fun r I1 F1 G1 => sm_X8_wipe J K L (fun r2 J1 K1 _ => r2 = r ∧ xr_R Q I1 F1 G1 J1 K1 ∧ xr_im K K1)) := by
  obtain ⟨A, T, lk, c, sg, ⟨a1, a2, a3⟩, ⟨n1, n2, n3⟩, ⟨m1, m2, m3⟩, ⟨c1, c2, c3, c4⟩, g1, q1⟩ := h
  intro v ev I1 eI1 w ew J1 eJ1
  refine ⟨by rw [ev, ew, c2, c3], ⟨A, T, lk, 0, sg, ⟨a1, a2, a3⟩, ⟨n1.to (fun j p q => by rw [eI1, xw_upn (by omega)]) (fun _ _ _ => rfl), by rw [eI1, xw_upn (by decide)]; exact n2, n3⟩, ⟨m1.to (fun j p => by rw [eJ1, xw_upn (by omega)]) (fun _ _ _ => rfl), by rw [eJ1, xw_upn (by decide)]; exact m2, m3⟩, ⟨by omega, by rw [eI1, xw_ups]; rfl, by rw [eJ1, xw_ups]; rfl, fun i hi => by omega⟩, g1, fun hz => ?_⟩, rfl, rfl⟩
  rw [eI1, xw_upn (by decide)] at hz
  exact hQ I I1 F F A T lk (fun j hj => by rw [eI1, xw_upn (by omega)]) (fun _ _ => rfl) (q1 hz)
theorem xq_fault {Q : xc_T} (hQ : xc_ok Q) {I : xw_I} {F : xw_F} {G : xw_G} {J : xw_I} {K : xw_F} {L : xw_G} (h : xr_R Q I F G J K) : sm_X7_fault I F G (fun r I1 F1 G1 => sm_X8_fault J K L (fun r2 J1 K1 _ => r2 = r ∧ xr_R Q I1 F1 G1 J1 K1 ∧ xr_im K K1)) := by
  obtain ⟨A, T, lk, c, sg, ⟨a1, a2, a3⟩, ⟨n1, n2, n3⟩, ⟨m1, m2, m3⟩, ⟨c1, c2, c3, c4⟩, g1, q1⟩ := h
  unfold sm_X7_fault sm_X8_fault
  refine xs_read c1 c2 (fun i hi => (c4 i hi).1) (fun i hi => (c4 i hi).2.2) (fun I1 F1 hfr _ => ?_)
  refine xs_fault c1 c3 (fun i hi => (c4 i hi).2.1) (fun i hi => (c4 i hi).2.2) (fun K1 hK => ?_)
  refine ⟨rfl, ⟨A, T, lk, c, sg, ⟨a1, a2, a3⟩, ⟨n1.to (fun j p q => hfr.1 j (by omega)) (fun j p q => hfr.2 j (by omega)), (hfr.1 12 (by omega)).trans n2, fun w hw => by rw [hfr.2 20 (by omega)]; exact n3 w hw⟩, ⟨m1.to (fun _ _ => rfl) (fun j p q => hK j (by omega)), m2, fun w hw => by rw [hK 6 (by decide)]; exact m3 w hw⟩, ⟨c1, (hfr.1 1 (by omega)).trans c2, c3, fun i hi => by rw [hfr.2 10 (by omega), hK 7 (by decide)]; exact c4 i hi⟩, g1, fun hz => ?_⟩, hK 14 (by decide), hK 15 (by decide)⟩
  rw [hfr.1 0 (by omega)] at hz
  exact hQ I I1 F F1 A T lk (fun j hj => hfr.1 j (by omega)) (fun j hj => hfr.2 j (by omega)) (q1 hz)
theorem xs_copyC {I : xw_I} {F : xw_F} {G : xw_G} {post : xw_I → xw_F → xw_G → Prop} (h : ∀ I1 F1, I1 7 = I 2 → I1 8 = I 3 → I1 9 = I 4 → I1 10 = I 5 → (∀ j, j < 7 ∨ 11 < j → I1 j = I j) → (∀ p, p < 5 → F1 13 p = F 3 p ∧ F1 14 p = F 4 p ∧ F1 15 p = F 5 p ∧ F1 16 p = F 6 p) → (∀ m, m < 3 → F1 17 m = F 7 m ∧ F1 18 m = F 8 m) → (∀ j, j < 13 ∨ 19 < j → F1 j = F j) → post I1 F1 G) : sm_X4_copyC I F G post := by
  intro k42 k115 r42 r115
  unfold bd_X4_copyC_0
  intro I1 e1 I2 e2 I3 e3 I4 e4 I5 e5
  refine xl_up (fun i Fs => k42 (nI i) I5 Fs G) 5 (fun i Fs => (∀ p, p < i → Fs 13 p = F 3 p ∧ Fs 14 p = F 4 p ∧ Fs 15 p = F 5 p ∧ Fs 16 p = F 6 p) ∧ ∀ j, j < 13 ∨ 19 < j → Fs j = F j) ?_ ?_ 0 F (by omega) ⟨fun p hp => by omega, fun _ _ => rfl⟩
  · intro i Fs hi hv ih
    apply r42
    unfold bd_X4_copyC_42
    have hin := vp_in_nI hi (show 5 < 2 ^ 31 by omega)
    refine ⟨fun z => absurd ((xn_le (a := 5) (by omega) (by omega)).mp z) (by omega), fun _ => ⟨hin, fun v1 ev1 => ⟨hin, fun F1 f1 => ⟨hin, fun v2 ev2 => ⟨hin, fun F2 f2 => ⟨hin, fun v3 ev3 => ⟨hin, fun F3 f3 => ⟨hin, fun v4 ev4 => ⟨hin, fun F4 f4 => ⟨hin, fun v5 ev5 => ⟨hin, fun F5 f5 u eu => ?_⟩⟩⟩⟩⟩⟩⟩⟩⟩⟩⟩
    rw [nI_clamp (by omega)] at ev1 f1 ev2 f2 ev3 f3 ev4 f4 ev5 f5
    rw [eu, nI_1]
    rw [hv.2 3 (by omega)] at ev1
    rw [f1, xw_upn (by decide), hv.2 4 (by omega)] at ev2
    rw [f2, xw_upn (by decide), f1, xw_upn (by decide), hv.2 5 (by omega)] at ev3
    rw [f3, xw_upn (by decide), f2, xw_upn (by decide), f1, xw_upn (by decide), hv.2 6 (by omega)] at ev4
    refine ih F5 ⟨fun p hp => ?_, fun j hj => ?_⟩
    · rw [f5, xw_upn (by decide), xw_upn (by decide), xw_upn (by decide), xw_upn (by decide), f4, xw_upn (by decide), xw_upn (by decide), xw_upn (by decide), xw_ups, f3, xw_upn (by decide), xw_upn (by decide), xw_ups, f2, xw_upn (by decide), xw_ups, f1, xw_ups]
      by_cases hpi : p = i
      · subst hpi
        simp only [xb_updi, if_pos]
        exact ⟨ev1, ev2, ev3, ev4⟩
      · simp only [xb_updi, if_neg hpi]
        rw [xw_upn (by decide), xw_upn (by decide), xw_upn (by decide), xw_upn (by decide), xw_upn (by decide), xw_upn (by decide)]
        exact hv.1 p (by omega)
    · rw [f5, xw_upn (by omega), f4, xw_upn (by omega), f3, xw_upn (by omega), f2, xw_upn (by omega), f1, xw_upn (by omega)]; exact hv.2 j hj
  · intro Fs hv
    apply r42
    unfold bd_X4_copyC_42
    refine ⟨fun _ => ?_, fun z => absurd ((xn_le (a := 5) (b := 5) (by omega) (by omega)).mpr (by omega)) z⟩
    refine xl_up (fun i Ft => k115 (nI i) I5 Ft G) 3 (fun i Ft => (∀ p, p < 5 → Ft 13 p = F 3 p ∧ Ft 14 p = F 4 p ∧ Ft 15 p = F 5 p ∧ Ft 16 p = F 6 p) ∧ (∀ m, m < i → Ft 17 m = F 7 m ∧ Ft 18 m = F 8 m) ∧ ∀ j, j < 13 ∨ 19 < j → Ft j = F j) ?_ ?_ 0 Fs (by omega) ⟨hv.1, fun m hm => by omega, hv.2⟩
    · intro i Ft hi hw ih
      apply r115
      unfold bd_X4_copyC_115
      have hin := vp_in_nI hi (show 3 < 2 ^ 31 by omega)
      refine ⟨fun z => absurd ((xn_le (a := 3) (by omega) (by omega)).mp z) (by omega), fun _ => ⟨hin, fun v1 ev1 => ⟨hin, fun F1 f1 => ⟨hin, fun v2 ev2 => ⟨hin, fun F2 f2 u eu => ?_⟩⟩⟩⟩⟩
      rw [nI_clamp (by omega)] at ev1 f1 ev2 f2
      rw [eu, nI_1]
      rw [hw.2.2 7 (by omega)] at ev1
      rw [f1, xw_upn (by decide), hw.2.2 8 (by omega)] at ev2
      refine ih F2 ⟨fun p hp => ?_, fun m hm => ?_, fun j hj => ?_⟩
      · rw [f2, xw_upn (by decide), xw_upn (by decide), xw_upn (by decide), xw_upn (by decide), f1, xw_upn (by decide), xw_upn (by decide), xw_upn (by decide), xw_upn (by decide)]; exact hw.1 p hp
      · rw [f2, xw_upn (by decide), xw_ups, f1, xw_ups, xw_upn (by decide)]
        by_cases hmi : m = i
        · subst hmi; simp only [xb_updi, if_pos]; exact ⟨ev1, ev2⟩
        · simp only [xb_updi, if_neg hmi]; exact hw.2.1 m (by omega)
      · rw [f2, xw_upn (by omega), f1, xw_upn (by omega)]; exact hw.2.2 j hj
    · intro Ft hw
      apply r115
      unfold bd_X4_copyC_115
      refine ⟨fun _ => ?_, fun z => absurd ((xn_le (a := 3) (b := 3) (by omega) (by omega)).mpr (by omega)) z⟩
      refine h I5 Ft ?_ ?_ ?_ ?_ ?_ hw.1 hw.2.1 hw.2.2
      · rw [e5, xw_upn (by decide), e4, xw_upn (by decide), e3, xw_upn (by decide), e2, xw_upn (by decide), e1, xw_ups]
      · rw [e5, xw_upn (by decide), e4, xw_upn (by decide), e3, xw_upn (by decide), e2, xw_ups, e1, xw_upn (by decide)]
      · rw [e5, xw_upn (by decide), e4, xw_upn (by decide), e3, xw_ups, e2, xw_upn (by decide), e1, xw_upn (by decide)]
      · rw [e5, xw_upn (by decide), e4, xw_ups, e3, xw_upn (by decide), e2, xw_upn (by decide), e1, xw_upn (by decide)]
      · intro j hj; rw [e5, xw_upn (by omega), e4, xw_upn (by omega), e3, xw_upn (by omega), e2, xw_upn (by omega), e1, xw_upn (by omega)]
theorem xq_load {Q : xc_T} (hQ : xc_ok Q) {I : xw_I} {F : xw_F} {G : xw_G} {J : xw_I} {K : xw_F} {L : xw_G} (h : xr_R Q I F G J K) : sm_X7_load I F G (fun r I1 F1 G1 => sm_X8_load J K L (fun r2 J1 K1 _ => r2 = r ∧ xr_R Q I1 F1 G1 J1 K1 ∧ xr_im K K1)) := by
  obtain ⟨A, T, lk, c, sg, ⟨a1, a2, a3⟩, ⟨n1, n2, n3⟩, ⟨m1, m2, m3⟩, ⟨c1, c2, c3, c4⟩, g1, q1⟩ := h
  unfold sm_X7_load
  refine xs_read c1 c2 (fun i hi => (c4 i hi).1) (fun i hi => (c4 i hi).2.2) (fun I1 F1 hfr hA => ⟨fun hz => ?_, fun hz => ?_⟩)
  · refine xs_copyC (fun I2 F2 i7 i8 i9 i10 ij f5 f3 fj => ?_)
    refine xs_drop (fun F3 hz3 hj3 => ?_)
    intro I3 eI3 I4 eI4
    refine xs_mload c1 c3 (fun i hi => (c4 i hi).2.1) (fun i hi => (c4 i hi).2.2) (fun hno => absurd hz hno) (fun B hB hoc J1 K1 hM hl h3 hj hk => ?_)
    have hE := hA B hB
    have hokB := xa_go_ok c 0 xa_0 B xa_ok0 hB
    have hNB : xe_N I4 F3 B := by
      obtain ⟨n, ps, mb, mc, oc, op, cl, hd, hb, mg, mr, st, rk⟩ := B
      obtain ⟨e1, e2, e3, e4, e5, e6, e7, e8, e9⟩ := hE
      have hmc : mc ≤ 3 := by
        have := hokB.2.2.2.1
        have := xa_pop_le mb hokB.2.2.1
        omega
      refine ⟨?_, ?_, ?_, ?_, ?_, ?_, ?_⟩
      · rw [eI4, xw_upn (by decide), eI3, xw_upn (by decide), i7]; exact e1
      · rw [eI4, xw_upn (by decide), eI3, xw_upn (by decide), i8]; exact e2
      · rw [eI4, xw_upn (by decide), eI3, xw_upn (by decide), i9]; exact e3
      · rw [eI4, xw_upn (by decide), eI3, xw_upn (by decide), i10]; exact e4
      · intro p hp hpb
        obtain ⟨b1, b2, b3, b4⟩ := f5 p hp
        rw [hj3 13 (by decide), hj3 14 (by decide), hj3 15 (by decide), hj3 16 (by decide), b1, b2, b3, b4]; exact e6 p hp hpb
      · intro m hm hmb; rw [hj3 17 (by decide), (f3 m hm).1]; exact e7 m hm hmb
      · intro i hi; rw [hj3 18 (by decide), (f3 i (by omega)).2]; exact e8 i hi
    refine ⟨?_, ⟨B, T, fun _ => 0, 0, sg, ⟨hokB, a2, fun w _ => ⟨Nat.two_pow_pos T, fun _ => rfl⟩⟩, ⟨hNB, ?_, fun w hw => hz3 w hw⟩, ⟨hM, ?_, fun w hw => hl w hw⟩, ⟨by omega, ?_, h3, fun i hi => by omega⟩, g1, fun hz0 => ?_⟩, ?_, ?_⟩
    · rw [xe_Mn hM, xe_Nn hNB]
    · rw [eI4, xw_upn (by decide), eI3, xw_upn (by decide), ij 12 (by omega), hfr.1 12 (by omega)]; exact n2
    · rw [hj 2 (by decide) (by decide) (by decide)]; exact m2
    · rw [eI4, xw_upn (by decide), eI3, xw_ups]; rfl
    · rw [eI4, xw_ups] at hz0; exact absurd hz0 (by decide)
    · exact hk 14 (by omega)
    · exact hk 15 (by omega)
  · refine xs_mload c1 c3 (fun i hi => (c4 i hi).2.1) (fun i hi => (c4 i hi).2.2) (fun _ K1 hK => ?_) (fun B hB hoc J1 K1 hM hl h3 hj hk => ?_)
    · refine ⟨rfl, ⟨A, T, lk, c, sg, ⟨a1, a2, a3⟩, ⟨n1.to (fun j p q => hfr.1 j (by omega)) (fun j p q => hfr.2 j (by omega)), (hfr.1 12 (by omega)).trans n2, fun w hw => by rw [hfr.2 20 (by omega)]; exact n3 w hw⟩, ⟨m1.to (fun _ _ => rfl) (fun j p q => hK j (by omega)), m2, fun w hw => by rw [hK 6 (by decide)]; exact m3 w hw⟩, ⟨c1, (hfr.1 1 (by omega)).trans c2, c3, fun i hi => by rw [hfr.2 10 (by omega), hK 7 (by decide)]; exact c4 i hi⟩, g1, fun hz => ?_⟩, hK 14 (by decide), hK 15 (by decide)⟩
      rw [hfr.1 0 (by omega)] at hz
      exact hQ I I1 F F1 A T lk (fun j hj => hfr.1 j (by omega)) (fun j hj => hfr.2 j (by omega)) (q1 hz)
    · exfalso
      apply hz
      unfold xa_res
      rw [hB]
      dsimp only
      rw [if_pos hoc]
end
section
/-! ===== target, link, told ===== -/
theorem xn_lit (k : Nat) : OfNat.ofNat k = nI k := rfl
theorem xq_target {Q : xc_T} {I : xw_I} {F : xw_F} {G : xw_G} {J : xw_I} {K : xw_F} {L : xw_G} (x : Int32) (h : xr_R Q I F G J K) : sm_X7_target x I F G (fun r I1 F1 G1 => sm_X8_target x J K L (fun r2 J1 K1 _ => r2 = r ∧ xr_R Q I1 F1 G1 J1 K1 ∧ xr_im K K1)) := by
  have hsame := h
  obtain ⟨A, T, lk, c, sg, ⟨a1, a2, a3⟩, ⟨n1, n2, n3⟩, ⟨m1, m2, m3⟩, ⟨c1, c2, c3, c4⟩, g1, q1⟩ := h
  unfold sm_X7_target sm_X8_target
  refine ⟨fun z => ?_, fun z => ⟨fun z2 => ?_, fun z2 => ?_⟩⟩
  · exact ⟨fun _ => ⟨fun y => absurd rfl y, fun _ => ⟨rfl, hsame, rfl, rfl⟩⟩, fun y => absurd z y⟩
  · obtain ⟨t, ht31, rfl⟩ := nI_of z
    have t8 : t ≤ 8 := (xn_le (b := 8) (by omega) (by omega)).mp z2
    intro v ev I1 eI1
    refine xs_drop (fun F1 hz hj => ?_)
    intro I2 eI2
    refine xs_in (a := 0) (b := 8) (by omega) (by omega) (by omega) (fun _ _ => ?_) (fun y => absurd ⟨Nat.zero_le _, t8⟩ y)
    refine ⟨fun _ => ?_, fun w => absurd w (by decide)⟩
    intro w ew J1 eJ1
    refine xs_unlink (fun K1 hz2 hj2 => ?_)
    refine ⟨by rw [ev, ew, n2, m2], ⟨A, t, fun _ => 0, c, sg, ⟨a1, t8, fun w _ => ⟨Nat.two_pow_pos t, fun _ => rfl⟩⟩, ⟨n1.to (fun j p q => by rw [eI2, xw_upn (by omega), eI1, xw_upn (by omega)]) (fun j p q => hj j (by omega)), by rw [eI2, xw_upn (by decide), eI1, xw_ups], fun w hw => hz w hw⟩, ⟨m1.to (fun j p => by rw [eJ1, xw_upn (by omega)]) (fun j p q => hj2 j (by omega)), by rw [eJ1, xw_ups], fun w hw => hz2 w hw⟩, ⟨c1, by rw [eI2, xw_upn (by decide), eI1, xw_upn (by decide)]; exact c2, by rw [eJ1, xw_upn (by decide)]; exact c3, fun i hi => by rw [hj 10 (by decide), hj2 7 (by decide)]; exact c4 i hi⟩, g1, fun hz0 => ?_⟩, hj2 14 (by decide), hj2 15 (by decide)⟩
    rw [eI2, xw_ups] at hz0; exact absurd hz0 (by decide)
  · refine ⟨fun y => absurd y z, fun _ => ⟨fun _ => ⟨fun y => absurd rfl y, fun _ => ⟨rfl, hsame, rfl, rfl⟩⟩, fun y => ?_⟩⟩
    exact absurd (Int32.not_lt.mp y) z2
/-- a number between 0 and one less than another -/
theorem xs_inp {x : Int32} {n : Nat} {post : Int32 → Prop} (hn : n < 2 ^ 30) (h1 : ∀ k, k < n → x = nI k → post 1) (h0 : (∀ k, k < n → x ≠ nI k) → post 0) : sm_X8_in x 0 (nI n - 1) post := by
  unfold sm_X8_in
  refine ⟨fun z => h0 (fun k hk e => ?_), fun z => ?_⟩
  · rw [e] at z; exact absurd z (nI_pos (by omega))
  · obtain ⟨k, hk, rfl⟩ := nI_of z
    by_cases hn0 : n = 0
    · subst hn0
      refine ⟨fun _ => h0 (fun j hj => by omega), fun y => absurd (show nI 0 - 1 < nI k from ?_) y⟩
      exact Int32.lt_of_lt_of_le (by decide : nI 0 - 1 < nI 0) ((xn_le (by omega) (by omega)).mpr (Nat.zero_le _))
    · rw [show (1 : Int32) = nI 1 from rfl, xn_sub (by omega)]
      refine ⟨fun y => h0 (fun j hj e => ?_), fun y => h1 k ?_ rfl⟩
      · have := (xn_lt (by omega) (by omega)).mp y
        have := (xn_eq (by omega) (by omega)).mp e
        omega
      · have : ¬ n - 1 < k := fun w => y ((xn_lt (by omega) (by omega)).mpr w)
        omega
theorem xq_link {Q : xc_T} {I : xw_I} {F : xw_F} {G : xw_G} {J : xw_I} {K : xw_F} {L : xw_G} (x y : Int32) (h : xr_R Q I F G J K) : sm_X7_link x y I F G (fun r I1 F1 G1 => sm_X8_link x y J K L (fun r2 J1 K1 _ => r2 = r ∧ xr_R Q I1 F1 G1 J1 K1 ∧ xr_im K K1)) := by
  have hsame := h
  obtain ⟨A, T, lk, c, sg, ⟨a1, a2, a3⟩, ⟨n1, n2, n3⟩, ⟨m1, m2, m3⟩, ⟨c1, c2, c3, c4⟩, g1, q1⟩ := h
  have hn12 := xa_n_le a1
  have hbad : (∀ i j, i < xa_n A → j < T → x = nI i → y = nI j → False) → sm_X8_link x y J K L (fun r2 J1 K1 _ => r2 = -1 ∧ xr_R Q I F G J1 K1 ∧ xr_im K K1) := by
    intro hno
    unfold sm_X8_link
    rw [xe_Mn m1]
    refine xs_inp (by omega) (fun i hi ei => ⟨fun z => absurd z (by decide), fun _ => ?_⟩) (fun _ => ⟨fun _ => ⟨rfl, hsame, rfl, rfl⟩, fun z => absurd rfl z⟩)
    rw [m2]
    exact xs_inp (by omega) (fun j hj ej => absurd (hno i j hi hj ei ej) id) (fun _ => ⟨fun z => absurd rfl z, fun _ => ⟨rfl, hsame, rfl, rfl⟩⟩)
  unfold sm_X7_link
  rw [xe_Nn n1, n2]
  refine ⟨fun z => hbad (fun i j hi hj ei ej => ?_), fun z => ?_⟩
  · rw [ei] at z; exact absurd z (nI_pos (by omega))
  · obtain ⟨i, hi31, rfl⟩ := nI_of z
    refine ⟨fun z2 => hbad (fun i2 j hi hj ei ej => ?_), fun z2 => ?_⟩
    · have := (xn_le (by omega) hi31).mp z2
      have := (xn_eq hi31 (by omega)).mp ei
      omega
    · have hi : i < xa_n A := Nat.not_le.mp (fun w => z2 ((xn_le (by omega) hi31).mpr w))
      refine ⟨fun z3 => hbad (fun i2 j hi hj ei ej => ?_), fun z3 => ?_⟩
      · rw [ej] at z3; exact absurd z3 (nI_pos (by omega))
      · obtain ⟨j, hj31, rfl⟩ := nI_of z3
        refine ⟨fun z4 => ?_, fun z4 => hbad (fun i2 j2 hi2 hj2 ei ej => ?_)⟩
        · have hj : j < T := (xn_lt hj31 (by omega)).mp z4
          have hin := vp_in_nI (show i < 12 by omega) (show 12 < 2 ^ 31 by omega)
          refine ⟨hin, fun v ev => ⟨hin, fun F1 eF1 I1 eI1 => ⟨hin, fun w ew => ?_⟩⟩⟩
          rw [nI_clamp hi31] at ev eF1 ew
          rw [n3 i (by omega)] at ev
          subst ev
          rw [xb_shl j (by omega), nx_xor] at eF1
          rw [eF1, xw_ups, xb_updi, if_pos rfl] at ew
          subst ew
          unfold sm_X8_link
          rw [xe_Mn m1]
          refine xs_inp (by omega) (fun i2 hi2 ei => ⟨fun z => absurd z (by decide), fun _ => ?_⟩) (fun w => absurd rfl (w i hi))
          rw [m2]
          refine xs_inp (by omega) (fun j2 hj2 ej => ⟨fun _ => ?_, fun z => absurd z (by decide)⟩) (fun w => absurd rfl (w j hj))
          refine ⟨hin, fun v ev => ⟨hin, fun K1 eK1 => ⟨hin, fun w ew => ?_⟩⟩⟩
          rw [nI_clamp hi31] at ev eK1 ew
          rw [m3 i (by omega)] at ev
          subst ev
          rw [xb_shl j (by omega), nx_xor] at eK1
          rw [eK1, xw_ups, xb_updi, if_pos rfl] at ew
          subst ew
          refine ⟨rfl, ⟨A, T, xa_u lk i (lk i ^^^ 2 ^ j), c, sg, ⟨a1, a2, fun w hw => ?_⟩, ⟨n1.to (fun j p q => by rw [eI1, xw_upn (by omega)]) (fun j p q => by rw [eF1, xw_upn (by omega)]), by rw [eI1, xw_upn (by decide)]; exact n2, fun w hw => ?_⟩, ⟨m1.to (fun _ _ => rfl) (fun j p q => by rw [eK1, xw_upn (by omega)]), m2, fun w hw => ?_⟩, ⟨c1, by rw [eI1, xw_upn (by decide)]; exact c2, c3, fun q hq => by rw [eF1, xw_upn (by decide), eK1, xw_upn (by decide)]; exact c4 q hq⟩, g1, fun hz0 => ?_⟩, by rw [eK1, xw_upn (by decide)], by rw [eK1, xw_upn (by decide)]⟩
          · by_cases hwi : w = i
            · subst hwi
              rw [xa_us]
              exact ⟨Nat.xor_lt_two_pow (a3 w hw).1 (Nat.pow_lt_pow_right (by decide) hj), fun z => by omega⟩
            · rw [xa_un hwi]; exact a3 w hw
          · rw [eF1, xw_ups, xb_updi]
            by_cases hwi : w = i
            · subst hwi; rw [if_pos rfl, xa_us]
            · rw [if_neg hwi, xa_un hwi]; exact n3 w hw
          · rw [eK1, xw_ups, xb_updi]
            by_cases hwi : w = i
            · subst hwi; rw [if_pos rfl, xa_us]
            · rw [if_neg hwi, xa_un hwi]; exact m3 w hw
          · rw [eI1, xw_ups] at hz0; exact absurd hz0 (by decide)
        · have := (xn_eq hj31 (by omega)).mp ej
          exact z4 ((xn_lt hj31 (by omega)).mpr (by omega))
theorem xq_told {Q : xc_T} {I : xw_I} {F : xw_F} {G : xw_G} {J : xw_I} {K : xw_F} {L : xw_G} (x : Int32) (h : xr_R Q I F G J K) : sm_X7_told x I F G (fun r => sm_X8_told x J K L (fun r2 => r2 = r)) := by
  obtain ⟨A, T, lk, c, sg, ⟨a1, a2, a3⟩, ⟨n1, n2, n3⟩, ⟨m1, m2, m3⟩, ⟨c1, c2, c3, c4⟩, g1, q1⟩ := h
  have hn12 := xa_n_le a1
  have e7 := xe_Nn n1
  have e0 := xe_Mn m1
  intro k hk
  have hrest : (x < 10 ∨ nI (10 + xa_n A) ≤ x) → k := by
    intro hx
    apply hk
    unfold bd_X7_told_36 sm_X8_told
    refine ⟨fun z => ⟨fun _ => by rw [c2, c3], fun w => absurd (z ▸ w) (by decide), fun w => absurd (z ▸ w) (by decide), fun w => absurd z w⟩, fun z => ⟨fun w => absurd (z ▸ w) (by decide), fun _ => by rw [e7, e0], fun w => absurd (z ▸ w) (by decide), fun _ w => absurd z w⟩, fun z => ⟨fun w => absurd (z ▸ w) (by decide), fun w => absurd (z ▸ w) (by decide), fun _ => by rw [n2, m2], fun _ _ w => absurd z w⟩, fun z0 z1 z2 => ⟨fun w => absurd w z0, fun w => absurd w z1, fun w => absurd w z2, fun _ _ _ => ?_⟩⟩
    rw [e0, show (9 : Int32) = nI 9 from rfl, nI_add]
    unfold sm_X8_in
    have hfin : ∀ p : Prop, p → ((0 : Int32) = 0 → p) ∧ (¬ (0 : Int32) = 0 → vp_in (x - 10) 12 ∧ ∀ v7 : Int32, v7 = K 6 (x - 10).toNatClampNeg → v7 = -2) := fun p hp => ⟨fun _ => hp, fun w => absurd rfl w⟩
    refine ⟨fun _ => ⟨fun _ => rfl, fun w => absurd rfl w⟩, fun z => ⟨fun _ => ⟨fun _ => rfl, fun w => absurd rfl w⟩, fun z9 => ?_⟩⟩
    exfalso
    rcases hx with hx | hx
    · exact z hx
    · apply z9
      exact Int32.lt_of_lt_of_le ((xn_lt (by omega) (by omega)).mpr (by omega)) hx
  unfold bd_X7_told_0
  rw [e7, show (10 : Int32) = nI 10 from rfl, nI_add]
  refine ⟨fun z => hrest (Or.inl z), fun z => ⟨fun z2 => hrest (Or.inr z2), fun z2 => ?_⟩⟩
  have hx0 : ¬ x < 0 := fun w => z (Int32.lt_of_lt_of_le w (by decide))
  obtain ⟨t, ht, rfl⟩ := nI_of hx0
  have t1 : 10 ≤ t := Nat.not_lt.mp (fun w => z ((xn_lt (by omega) (by omega)).mpr w))
  have t2 : t < 10 + xa_n A := Nat.not_le.mp (fun w => z2 ((xn_le (by omega) (by omega)).mpr w))
  rw [xn_sub t1]
  have hin := vp_in_nI (show t - 10 < 12 by omega) (show 12 < 2 ^ 31 by omega)
  refine ⟨hin, fun v ev => ?_⟩
  rw [nI_clamp (by omega), n3 _ (by omega)] at ev
  unfold sm_X8_told
  have hne : ∀ k : Nat, k < 3 → nI t ≠ nI k := fun k hk w => by have := (xn_eq (by omega) (by omega)).mp w; omega
  refine ⟨fun w => absurd w (hne 0 (by omega)), fun w => absurd w (hne 1 (by omega)), fun w => absurd w (hne 2 (by omega)), fun _ _ _ => ?_⟩
  rw [e0, show (9 : Int32) = nI 9 from rfl, nI_add, show (10 : Int32) = nI 10 from rfl, xn_sub t1]
  refine xs_in (by omega) (by omega) (by omega) (fun _ _ => ⟨fun w => absurd w (by decide), fun _ => ⟨hin, fun w ew => ?_⟩⟩) (fun w => absurd ⟨t1, by omega⟩ w)
  rw [ew, nI_clamp (by omega), m3 _ (by omega), ev]
end
section
/-! ===== where pairs and marks are wanted: both sides ===== -/
/-- behind the greatest of the first k bits -/
def xg_bg (s : Nat) : Nat → Nat
  | 0 => 0
  | k + 1 => if s.testBit k = true then k + 1 else xg_bg s k
def xg_b (s : Nat) : Nat := xg_bg s 8
/-- the least bit from k on, d of them -/
def xg_lb (s : Nat) : Nat → Nat → Nat
  | _, 0 => 0
  | k, d + 1 => if s.testBit k = true then k else xg_lb s (k + 1) d
def xg_l (s : Nat) : Nat := xg_lb s 0 8
def xg_nr (lk : Nat → Nat) : Nat → Nat
  | 0 => 0
  | j + 1 => if lk j = 0 then xg_nr lk j else lk j
def xg_an (lk : Nat → Nat) (g : Nat) : Nat := xg_b (xg_nr lk g)
def xg_un (lk : Nat → Nat) (a : Nat) : Nat → Nat
  | 0 => 0
  | w + 1 => if a ≤ w then xg_un lk a w ||| lk w else xg_un lk a w
def xg_wf (lk : Nat → Nat) (a b : Nat) : Nat := if xg_un lk a b = 0 then xg_an lk a else xg_l (xg_un lk a b)
def xg_wt (lk : Nat → Nat) (a b : Nat) : Nat := if xg_un lk a b = 0 then xg_an lk a else xg_b (xg_un lk a b)
theorem xg_bg_le (s : Nat) : ∀ k, xg_bg s k ≤ k
  | 0 => Nat.le_refl 0
  | k + 1 => by rw [xg_bg]; split; exact Nat.le_refl _; have := xg_bg_le s k; omega
theorem xg_bg_T {s T : Nat} (h : s < 2 ^ T) : ∀ k, T ≤ k → xg_bg s k = xg_bg s T
  | 0, hk => by rw [show T = 0 by omega]
  | k + 1, hk => by
    by_cases hT : T = k + 1
    · rw [hT]
    · rw [xg_bg, if_neg (by rw [Nat.testBit_lt_two_pow (Nat.lt_of_lt_of_le h (Nat.pow_le_pow_right (by decide) (by omega)))]; decide)]
      exact xg_bg_T h k (by omega)
theorem xg_b_le {s T : Nat} (h : s < 2 ^ T) (hT : T ≤ 8) : xg_b s ≤ T := by
  rw [xg_b, xg_bg_T h 8 hT]; exact xg_bg_le s T
theorem xg_nr_lt {lk : Nat → Nat} {T : Nat} (h : ∀ w, w < 12 → lk w < 2 ^ T) : ∀ g, g ≤ 12 → xg_nr lk g < 2 ^ T
  | 0, _ => Nat.two_pow_pos T
  | g + 1, hg => by rw [xg_nr]; split; exact xg_nr_lt h g (by omega); exact h g (by omega)
theorem xg_un_lt {lk : Nat → Nat} {T a : Nat} (h : ∀ w, w < 12 → lk w < 2 ^ T) : ∀ b, b ≤ 12 → xg_un lk a b < 2 ^ T
  | 0, _ => Nat.two_pow_pos T
  | b + 1, hb => by
    rw [xg_un]; split
    · exact Nat.or_lt_two_pow (xg_un_lt h b (by omega)) (h b (by omega))
    · exact xg_un_lt h b (by omega)
theorem xg_lb_le : ∀ s, s < 256 → xg_l s ≤ xg_b s ∧ (s ≠ 0 → xg_l s < xg_b s) := by decide +kernel
theorem xg_an_le {lk : Nat → Nat} {T g : Nat} (h : ∀ w, w < 12 → lk w < 2 ^ T) (hT : T ≤ 8) (hg : g ≤ 12) : xg_an lk g ≤ T := xg_b_le (xg_nr_lt h g hg) hT
theorem xg_256 {s T : Nat} (h : s < 2 ^ T) (hT : T ≤ 8) : s < 256 := Nat.lt_of_lt_of_le h (Nat.pow_le_pow_right (by decide) hT : 2 ^ T ≤ 2 ^ 8)
theorem xg_w_le {lk : Nat → Nat} {T a b : Nat} (h : ∀ w, w < 12 → lk w < 2 ^ T) (hT : T ≤ 8) (ha : a ≤ 12) (hb : b ≤ 12) : xg_wf lk a b ≤ xg_wt lk a b ∧ xg_wt lk a b ≤ T := by
  unfold xg_wf xg_wt
  split
  · exact ⟨Nat.le_refl _, xg_an_le h hT ha⟩
  · exact ⟨(xg_lb_le _ (xg_256 (xg_un_lt h b hb) hT)).1, xg_b_le (xg_un_lt h b hb) hT⟩
-- the class
theorem xs_linked {lk : Nat → Nat} {a b : Nat} {I : xw_I} {F : xw_F} {G : xw_G} {post : Int32 → Prop} (hl : ∀ w, w < 12 → F 20 w = nI (lk w)) (ha : a ≤ 12) (hb : b ≤ 12) (h : post (nI (xg_un lk a b))) : sm_X3_linkedBetween (nI a) (nI b) I F G post := by
  intro k hk
  refine xl_up (fun i (_ : Unit) => k (nI (xg_un lk a (min i b))) (nI i)) 12 (fun _ _ => True) ?_ ?_ 0 () (by omega) trivial
  · intro i _ hi _ ih
    apply hk
    unfold bd_X3_linkedBetween_5
    refine ⟨fun c => absurd ((xn_le (a := 12) (by omega) (by omega)).mp c) (by omega), fun _ => ⟨fun c => ?_, fun c => ⟨fun c2 => ?_, fun c2 => ?_⟩⟩⟩
    · have c := (xn_lt (by omega) (by omega)).mp c
      intro v ev
      rw [ev, nI_1]
      have := ih () trivial
      by_cases hib : i < b
      · rw [show min (i + 1) b = i + 1 by omega, xg_un, if_neg (by omega)] at this
        rw [show min i b = i by omega]; exact this
      · rw [show min (i + 1) b = b by omega] at this
        rw [show min i b = b by omega]; exact this
    · have c2 := (xn_le (by omega) (by omega)).mp c2
      intro v ev
      rw [ev, nI_1]
      have := ih () trivial
      rw [show min (i + 1) b = b by omega] at this
      rw [show min i b = b by omega]; exact this
    · have c : a ≤ i := Nat.not_lt.mp (fun z => c ((xn_lt (by omega) (by omega)).mpr z))
      have c2 : i < b := Nat.not_le.mp (fun z => c2 ((xn_le (by omega) (by omega)).mpr z))
      refine ⟨vp_in_nI hi (by omega), fun v ev w ew u eu => ?_⟩
      rw [ew, eu, nI_1, ev, nI_clamp (by omega), hl i hi, xb_or]
      have := ih () trivial
      rw [show min (i + 1) b = i + 1 by omega, xg_un, if_pos c] at this
      rw [show min i b = i by omega]; exact this
  · intro _ _
    apply hk
    unfold bd_X3_linkedBetween_5
    exact ⟨fun _ => by rw [show min 12 b = b by omega]; exact h, fun c => absurd ((xn_le (a := 12) (b := 12) (by omega) (by omega)).mpr (by omega)) c⟩
theorem xs_behind {s : Nat} {post : Int32 → Prop} (hs : s < 2 ^ 31) (h : post (nI (xg_b s))) : sm_X3_behindGreatest (nI s) post := by
  intro k hk
  have key : ∀ j, j ≤ 8 → xg_bg s j = xg_b s → (match j with | 0 => k (-1) | i + 1 => k (nI i)) := by
    intro j
    induction j with
    | zero =>
      intro _ e
      apply hk
      unfold bd_X3_behindGreatest_3
      refine ⟨fun _ => ?_, fun c => absurd (by decide) c⟩
      rw [← e] at h; exact h
    | succ i ih =>
      intro hi e
      apply hk
      unfold bd_X3_behindGreatest_3
      refine ⟨fun c => absurd c (nI_pos (by omega)), fun _ => xs_has hs (by omega) (fun hb => ⟨fun _ v ev => ?_, fun c => absurd rfl c⟩) (fun hb => ⟨fun c => absurd c (by decide), fun _ => ?_⟩)⟩
      · rw [xg_bg, if_neg (by rw [hb]; decide)] at e
        have := ih (by omega) e
        cases i with
        | zero => rw [ev]; exact this
        | succ i => rw [ev, xn_dec (by omega)]; exact this
      · rw [xg_bg, if_pos hb] at e
        rw [nI_1, e]; exact h
  exact key 8 (Nat.le_refl _) rfl
theorem xs_least {s : Nat} {post : Int32 → Prop} (hs : s < 2 ^ 31) (h : post (nI (xg_l s))) : sm_X3_least (nI s) post := by
  intro k hk
  have key : ∀ d i, i + d = 8 → xg_lb s i d = xg_l s → k (nI i) := by
    intro d
    induction d with
    | zero =>
      intro i hi e
      apply hk
      unfold bd_X3_least_2
      refine ⟨fun _ => by rw [← e] at h; exact h, fun c => absurd ((xn_le (a := 8) (by omega) (by omega)).mpr (by omega)) c⟩
    | succ d ih =>
      intro i hi e
      apply hk
      unfold bd_X3_least_2
      refine ⟨fun c => absurd ((xn_le (a := 8) (by omega) (by omega)).mp c) (by omega), fun _ => xs_has hs (by omega) (fun hb => ⟨fun _ v ev => ?_, fun c => absurd rfl c⟩) (fun hb => ⟨fun c => absurd c (by decide), fun _ => ?_⟩)⟩
      · rw [xg_lb, if_neg (by rw [hb]; decide)] at e
        rw [ev, nI_1]; exact ih (i + 1) (by omega) e
      · rw [xg_lb, if_pos hb] at e
        rw [e]; exact h
  exact key 8 0 rfl rfl
theorem xs_anchor {lk : Nat → Nat} {T g : Nat} {I : xw_I} {F : xw_F} {G : xw_G} {post : Int32 → Prop} (hl : ∀ w, w < 12 → F 20 w = nI (lk w)) (hT : T ≤ 8) (hlt : ∀ w, w < 12 → lk w < 2 ^ T) (hg : g ≤ 12) (h : post (nI (xg_an lk g))) : sm_X3_anchor (nI g) I F G post := by
  intro k hk
  refine xl_up (fun i (_ : Unit) => k (nI (xg_nr lk (min i g))) (nI i)) 12 (fun _ _ => True) ?_ ?_ 0 () (by omega) trivial
  · intro i _ hi _ ih
    apply hk
    unfold bd_X3_anchor_4
    have h256 := xg_256 (hlt i hi) hT
    refine ⟨fun c => absurd ((xn_le (a := 12) (by omega) (by omega)).mp c) (by omega), fun _ => ⟨fun c => ?_, fun c => ?_⟩⟩
    · have c := (xn_le (by omega) (by omega)).mp c
      intro v ev
      rw [ev, nI_1]
      have := ih () trivial
      rw [show min (i + 1) g = g by omega] at this
      rw [show min i g = g by omega]; exact this
    · have c : i < g := Nat.not_le.mp (fun z => c ((xn_le (by omega) (by omega)).mpr z))
      refine ⟨vp_in_nI hi (by omega), fun v ev => ?_⟩
      rw [nI_clamp (by omega), hl i hi] at ev
      have := ih () trivial
      rw [show min (i + 1) g = i + 1 by omega, xg_nr] at this
      rw [show min i g = i by omega]
      refine ⟨fun z w ew => ?_, fun z => ⟨vp_in_nI hi (by omega), fun w ew u eu => ?_⟩⟩
      · rw [ev] at z
        have z : lk i = 0 := (xn_eq (b := 0) (by omega) (by omega)).mp z
        rw [if_pos z] at this
        rw [ew, nI_1]; exact this
      · have z : lk i ≠ 0 := fun y => z (by rw [ev, y]; rfl)
        rw [if_neg z] at this
        rw [ew, eu, nI_1, nI_clamp (by omega), hl i hi]; exact this
  · intro _ _
    apply hk
    unfold bd_X3_anchor_4
    refine ⟨fun _ => ?_, fun c => absurd ((xn_le (a := 12) (b := 12) (by omega) (by omega)).mpr (by omega)) c⟩
    rw [show min 12 g = g by omega]
    have := xg_256 (xg_nr_lt hlt g hg) hT
    exact xs_behind (by omega) h
-- the reference
theorem xs_manchor {lk : Nat → Nat} {T g : Nat} {I : xw_I} {F : xw_F} {G : xw_G} {post : Int32 → Prop} (hI : I 2 = nI T) (hl : ∀ w, w < 12 → F 6 w = nI (lk w)) (hT : T ≤ 8) (hlt : ∀ w, w < 12 → lk w < 2 ^ T) (hg : g ≤ 12) (h : post (nI (xg_an lk g))) : sm_X8_anchor (nI g) I F G post := by
  intro k4 k15 r4 r15
  have key : ∀ j, j ≤ 12 → xg_an lk j = xg_an lk g → (match j with | 0 => k4 (-1) | i + 1 => k4 (nI i)) := by
    intro j
    induction j with
    | zero =>
      intro _ e
      apply r4
      unfold bd_X8_anchor_4
      refine ⟨fun _ => ?_, fun c => absurd (by decide) c⟩
      rw [← e, show xg_an lk 0 = 0 from (by unfold xg_an xg_nr; decide)] at h; exact h
    | succ i ih =>
      intro hi e
      have h256 := xg_256 (hlt i (by omega)) hT
      have hnext : lk i = 0 → ∀ v : Int32, v = nI i + (-1) → k4 v := by
        intro z v ev
        rw [xg_an, xg_nr, if_pos z] at e
        have := ih (by omega) e
        cases i with
        | zero => rw [ev]; exact this
        | succ i => rw [ev, xn_dec (by omega)]; exact this
      have inner : ∀ t, t ≤ T → xg_bg (lk i) t = xg_bg (lk i) T → (match t with | 0 => k15 (nI i) (-1) | q + 1 => k15 (nI i) (nI q)) := by
        intro t
        induction t with
        | zero =>
          intro _ e2
          apply r15
          unfold bd_X8_anchor_15
          refine ⟨fun _ => hnext ?_, fun c => absurd (by decide) c⟩
          have hz : xg_b (lk i) = 0 := by rw [xg_b, xg_bg_T (hlt i (by omega)) 8 hT, ← e2]; rfl
          have := xg_lb_le (lk i) h256
          rw [hz] at this
          exact Decidable.byContradiction (fun y => by have := this.2 y; omega)
        | succ q ih2 =>
          intro hq e2
          apply r15
          unfold bd_X8_anchor_15
          refine ⟨fun c => absurd c (nI_pos (by omega)), fun _ => ⟨vp_in_nI (by omega) (by omega), fun v ev => ?_⟩⟩
          rw [nI_clamp (by omega), hl i (by omega)] at ev
          subst ev
          rw [xb_bit (by omega) (by omega), xn_b1]
          refine ⟨fun z w ew => ?_, fun z => ?_⟩
          · rw [xg_bg, if_neg z] at e2
            have := ih2 (by omega) e2
            cases q with
            | zero => rw [ew]; exact this
            | succ q => rw [ew, xn_dec (by omega)]; exact this
          · rw [xg_bg, if_pos z] at e2
            have hne : lk i ≠ 0 := fun y => by rw [y] at z; simp at z
            rw [xg_an, xg_nr, if_neg hne, xg_b, xg_bg_T (hlt i (by omega)) 8 hT, ← e2] at e
            rw [nI_1, e]; exact h
      apply r4
      unfold bd_X8_anchor_4
      refine ⟨fun c => absurd c (nI_pos (by omega)), fun _ v ev => ?_⟩
      have := inner T (Nat.le_refl _) rfl
      rw [hI] at ev
      cases T with
      | zero => rw [ev]; exact this
      | succ T => rw [ev, nI_pred]; exact this
  unfold bd_X8_anchor_0
  intro v ev
  have := key g hg rfl
  cases g with
  | zero => rw [ev]; exact this
  | succ g => rw [ev, nI_pred]; exact this
theorem xs_linksOf {lk : Nat → Nat} {p a b : Nat} {I : xw_I} {F : xw_F} {G : xw_G} {post : Int32 → Prop} (hl : ∀ w, w < 12 → F 6 w = nI (lk w)) (hp : p < 5) (h1 : F 1 p = nI a) (h2 : F 2 p = nI b) (hab : a ≤ b) (hb : b ≤ 12) (h : post (nI (xg_un lk a b))) : sm_X8_linksOf (nI p) I F G post := by
  intro k hk
  have hin := vp_in_nI hp (show 5 < 2 ^ 31 by omega)
  have hz : ∀ j, j ≤ a → xg_un lk a j = 0 := by
    intro j
    induction j with
    | zero => intro _; rfl
    | succ j ih => intro hj; rw [xg_un, if_neg (by omega)]; exact ih (by omega)
  have key : ∀ d i, a ≤ i → i + d = b → k (nI (xg_un lk a i)) (nI i) := by
    intro d
    induction d with
    | zero =>
      intro i hi e
      apply hk
      unfold bd_X8_linksOf_9
      refine ⟨hin, fun v ev => ?_⟩
      rw [nI_clamp (by omega), h2] at ev
      rw [ev]
      exact ⟨fun _ => by rw [show i = b by omega]; exact h, fun c => absurd ((xn_le (by omega) (by omega)).mpr (by omega)) c⟩
    | succ d ih =>
      intro i hi e
      apply hk
      unfold bd_X8_linksOf_9
      refine ⟨hin, fun v ev => ?_⟩
      rw [nI_clamp (by omega), h2] at ev
      rw [ev]
      refine ⟨fun c => absurd ((xn_le (by omega) (by omega)).mp c) (by omega), fun _ => ⟨vp_in_nI (by omega) (by omega), fun w ew u eu x ex => ?_⟩⟩
      rw [nI_clamp (by omega), hl i (by omega)] at ew
      rw [eu, ex, ew, nI_1, xb_or]
      have := ih (i + 1) (by omega) (by omega)
      rw [xg_un, if_pos hi] at this
      exact this
  unfold bd_X8_linksOf_0
  refine ⟨hin, fun v ev => ?_⟩
  rw [nI_clamp (by omega), h1] at ev
  rw [ev]
  have := key (b - a) a (Nat.le_refl _) (by omega)
  rw [hz a (Nat.le_refl _)] at this
  exact this
theorem xs_mwf {lk : Nat → Nat} {T p a b : Nat} {I : xw_I} {F : xw_F} {G : xw_G} {post : Int32 → Prop} (hI : I 2 = nI T) (hl : ∀ w, w < 12 → F 6 w = nI (lk w)) (hT : T ≤ 8) (hlt : ∀ w, w < 12 → lk w < 2 ^ T) (hp : p < 5) (h1 : F 1 p = nI a) (h2 : F 2 p = nI b) (hab : a ≤ b) (hb : b ≤ 12) (h : post (nI (xg_wf lk a b))) : sm_X8_wantedFrom (nI p) I F G post := by
  intro k hk
  unfold bd_X8_wantedFrom_0
  have hu := xg_256 (xg_un_lt (a := a) hlt b hb) hT
  refine xs_linksOf hl hp h1 h2 hab hb ⟨fun z => ?_, fun z => ⟨vp_in_nI hp (by omega), fun v ev => ?_⟩⟩
  · have z : xg_un lk a b ≠ 0 := fun y => z (by rw [y]; rfl)
    rw [xg_wf, if_neg z] at h
    have key : ∀ d i, i + d = 8 → (∀ q, q < i → (xg_un lk a b).testBit q = false) → xg_lb (xg_un lk a b) i d = xg_l (xg_un lk a b) → k (nI (xg_un lk a b)) (nI i) := by
      intro d
      induction d with
      | zero =>
        intro i hi hq _
        exfalso
        apply z
        apply Nat.eq_of_testBit_eq
        intro q
        rw [Nat.zero_testBit]
        by_cases hq8 : q < i
        · exact hq q hq8
        · exact Nat.testBit_lt_two_pow (Nat.lt_of_lt_of_le hu (Nat.pow_le_pow_right (by decide) (by omega) : 2 ^ 8 ≤ 2 ^ q))
      | succ d ih =>
        intro i hi hq e
        apply hk
        unfold bd_X8_wantedFrom_23
        rw [xb_bit (by omega) (by omega)]
        refine ⟨fun y => ?_, fun y => ?_⟩
        · have y : (xg_un lk a b).testBit i = true := by
            cases hb : (xg_un lk a b).testBit i
            · rw [hb] at y; exact absurd rfl y
            · rfl
          rw [xg_lb, if_pos y] at e
          rw [e]; exact h
        · have y : (xg_un lk a b).testBit i = false := by
            cases hb : (xg_un lk a b).testBit i
            · rfl
            · rw [hb] at y; exact absurd y (by decide)
          intro v ev
          rw [ev, nI_1]
          rw [xg_lb, if_neg (by rw [y]; decide)] at e
          refine ih (i + 1) (by omega) (fun q hq2 => ?_) e
          by_cases hqi : q = i
          · rw [hqi]; exact y
          · exact hq q (by omega)
    exact key 8 0 rfl (fun q hq => by omega) rfl
  · rw [nI_clamp (by omega), h1] at ev
    have z : xg_un lk a b = 0 := (xn_eq (b := 0) (by omega) (by omega)).mp z
    rw [xg_wf, if_pos z] at h
    rw [ev]
    exact xs_manchor hI hl hT hlt (by omega) h
theorem xs_mwt {lk : Nat → Nat} {T p a b : Nat} {I : xw_I} {F : xw_F} {G : xw_G} {post : Int32 → Prop} (hI : I 2 = nI T) (hl : ∀ w, w < 12 → F 6 w = nI (lk w)) (hT : T ≤ 8) (hlt : ∀ w, w < 12 → lk w < 2 ^ T) (hp : p < 5) (h1 : F 1 p = nI a) (h2 : F 2 p = nI b) (hab : a ≤ b) (hb : b ≤ 12) (h : post (nI (xg_wt lk a b))) : sm_X8_wantedTo (nI p) I F G post := by
  intro k hk
  unfold bd_X8_wantedTo_0
  have hut := xg_un_lt (a := a) hlt b hb
  have hu := xg_256 hut hT
  refine xs_linksOf hl hp h1 h2 hab hb ⟨fun z v ev => ?_, fun z => ⟨vp_in_nI hp (by omega), fun v ev => ?_⟩⟩
  · have z : xg_un lk a b ≠ 0 := fun y => z (by rw [y]; rfl)
    rw [xg_wt, if_neg z, xg_b, xg_bg_T hut 8 hT] at h
    have key : ∀ t, t ≤ T → xg_bg (xg_un lk a b) t = xg_bg (xg_un lk a b) T → k (nI (xg_un lk a b)) (nI t) := by
      intro t
      induction t with
      | zero =>
        intro _ e
        exfalso
        have := xg_lb_le _ hu
        rw [xg_b, xg_bg_T hut 8 hT, ← e, xg_bg] at this
        have := this.2 z
        omega
      | succ t ih =>
        intro ht e
        apply hk
        unfold bd_X8_wantedTo_26
        rw [nI_pred, xb_bit (by omega) (by omega)]
        refine ⟨fun y => ?_, fun y => ?_⟩
        · have y : (xg_un lk a b).testBit t = true := by
            cases hb : (xg_un lk a b).testBit t
            · rw [hb] at y; exact absurd rfl y
            · rfl
          rw [xg_bg, if_pos y] at e
          rw [e]; exact h
        · have y : (xg_un lk a b).testBit t = false := by
            cases hb : (xg_un lk a b).testBit t
            · rfl
            · rw [hb] at y; exact absurd y (by decide)
          intro v ev
          rw [ev, xn_dec (by omega)]
          rw [xg_bg, if_neg (by rw [y]; decide)] at e
          exact ih (by omega) e
    rw [ev, hI]
    exact key T (Nat.le_refl _) rfl
  · rw [nI_clamp (by omega), h1] at ev
    have z : xg_un lk a b = 0 := (xn_eq (b := 0) (by omega) (by omega)).mp z
    rw [xg_wt, if_pos z] at h
    rw [ev]
    exact xs_manchor hI hl hT hlt (by omega) h
/-- which pairs are missing, of the first k -/
def xg_ms (lk : Nat → Nat) (ps : Nat) (op cl : Nat → Nat) : Nat → Nat
  | 0 => 0
  | p + 1 => if ps.testBit p = true ∧ xg_un lk (op p) (cl p) = 0 then xg_ms lk ps op cl p ||| 2 ^ p else xg_ms lk ps op cl p
/-- what find leaves behind -/
def xw_found (lk : Nat → Nat) (I : xw_I) (F : xw_F) : xa_R → Prop
  | (_, ps, mb, _, _, op, cl, _, _, mg, _, _, _) => I 13 = nI (xg_ms lk ps op cl 5) ∧
    (∀ p, p < 5 → ps.testBit p = true → F 22 p = nI (xg_wf lk (op p) (cl p)) ∧ F 23 p = nI (xg_wt lk (op p) (cl p))) ∧ (∀ m, m < 3 → mb.testBit m = true → F 24 m = nI (xg_an lk (mg m)))
theorem xs_findPair {lk : Nat → Nat} {T p a b : Nat} {I : xw_I} {F : xw_F} {G : xw_G} {post : xw_I → xw_F → xw_G → Prop} (hl : ∀ w, w < 12 → F 20 w = nI (lk w)) (hT : T ≤ 8) (hlt : ∀ w, w < 12 → lk w < 2 ^ T) (hp : p < 5) (h1 : F 13 p = nI a) (h2 : F 14 p = nI b) (hab : a ≤ b) (hb : b ≤ 12)
    (h : ∀ I1 F1, I1 13 = (if xg_un lk a b = 0 then I 13 ||| nI (2 ^ p) else I 13) → (∀ j, j ≠ 13 → I1 j = I j) → F1 22 p = nI (xg_wf lk a b) → F1 23 p = nI (xg_wt lk a b) → (∀ q, q ≠ p → F1 22 q = F 22 q ∧ F1 23 q = F 23 q) → (∀ j, j ≠ 22 → j ≠ 23 → F1 j = F j) → post I1 F1 G) : sm_X5_findPair (nI p) I F G post := by
  have hin := vp_in_nI hp (show 5 < 2 ^ 31 by omega)
  have hu := xg_256 (xg_un_lt (a := a) hlt b hb) hT
  have hcp : (nI p).toNatClampNeg = p := nI_clamp (by omega)
  unfold sm_X5_findPair
  refine ⟨hin, fun v ev => ⟨hin, fun w ew => ?_⟩⟩
  rw [hcp, h1] at ev
  rw [hcp, h2] at ew
  subst ev ew
  refine xs_linked hl (by omega) hb ⟨fun z => ?_, fun z I1 eI1 => ?_⟩
  · have z : xg_un lk a b ≠ 0 := fun y => z (by rw [y]; rfl)
    refine xs_least (by omega) ⟨hin, fun F1 eF1 => ?_⟩
    refine xs_behind (by omega) ⟨hin, fun F2 eF2 => ?_⟩
    rw [hcp] at eF1 eF2
    refine h I F2 (by rw [if_neg z]) (fun _ _ => rfl) ?_ ?_ ?_ ?_
    · rw [eF2, xw_upn (by decide), eF1, xw_ups, xb_updi, if_pos rfl, xg_wf, if_neg z]
    · rw [eF2, xw_ups, xb_updi, if_pos rfl, xg_wt, if_neg z]
    · intro q hq
      rw [eF2, xw_upn (by decide), xw_ups, xb_updi, if_neg hq, eF1, xw_ups, xb_updi, if_neg hq, xw_upn (by decide)]; exact ⟨rfl, rfl⟩
    · intro j a b; rw [eF2, xw_upn b, eF1, xw_upn a]
  · have z : xg_un lk a b = 0 := (xn_eq (b := 0) (by omega) (by omega)).mp z
    refine xs_anchor hl hT hlt (by omega) ⟨hin, fun F1 eF1 => ⟨hin, fun v ev => ⟨hin, fun F2 eF2 => ?_⟩⟩⟩
    rw [hcp] at eF1 ev eF2
    rw [xb_shl p (by omega)] at eI1
    rw [eF1, xw_ups, xb_updi, if_pos rfl] at ev
    refine h I1 F2 (by rw [if_pos z, eI1, xw_ups]) (fun j hj => by rw [eI1, xw_upn hj]) ?_ ?_ ?_ ?_
    · rw [eF2, xw_upn (by decide), eF1, xw_ups, xb_updi, if_pos rfl, xg_wf, if_pos z]
    · rw [eF2, xw_ups, xb_updi, if_pos rfl, ev, xg_wt, if_pos z]
    · intro q hq
      rw [eF2, xw_upn (by decide), xw_ups, xb_updi, if_neg hq, eF1, xw_ups, xb_updi, if_neg hq, xw_upn (by decide)]; exact ⟨rfl, rfl⟩
    · intro j a b; rw [eF2, xw_upn b, eF1, xw_upn a]
theorem xs_find {lk : Nat → Nat} {T : Nat} {A : xa_R} {I : xw_I} {F : xw_F} {G : xw_G} {post : xw_I → xw_F → xw_G → Prop} (hok : xa_ok A) (hN : xe_N I F A) (hl : ∀ w, w < 12 → F 20 w = nI (lk w)) (hT : T ≤ 8) (hlt : ∀ w, w < 12 → lk w < 2 ^ T)
    (h : ∀ I1 F1, xw_found lk I1 F1 A → (∀ j, j ≠ 13 → I1 j = I j) → (∀ j, j < 22 ∨ 24 < j → F1 j = F j) → post I1 F1 G) : sm_X5_find I F G post := by
  obtain ⟨n, ps, mb, mc, oc, op, cl, hd, hb, mg, mr, st, rk⟩ := A
  obtain ⟨o1, o2, o3, o4, o5, o6, o7, o8, o9, o10, o11, o12, o13, o14⟩ := hok
  obtain ⟨e1, e2, e3, e4, e5, e6, e7⟩ := hN
  intro k7 k40 r7 r40
  unfold bd_X5_find_0
  intro I0 eI0
  refine xl_up (fun i (S : xw_I × xw_F) => k7 (nI i) S.1 S.2 G) 5 (fun i S => S.1 13 = nI (xg_ms lk ps op cl i) ∧ (∀ p, p < i → ps.testBit p = true → S.2 22 p = nI (xg_wf lk (op p) (cl p)) ∧ S.2 23 p = nI (xg_wt lk (op p) (cl p))) ∧ (∀ j, j ≠ 13 → S.1 j = I j) ∧ ∀ j, j < 22 ∨ 23 < j → S.2 j = F j) ?_ ?_ 0 (I0, F) (by omega) ⟨by dsimp only; rw [eI0, xw_ups]; rfl, fun p hp => by omega, fun j hj => by dsimp only; rw [eI0, xw_upn hj], fun _ _ => rfl⟩
  · rintro i ⟨I1, F1⟩ hi ⟨v1, v2, v3, v4⟩ ih
    dsimp only at v1 v2 v3 v4 ⊢
    apply r7
    unfold bd_X5_find_7
    refine ⟨fun c => absurd ((xn_le (a := 5) (by omega) (by omega)).mp c) (by omega), fun _ => ?_⟩
    rw [v3 8 (by decide), e2]
    refine xs_has (by omega) (by omega) (fun hb0 => ⟨fun _ v ev => ?_, fun c => absurd rfl c⟩) (fun hb1 => ⟨fun c => absurd c (by decide), fun _ => ?_⟩)
    · rw [ev, nI_1]
      refine ih (I1, F1) ⟨?_, fun p hp hpb => ?_, v3, v4⟩
      · rw [xg_ms, if_neg (fun y => by rw [hb0] at y; cases y.1)]; exact v1
      · by_cases hpi : p = i
        · rw [hpi, hb0] at hpb; cases hpb
        · exact v2 p (by omega) hpb
    · obtain ⟨b1, b2, b3, b4⟩ := e5 i hi hb1
      obtain ⟨c1, c2, c3, c4, c5⟩ := o8 i hi hb1
      refine xs_findPair (fun w hw => by rw [v4 20 (by omega)]; exact hl w hw) hT hlt hi (by rw [v4 13 (by omega)]; exact b1) (by rw [v4 14 (by omega)]; exact b2) c1 (by omega) (fun I2 F2 w1 w2 w3 w4 w5 w6 => ?_)
      intro v ev
      rw [ev, nI_1]
      refine ih (I2, F2) ⟨?_, fun p hp hpb => ?_, fun j hj => (w2 j hj).trans (v3 j hj), fun j hj => (w6 j (by omega) (by omega)).trans (v4 j hj)⟩
      · dsimp only
        rw [w1, v1, xg_ms]
        by_cases hz : xg_un lk (op i) (cl i) = 0
        · rw [if_pos hz, if_pos ⟨hb1, hz⟩, xb_or]
        · rw [if_neg hz, if_neg (fun y => hz y.2)]
      · dsimp only
        by_cases hpi : p = i
        · subst hpi; exact ⟨w3, w4⟩
        · rw [(w5 p hpi).1, (w5 p hpi).2]; exact v2 p (by omega) hpb
  · rintro ⟨I1, F1⟩ ⟨v1, v2, v3, v4⟩
    dsimp only at v1 v2 v3 v4 ⊢
    apply r7
    unfold bd_X5_find_7
    refine ⟨fun _ => ?_, fun c => absurd ((xn_le (a := 5) (b := 5) (by omega) (by omega)).mpr (by omega)) c⟩
    refine xl_up (fun i Fs => k40 (nI i) I1 Fs G) 3 (fun i Fs => (∀ p, p < 5 → ps.testBit p = true → Fs 22 p = nI (xg_wf lk (op p) (cl p)) ∧ Fs 23 p = nI (xg_wt lk (op p) (cl p))) ∧ (∀ m, m < i → mb.testBit m = true → Fs 24 m = nI (xg_an lk (mg m))) ∧ ∀ j, j < 22 ∨ 24 < j → Fs j = F j) ?_ ?_ 0 F1 (by omega) ⟨v2, fun m hm => by omega, fun j hj => v4 j (by omega)⟩
    · intro i Fs hi hw ih
      apply r40
      unfold bd_X5_find_40
      refine ⟨fun c => absurd ((xn_le (a := 3) (by omega) (by omega)).mp c) (by omega), fun _ => ?_⟩
      rw [v3 9 (by decide), e3]
      refine xs_has (by omega) (by omega) (fun hb0 => ⟨fun _ v ev => ?_, fun c => absurd rfl c⟩) (fun hb1 => ⟨fun c => absurd c (by decide), fun _ => ⟨vp_in_nI hi (by omega), fun v ev => ?_⟩⟩)
      · rw [ev, nI_1]
        refine ih Fs ⟨hw.1, fun m hm hmb => ?_, hw.2.2⟩
        by_cases hmi : m = i
        · rw [hmi, hb0] at hmb; cases hmb
        · exact hw.2.1 m (by omega) hmb
      · rw [nI_clamp (by omega), hw.2.2 17 (by omega), e6 i hi hb1] at ev
        subst ev
        have hg := (o14 i hi hb1).1
        refine xs_anchor (fun w hw2 => by rw [hw.2.2 20 (by omega)]; exact hl w hw2) hT hlt (by omega) ⟨vp_in_nI hi (by omega), fun F2 eF2 u eu => ?_⟩
        rw [nI_clamp (by omega)] at eF2
        rw [eu, nI_1]
        refine ih F2 ⟨fun p hp hpb => ?_, fun m hm hmb => ?_, fun j hj => ?_⟩
        · rw [eF2, xw_upn (by decide), xw_upn (by decide)]; exact hw.1 p hp hpb
        · rw [eF2, xw_ups, xb_updi]
          by_cases hmi : m = i
          · subst hmi; rw [if_pos rfl]
          · rw [if_neg hmi]; exact hw.2.1 m (by omega) hmb
        · rw [eF2, xw_upn (by omega)]; exact hw.2.2 j hj
    · intro Fs hw
      apply r40
      unfold bd_X5_find_40
      refine ⟨fun _ => ?_, fun c => absurd ((xn_le (a := 3) (b := 3) (by omega) (by omega)).mpr (by omega)) c⟩
      exact h I1 Fs ⟨v1, hw.1, hw.2.1⟩ v3 hw.2.2
end
section
/-! ===== two ways to find the least sum: they find the same ===== -/
theorem xm_sub : ∀ s, s < 32 → ∀ o, o < 32 → o &&& s = o → (s - o) &&& s = s - o ∧ ∀ q, q < 5 → (s - o).testBit q = (s.testBit q && !o.testBit q) := by decide +kernel
theorem xm_bit : ∀ s, s < 32 → ∀ p, p < 5 → s.testBit p = true → 2 ^ p &&& s = 2 ^ p ∧ 2 ^ p ≤ s ∧ xa_pop (s - 2 ^ p) + 1 = xa_pop s := by decide +kernel
theorem xm_two : ∀ p, p < 5 → 0 < 2 ^ p ∧ 2 ^ p < 32 ∧ ∀ q, q < 5 → (2 ^ p).testBit q = decide (p = q) := by decide +kernel
theorem xm_in : ∀ o, o < 32 → ∀ s, s < 32 → o &&& s = o → ∀ q, q < 5 → o.testBit q = true → s.testBit q = true := by decide +kernel
theorem xm_le : ∀ o, o < 32 → ∀ s, s < 32 → o &&& s = o → o ≤ s := by decide +kernel
def xm_chk (s o q : Nat) : Bool := !(o &&& s == o) || !(q &&& o == q) || (((o - q) &&& (s - q)) == o - q && ((s - q) - (o - q) == s - o) && (q &&& s == q))
theorem xm_3a : ∀ s, s < 32 → ∀ o, o < 32 → ∀ q, q < 32 → xm_chk s o q = true := by decide +kernel
theorem xm_3 (s : Nat) (hs : s < 32) (o : Nat) (ho : o < 32) (h1 : o &&& s = o) (q : Nat) (hq : q < 32) (h2 : q &&& o = q) : (o - q) &&& (s - q) = o - q ∧ (s - q) - (o - q) = s - o ∧ q &&& s = q := by
  have h := xm_3a s hs o ho q hq
  unfold xm_chk at h
  rw [h1, h2] at h
  simp only [beq_self_eq_true, Bool.not_true, Bool.false_or, Bool.and_eq_true, beq_iff_eq] at h
  exact ⟨h.1.1, h.1.2, h.2⟩
theorem xm_some : ∀ s, s < 32 → s ≠ 0 → ∃ q, q < 5 ∧ s.testBit q = true := by decide +kernel
/-- no pair of one set holds one of the other -/
def xd_ap (hd : Nat → Nat) (o r : Nat) : Prop := ∀ p q, p < 5 → q < 5 → o.testBit p = true → r.testBit q = true → (hd p).testBit q = false ∧ (hd q).testBit p = false
/-- no pair of the set holds p -/
def xd_top (hd : Nat → Nat) (s p : Nat) : Prop := ∀ q, q < 5 → s.testBit q = true → (hd q).testBit p = false
def xd_min (S : Nat → Prop) (N v : Nat) : Prop := v ≤ N ∧ (∀ x, S x → v ≤ x) ∧ (v = N ∨ S v)
/-- the candidates of the reference -/
def xd_SB (hd : Nat → Nat) (code : Nat → Nat → Nat → Nat) (B : Nat → Nat → Nat → Nat) (s a b x : Nat) : Prop :=
  (∃ o c, 0 < o ∧ o < s ∧ o &&& s = o ∧ xd_ap hd o (s - o) ∧ a ≤ c ∧ c ≤ b ∧ x = B o a c + B (s - o) c b) ∨
  (∃ p a' b', p < 5 ∧ s.testBit p = true ∧ xd_top hd (s - 2 ^ p) p ∧ a ≤ a' ∧ a' ≤ b' ∧ b' ≤ b ∧ x = B (s - 2 ^ p) a' b' + code p a' b')
/-- the candidates of the class -/
def xd_SC (hd : Nat → Nat) (code : Nat → Nat → Nat → Nat) (C : Nat → Nat → Nat → Nat) (s a b x : Nat) : Prop :=
  (∃ p, p < 5 ∧ s.testBit p = true ∧ xd_top hd (s - 2 ^ p) p ∧ x = code p a b + C (s - 2 ^ p) a b) ∨
  (a < b ∧ (x = C s (a + 1) b ∨ x = C s a (b - 1) ∨ ∃ o c, 0 < o ∧ o < s ∧ o &&& s = o ∧ xd_ap hd o (s - o) ∧ a ≤ c ∧ c < b ∧ x = C o a c + C (s - o) c b))
def xd_hB (hd : Nat → Nat) (code : Nat → Nat → Nat → Nat) (ps T N : Nat) (B : Nat → Nat → Nat → Nat) : Prop := (∀ a b, B 0 a b = 0) ∧ ∀ s, 0 < s → s < 32 → s &&& ps = s → ∀ a b, a ≤ b → b ≤ T → xd_min (xd_SB hd code B s a b) N (B s a b)
def xd_hC (hd : Nat → Nat) (code : Nat → Nat → Nat → Nat) (ps T N : Nat) (C : Nat → Nat → Nat → Nat) : Prop := (∀ a b, C 0 a b = 0) ∧ ∀ s, 0 < s → s < 32 → s &&& ps = s → ∀ a b, a ≤ b → b ≤ T → xd_min (xd_SC hd code C s a b) N (C s a b)
theorem xd_eq {hd rk : Nat → Nat} {code : Nat → Nat → Nat → Nat} {ps T M N1 N2 : Nat} {B C : Nat → Nat → Nat → Nat} (hps : ps < 32) (hrk : ∀ p q, p < 5 → q < 5 → ps.testBit p = true → (hd p).testBit q = true → rk p < rk q) (hB : xd_hB hd code ps T N1 B) (hC : xd_hC hd code ps T N2 C) (hM : ∀ p a b, p < 5 → a ≤ b → b ≤ T → code p a b ≤ M) (hN2 : 5 * M < N2) (hN : N2 ≤ N1) :
    ∀ s, s < 32 → s &&& ps = s → ∀ a b, a ≤ b → b ≤ T → B s a b = C s a b ∧ B s a b ≤ xa_pop s * M ∧ ∀ a' b', a ≤ a' → a' ≤ b' → b' ≤ b → B s a b ≤ B s a' b' := by
  obtain ⟨hB0, hB⟩ := hB
  obtain ⟨hC0, hC⟩ := hC
  have hpop5 : ∀ s, s < 32 → xa_pop s ≤ 5 := by decide +kernel
  intro s
  induction s using Nat.strongRecOn with
  | ind s IH =>
  intro hs hsp
  by_cases hs0 : s = 0
  · subst hs0
    intro a b _ _
    exact ⟨by rw [hB0, hC0], by rw [hB0]; exact Nat.zero_le _, fun a' b' _ _ _ => by rw [hB0, hB0]; exact Nat.le_refl _⟩
  have hpos : 0 < s := Nat.pos_of_ne_zero hs0
  -- a pair that nobody of the set holds
  obtain ⟨p0, hp0, hp0s, hp0t⟩ : ∃ p, p < 5 ∧ s.testBit p = true ∧ xd_top hd s p := by
    obtain ⟨q0, hq0, hq0s⟩ := xm_some s hs hs0
    have key : ∀ n q, q < 5 → s.testBit q = true → rk q = n → ∃ p, p < 5 ∧ s.testBit p = true ∧ xd_top hd s p := by
      intro n
      induction n using Nat.strongRecOn with
      | ind n ih =>
        intro q hq hqs hr
        by_cases ht : xd_top hd s q
        · exact ⟨q, hq, hqs, ht⟩
        · have : ∃ r, r < 5 ∧ s.testBit r = true ∧ (hd r).testBit q = true := by
            apply Classical.byContradiction
            intro hno
            apply ht
            intro r hr5 hrs
            cases hz : (hd r).testBit q
            · rfl
            · exact absurd ⟨r, hr5, hrs, hz⟩ hno
          obtain ⟨r, hr5, hrs, hz⟩ := this
          have := hrk r q hr5 hq (xm_in s hs ps hps hsp r hr5 hrs) hz
          exact ih (rk r) (by omega) r hr5 hrs rfl
    exact key (rk q0) q0 hq0 hq0s rfl
  have hsub : ∀ o, o < 32 → o &&& s = o → o &&& ps = o := fun o ho hos => (xm_3 ps hps s hs hsp o ho hos).2.2
  have hbit : ∀ p, p < 5 → s.testBit p = true → 2 ^ p < 32 ∧ 0 < 2 ^ p ∧ 2 ^ p ≤ s ∧ (s - 2 ^ p) < s ∧ (s - 2 ^ p) < 32 ∧ (s - 2 ^ p) &&& ps = s - 2 ^ p ∧ xa_pop (s - 2 ^ p) + 1 = xa_pop s := by
    intro p hp hps2
    obtain ⟨b1, b2, b3⟩ := xm_bit s hs p hp hps2
    obtain ⟨c1, c2, -⟩ := xm_two p hp
    exact ⟨c2, c1, b2, by omega, by omega, hsub _ (by omega) (xm_sub s hs _ c2 b1).1, b3⟩
  have htop : ∀ p, xd_top hd s p → p < 5 → s.testBit p = true → xd_top hd (s - 2 ^ p) p := by
    intro p ht hp hps2 q hq hqs
    obtain ⟨b1, b2, b3⟩ := xm_bit s hs p hp hps2
    have := (xm_sub s hs _ (hbit p hp hps2).1 b1).2 q hq
    rw [hqs] at this
    exact ht q hq (by cases h : s.testBit q; rw [h] at this; cases this; rfl)
  have hpart : ∀ o, 0 < o → o < s → o &&& s = o → o < 32 ∧ o &&& ps = o ∧ (s - o) < s ∧ 0 < s - o ∧ (s - o) < 32 ∧ (s - o) &&& ps = s - o := fun o h0 h1 h2 => ⟨by omega, hsub o (by omega) h2, by omega, by omega, by omega, hsub _ (by omega) (xm_sub s hs o (by omega) h2).1⟩
  -- bound
  have hbd : ∀ a b, a ≤ b → b ≤ T → B s a b ≤ xa_pop s * M := by
    intro a b hab hbT
    obtain ⟨-, -, -, b4, b5, b6, b7⟩ := hbit p0 hp0 hp0s
    have h1 := (hB s hpos hs hsp a b hab hbT).2.1 _ (Or.inr ⟨p0, a, a, hp0, hp0s, htop p0 hp0t hp0 hp0s, Nat.le_refl _, Nat.le_refl _, hab, rfl⟩)
    have h2 := (IH _ b4 b5 b6 a a (Nat.le_refl _) (by omega)).2.1
    have h3 := hM p0 a a hp0 (Nat.le_refl _) (by omega)
    rw [← b7, Nat.add_mul, Nat.one_mul]
    omega
  have hlt : ∀ a b, a ≤ b → b ≤ T → B s a b < N2 := by
    intro a b hab hbT
    have h1 := hbd a b hab hbT
    have h2 := Nat.mul_le_mul_right M (hpop5 s hs)
    omega
  have hatt : ∀ a b, a ≤ b → b ≤ T → xd_SB hd code B s a b (B s a b) := by
    intro a b hab hbT
    rcases (hB s hpos hs hsp a b hab hbT).2.2 with h | h
    · have := hlt a b hab hbT; omega
    · exact h
  have hmono : ∀ a b a' b', a ≤ a' → a' ≤ b' → b' ≤ b → b ≤ T → B s a b ≤ B s a' b' := by
    intro a b a' b' h1 h2 h3 h4
    rcases hatt a' b' h2 (by omega) with ⟨o, c, o1, o2, o3, o4, o5, o6, o7⟩ | ⟨p, x, y, p1, p2, p3, p4, p5, p6, p7⟩
    · obtain ⟨q1, q2, q3, q4, q5, q6⟩ := hpart o o1 o2 o3
      have m1 := (IH o o2 q1 q2 a c (by omega) (by omega)).2.2 a' c h1 o5 (Nat.le_refl _)
      have m2 := (IH (s - o) q3 q5 q6 c b (by omega) h4).2.2 c b' (Nat.le_refl _) o6 h3
      have := (hB s hpos hs hsp a b (by omega) h4).2.1 _ (Or.inl ⟨o, c, o1, o2, o3, o4, by omega, by omega, rfl⟩)
      omega
    · have := (hB s hpos hs hsp a b (by omega) h4).2.1 _ (Or.inr ⟨p, x, y, p1, p2, p3, by omega, p5, by omega, rfl⟩)
      omega
  -- the class's is no less
  have hge : ∀ d a b, a + d = b → b ≤ T → B s a b ≤ C s a b := by
    intro d
    induction d with
    | zero =>
      intro a b hab hbT
      rcases (hC s hpos hs hsp a b (by omega) hbT).2.2 with h | ⟨p, p1, p2, p3, p4⟩ | ⟨h, -⟩
      · have := hlt a b (by omega) hbT; omega
      · obtain ⟨-, -, -, b4, b5, b6, b7⟩ := hbit p p1 p2
        have e := (IH _ b4 b5 b6 a b (by omega) hbT).1
        have := (hB s hpos hs hsp a b (by omega) hbT).2.1 _ (Or.inr ⟨p, a, b, p1, p2, p3, Nat.le_refl _, by omega, Nat.le_refl _, rfl⟩)
        omega
      · omega
    | succ d ih =>
      intro a b hab hbT
      rcases (hC s hpos hs hsp a b (by omega) hbT).2.2 with h | ⟨p, p1, p2, p3, p4⟩ | ⟨h, h2 | h2 | ⟨o, c, o1, o2, o3, o4, o5, o6, o7⟩⟩
      · have := hlt a b (by omega) hbT; omega
      · obtain ⟨-, -, -, b4, b5, b6, b7⟩ := hbit p p1 p2
        have e := (IH _ b4 b5 b6 a b (by omega) hbT).1
        have := (hB s hpos hs hsp a b (by omega) hbT).2.1 _ (Or.inr ⟨p, a, b, p1, p2, p3, Nat.le_refl _, by omega, Nat.le_refl _, rfl⟩)
        omega
      · have := ih (a + 1) b (by omega) hbT
        have := hmono a b (a + 1) b (by omega) (by omega) (Nat.le_refl _) hbT
        omega
      · have := ih a (b - 1) (by omega) (by omega)
        have := hmono a b a (b - 1) (Nat.le_refl _) (by omega) (by omega) hbT
        omega
      · obtain ⟨q1, q2, q3, q4, q5, q6⟩ := hpart o o1 o2 o3
        have e1 := (IH o o2 q1 q2 a c o5 (by omega)).1
        have e2 := (IH (s - o) q3 q5 q6 c b (by omega) hbT).1
        have := (hB s hpos hs hsp a b (by omega) hbT).2.1 _ (Or.inl ⟨o, c, o1, o2, o3, o4, o5, by omega, rfl⟩)
        omega
  -- the class's grows no less with the room
  have hCm : ∀ e d a b a' b', a + e = a' → b' + d = b → a' ≤ b' → b ≤ T → C s a b ≤ C s a' b' := by
    intro e
    induction e with
    | zero =>
      intro d
      induction d with
      | zero => intro a b a' b' h1 h2 h3 h4; rw [show a = a' by omega, show b = b' by omega]; exact Nat.le_refl _
      | succ d ih =>
        intro a b a' b' h1 h2 h3 h4
        have h5 := ih a (b - 1) a' b' h1 (by omega) h3 (by omega)
        have h6 := (hC s hpos hs hsp a b (by omega) h4).2.1 _ (Or.inr ⟨by omega, Or.inr (Or.inl rfl)⟩)
        omega
    | succ e ih =>
      intro d a b a' b' h1 h2 h3 h4
      have h5 := ih d (a + 1) b a' b' (by omega) h2 h3 h4
      have h6 := (hC s hpos hs hsp a b (by omega) h4).2.1 _ (Or.inr ⟨by omega, Or.inl rfl⟩)
      omega
  have hCle : ∀ a b a' b', a ≤ a' → a' ≤ b' → b' ≤ b → b ≤ T → C s a b ≤ C s a' b' := fun a b a' b' h1 h2 h3 h4 => hCm (a' - a) (b - b') a b a' b' (by omega) (by omega) h2 h4
  -- all of one part behind the last gap
  have hE : ∀ o, 0 < o → o < s → o &&& s = o → xd_ap hd o (s - o) → ∀ a b, a ≤ b → b ≤ T → C s a b ≤ B o a b + B (s - o) b b := by
    intro o
    induction o using Nat.strongRecOn with
    | ind o ihE =>
    intro o1 o2 o3 o4 a b hab hbT
    obtain ⟨q1, q2, q3, q4, q5, q6⟩ := hpart o o1 o2 o3
    obtain ⟨oe, ob, om⟩ := IH o o2 q1 q2 a b hab hbT
    rcases (hB o o1 q1 q2 a b hab hbT).2.2 with h | ⟨r, c, r1, r2, r3, r4, r5, r6, r7⟩ | ⟨p, x, y, p1, p2, p3, p4, p5, p6, p7⟩
    · have h2 := Nat.mul_le_mul_right M (hpop5 o q1)
      omega
    · -- parts of the part
      obtain ⟨t1, t2, t3⟩ := xm_3 s hs o q1 o3 r (by omega) r3
      have hr32 : r < 32 := by omega
      have hrs : r < s := by omega
      obtain ⟨z1, z2, z3, z4, z5, z6⟩ := hpart r r1 hrs t3
      have hap : xd_ap hd r (s - r) := by
        intro p q hp hq hpr hqr
        rw [(xm_sub s hs r hr32 t3).2 q hq] at hqr
        by_cases hqo : o.testBit q = true
        · refine r4 p q hp hq hpr ?_
          rw [(xm_sub o q1 r hr32 r3).2 q hq, hqo]
          cases hz : r.testBit q
          · rfl
          · rw [hz] at hqr; simp at hqr
        · refine o4 p q hp hq (xm_in r hr32 o q1 r3 p hp hpr) ?_
          rw [(xm_sub s hs o q1 o3).2 q hq]
          cases hz : s.testBit q
          · rw [hz] at hqr; cases hqr
          · cases hz2 : o.testBit q
            · rfl
            · exact absurd hz2 hqo
      have hap2 : xd_ap hd (o - r) ((s - r) - (o - r)) := by
        rw [t2]
        intro p q hp hq hpr hqr
        refine o4 p q hp hq ?_ hqr
        rw [(xm_sub o q1 r hr32 r3).2 p hp] at hpr
        cases hz : o.testBit p
        · rw [hz] at hpr; cases hpr
        · rfl
      have hor : 0 < o - r := by omega
      have hsr : ∀ c', c' ≤ b → B (s - r) c' b ≤ B (o - r) c' b + B (s - o) b b := by
        intro c' hc'
        have := (hB (s - r) z4 z5 z6 c' b hc' hbT).2.1 _ (Or.inl ⟨o - r, b, hor, by omega, t1, hap2, hc', Nat.le_refl _, rfl⟩)
        rw [t2] at this
        exact this
      by_cases hcb : c = b
      · subst hcb
        have h1 := ihE r r2 r1 hrs t3 hap a c hab hbT
        have h2 := hsr c (Nat.le_refl _)
        omega
      · have h1 := (hC s hpos hs hsp a b hab hbT).2.1 _ (Or.inr ⟨by omega, Or.inr (Or.inr ⟨r, c, r1, hrs, t3, hap, r5, by omega, rfl⟩)⟩)
        have e1 := (IH r hrs z1 z2 a c r5 (by omega)).1
        have e2 := (IH (s - r) z3 z5 z6 c b r6 hbT).1
        have h2 := hsr c r6
        omega
    · -- a pair round it
      have hps2 : s.testBit p = true := xm_in o q1 s hs o3 p p1 p2
      obtain ⟨b1, b2, b3, b4, b5, b6, b7⟩ := hbit p p1 hps2
      obtain ⟨a1, a2, a3⟩ := xm_bit o q1 p p1 p2
      obtain ⟨t1, t2, t3⟩ := xm_3 s hs o q1 o3 (2 ^ p) b1 a1
      by_cases hyb : y = b
      · subst hyb
        have htp : xd_top hd (s - 2 ^ p) p := by
          intro q hq hqs
          rw [(xm_sub s hs _ b1 t3).2 q hq, (xm_two p p1).2.2 q hq] at hqs
          by_cases hqo : o.testBit q = true
          · refine p3 q hq ?_
            rw [(xm_sub o q1 _ b1 a1).2 q hq, hqo, (xm_two p p1).2.2 q hq]
            cases hz : decide (p = q)
            · rfl
            · rw [hz] at hqs; simp at hqs
          · have hqs2 : s.testBit q = true := by
              cases hz : s.testBit q
              · rw [hz] at hqs; cases hqs
              · rfl
            refine (o4 p q p1 hq p2 ?_).2
            rw [(xm_sub s hs o q1 o3).2 q hq, hqs2]
            cases hz2 : o.testBit q
            · rfl
            · exact absurd hz2 hqo
        have h1 := (hC s hpos hs hsp x y p5 (by omega)).2.1 _ (Or.inl ⟨p, p1, hps2, htp, rfl⟩)
        have h2 := hCle a y x y p4 p5 (Nat.le_refl _) hbT
        have e1 := (IH (s - 2 ^ p) b4 b5 b6 x y p5 hbT).1
        have h3 : B (s - 2 ^ p) x y ≤ B (o - 2 ^ p) x y + B (s - o) y y := by
          by_cases ho0 : o - 2 ^ p = 0
          · have hoe : o = 2 ^ p := by omega
            rw [ho0, hB0, ← hoe]
            have := (IH (s - o) q3 q5 q6 x y p5 hbT).2.2 y y p5 (Nat.le_refl _) (Nat.le_refl _)
            omega
          · have hap2 : xd_ap hd (o - 2 ^ p) ((s - 2 ^ p) - (o - 2 ^ p)) := by
              rw [t2]
              intro p' q hp hq hpr hqr
              refine o4 p' q hp hq ?_ hqr
              rw [(xm_sub o q1 _ b1 a1).2 p' hp] at hpr
              cases hz : o.testBit p'
              · rw [hz] at hpr; cases hpr
              · rfl
            have := (hB (s - 2 ^ p) (by omega) b5 b6 x y p5 hbT).2.1 _ (Or.inl ⟨o - 2 ^ p, y, by omega, by omega, t1, hap2, p5, Nat.le_refl _, rfl⟩)
            rw [t2] at this
            exact this
        omega
      · have h1 := (hC s hpos hs hsp a b hab hbT).2.1 _ (Or.inr ⟨by omega, Or.inr (Or.inr ⟨o, y, o1, o2, o3, o4, by omega, by omega, rfl⟩)⟩)
        have e1 := (IH o o2 q1 q2 a y (by omega) (by omega)).1
        have e2 := (IH (s - o) q3 q5 q6 y b p6 hbT).1
        have h2 := (hB o o1 q1 q2 a y (by omega) (by omega)).2.1 _ (Or.inr ⟨p, x, y, p1, p2, p3, p4, p5, Nat.le_refl _, rfl⟩)
        have h3 := (IH (s - o) q3 q5 q6 y b p6 hbT).2.2 b b p6 (Nat.le_refl _) (Nat.le_refl _)
        omega
  -- no more
  have hle : ∀ a b, a ≤ b → b ≤ T → C s a b ≤ B s a b := by
    intro a b hab hbT
    rcases hatt a b hab hbT with ⟨o, c, o1, o2, o3, o4, o5, o6, o7⟩ | ⟨p, x, y, p1, p2, p3, p4, p5, p6, p7⟩
    · obtain ⟨q1, q2, q3, q4, q5, q6⟩ := hpart o o1 o2 o3
      by_cases hcb : c = b
      · subst hcb
        have := hE o o1 o2 o3 o4 a c hab hbT
        omega
      · have h1 := (hC s hpos hs hsp a b hab hbT).2.1 _ (Or.inr ⟨by omega, Or.inr (Or.inr ⟨o, c, o1, o2, o3, o4, o5, by omega, rfl⟩)⟩)
        have e1 := (IH o o2 q1 q2 a c o5 (by omega)).1
        have e2 := (IH (s - o) q3 q5 q6 c b o6 hbT).1
        omega
    · obtain ⟨-, -, -, b4, b5, b6, b7⟩ := hbit p p1 p2
      have h1 := (hC s hpos hs hsp x y p5 (by omega)).2.1 _ (Or.inl ⟨p, p1, p2, p3, rfl⟩)
      have h2 := hCle a b x y p4 p5 p6 hbT
      have e1 := (IH _ b4 b5 b6 x y p5 (by omega)).1
      omega
  intro a b hab hbT
  refine ⟨?_, hbd a b hab hbT, fun a' b' h1 h2 h3 => hmono a b a' b' h1 h2 h3 hbT⟩
  have h1 := hge (b - a) a b (by omega) hbT
  have h2 := hle a b hab hbT
  omega
end
section
/-! ===== costs, prices ===== -/
theorem wb_tb (n : Nat) : (lN n).toBitVec = BitVec.ofNat 64 n := rfl
theorem wb_inj {a b : Int64} (h : a.toBitVec = b.toBitVec) : a = b := Int64.toBitVec_inj.mp h
theorem wb_tn {n : Nat} (h : n < 2 ^ 64) : (lN n).toBitVec.toNat = n := by rw [wb_tb, BitVec.toNat_ofNat, Nat.mod_eq_of_lt h]
theorem wb_c : ∀ k, k < 64 → ((nI k).toInt64 &&& 63) = lN k := by decide +kernel
theorem wb_cu : ∀ k, k < 64 → ((nI k).toInt64.toUInt64 &&& Int64.toUInt64 63) = UInt64.ofNat k := by decide +kernel
theorem wb_sm : ∀ k, k < 64 → (BitVec.ofNat 64 k).smod 64 = BitVec.ofNat 64 k := by decide +kernel
theorem wb_pw {a b : Nat} (h : a ≤ b) : 2 ^ b = 2 ^ a * 2 ^ (b - a) := by rw [← Nat.pow_add]; congr 1; omega
theorem wb_lt2 {a b : Nat} (h : a < b) : 2 ^ a < 2 ^ b := Nat.pow_lt_pow_right (by decide) h
theorem wb_mod (n : Nat) : lN n = lN (n % 2 ^ 64) := wb_inj (by rw [wb_tb, wb_tb]; apply BitVec.eq_of_toNat_eq; rw [BitVec.toNat_ofNat, BitVec.toNat_ofNat, Nat.mod_mod])
theorem wb_shl (n : Nat) {k : Nat} (hk : k < 64) : lN n <<< ((nI k).toInt64 &&& 63) = lN (n * 2 ^ k) := by
  rw [wb_c k hk]
  apply wb_inj
  rw [Int64.toBitVec_shiftLeft, wb_tb, wb_tb, wb_tb, wb_sm k hk]
  apply BitVec.eq_of_toNat_eq
  rw [BitVec.shiftLeft_eq', BitVec.toNat_shiftLeft, BitVec.toNat_ofNat, BitVec.toNat_ofNat, BitVec.toNat_ofNat, Nat.mod_eq_of_lt (show k < 2 ^ 64 by omega), Nat.shiftLeft_eq, Nat.mul_mod, Nat.mod_mod, ← Nat.mul_mod]
theorem wb_and {a b : Nat} (ha : a < 2 ^ 64) (hb : b < 2 ^ 64) : lN a &&& lN b = lN (a &&& b) := by
  apply wb_inj
  rw [Int64.toBitVec_and, wb_tb, wb_tb, wb_tb]
  apply BitVec.eq_of_toNat_eq
  rw [BitVec.toNat_and, BitVec.toNat_ofNat, BitVec.toNat_ofNat, BitVec.toNat_ofNat, Nat.mod_eq_of_lt ha, Nat.mod_eq_of_lt hb, Nat.mod_eq_of_lt (Nat.and_lt_two_pow _ hb)]
theorem wb_or {a b : Nat} (ha : a < 2 ^ 64) (hb : b < 2 ^ 64) : lN a ||| lN b = lN (a ||| b) := by
  apply wb_inj
  rw [Int64.toBitVec_or, wb_tb, wb_tb, wb_tb]
  apply BitVec.eq_of_toNat_eq
  rw [BitVec.toNat_or, BitVec.toNat_ofNat, BitVec.toNat_ofNat, BitVec.toNat_ofNat, Nat.mod_eq_of_lt ha, Nat.mod_eq_of_lt hb, Nat.mod_eq_of_lt (Nat.or_lt_two_pow ha hb)]
theorem wb_mask {n k : Nat} (hn : n < 2 ^ 64) (hk : k < 64) : lN n &&& lN (2 ^ k - 1) = lN (n % 2 ^ k) := by
  rw [wb_and hn (by have := wb_lt2 hk; omega), Nat.and_two_pow_sub_one_eq_mod]
theorem wb_a1 {n : Nat} (hn : n < 2 ^ 64) : lN n &&& 1 = lN (n % 2) := wb_mask (k := 1) hn (by decide)
theorem u_tn {n : Nat} (h : n < 2 ^ 64) : (UInt64.ofNat n).toNat = n := Nat.mod_eq_of_lt h
theorem g_and {a b c : Nat} (ha : a < 2 ^ 64) (hb : b < 2 ^ 64) (hc : a &&& b = c) : lN a &&& lN b = lN c := by
  subst hc
  have h : UInt64.ofNat a &&& UInt64.ofNat b = UInt64.ofNat (a &&& b) := UInt64.toNat_inj.mp (by rw [UInt64.toNat_and, u_tn ha, u_tn hb, u_tn (Nat.and_lt_two_pow a hb)])
  have h2 := congrArg UInt64.toInt64 h
  exact h2
theorem g_and1 {a : Nat} (ha : a < 2 ^ 64) : lN a &&& 1 = lN (a % 2) := g_and (b := 1) ha (by decide) (Nat.and_two_pow_sub_one_eq_mod a 1)
theorem g_mask {a s p : Nat} (hp : 2 ^ s = p) (hs : s < 64) (ha : a < 2 ^ 64) : lN a &&& lN (p - 1) = lN (a % p) := by
  subst hp
  have := Nat.pow_lt_pow_right (show 1 < 2 by decide) hs
  exact g_and ha (by omega) (Nat.and_two_pow_sub_one_eq_mod a s)
theorem g_or {k p a b : Nat} (hp : 2 ^ k = p) (ha : a < p) (h : b * p + a < 2 ^ 64) : lN (b * p) ||| lN a = lN (b * p + a) := by
  subst hp
  have h1 : b * 2 ^ k ||| a = b * 2 ^ k + a := by rw [← Nat.shiftLeft_eq, Nat.shiftLeft_add_eq_or_of_lt ha]
  have h3 : UInt64.ofNat (b * 2 ^ k) ||| UInt64.ofNat a = UInt64.ofNat (b * 2 ^ k + a) := UInt64.toNat_inj.mp (by rw [UInt64.toNat_or, u_tn (by omega), u_tn (by omega), u_tn h, h1])
  have h2 := congrArg UInt64.toInt64 h3
  exact h2
theorem g_or' {k p a b : Nat} (hp : 2 ^ k = p) (ha : a < p) (h : a + b * p < 2 ^ 64) : lN a ||| lN (b * p) = lN (a + b * p) := by
  rw [Int64.or_comm, g_or hp ha (by omega), Nat.add_comm]
theorem pf_lI {a : Nat} (h : a < 2 ^ 63) : (lN a).toInt = (a : Int) := lg_ofNat_toInt h
theorem pf_shr {a d : Nat} {D : Int64} (hD : (D.toBitVec.smod 64).toNat = d) (h : a < 2 ^ 62) : lN a >>> D = lN (a / 2 ^ d) := by
  have hd : a / 2 ^ d ≤ a := Nat.div_le_self _ _
  apply Int64.toInt_inj.mp
  have e : (lN a >>> D).toInt = (lN a).toInt >>> d := by
    rw [← hD]
    exact BitVec.toInt_sshiftRight ..
  rw [e, Int.shiftRight_eq_div_pow, pf_lI (by omega), pf_lI (by omega)]
  rfl
def xd_ab (a b : Nat) : Nat := (a - b) + (b - a)
def xd_cost (p wf wt a b : Nat) : Nat := if p = 4 then 2 * max (xd_ab a wf) (xd_ab b wt) else if p < 2 then xd_ab a wf + xd_ab b wt else xd_ab a wf + xd_ab b wt + 2 * ((wt - wf) - (min b wt - max a wf))
def xd_code (wf wt : Nat → Nat) (p a b : Nat) : Nat := xd_cost p (wf p) (wt p) a b * 2 ^ 40 + (16 * a + b) * 2 ^ (8 * (4 - p))
theorem xc_abs : ∀ a, a < 16 → ∀ w, w < 9 → (if 0 ≤ nI a - nI w then nI a - nI w else 0 - (nI a - nI w)) = nI (xd_ab a w) := by decide +kernel
theorem xc_pos : ∀ a, a < 16 → ∀ b, b < 16 → (if (0 : Int32) < nI a - nI b then nI a - nI b else 0) = nI (a - b) := by decide +kernel
theorem xc_min {a b : Nat} (ha : a < 16) (hb : b < 16) : (if nI a < nI b then nI a else nI b) = nI (min b a) := by
  by_cases h : a < b
  · rw [if_pos ((xn_lt (by omega) (by omega)).mpr h), show min b a = a by omega]
  · rw [if_neg (fun z => h ((xn_lt (by omega) (by omega)).mp z)), show min b a = b by omega]
theorem xc_max {a b : Nat} (ha : a < 2 ^ 31) (hb : b < 2 ^ 31) : (if nI a < nI b then nI b else nI a) = nI (max a b) := by
  by_cases h : a < b
  · rw [if_pos ((xn_lt ha hb).mpr h), show max a b = b by omega]
  · rw [if_neg (fun z => h ((xn_lt ha hb).mp z)), show max a b = a by omega]
theorem xd_cost_le {p wf wt a b : Nat} (h1 : wf ≤ 8) (h2 : wt ≤ 8) (h3 : a ≤ 8) (h4 : b ≤ 8) : xd_cost p wf wt a b ≤ 32 := by
  unfold xd_cost xd_ab
  split
  · omega
  · split
    · omega
    · omega
theorem xd_code_le {wf wt : Nat → Nat} {p a b : Nat} (hp : p < 5) (h1 : wf p ≤ 8) (h2 : wt p ≤ 8) (h3 : a ≤ 8) (h4 : b ≤ 8) : (16 * a + b) * 2 ^ (8 * (4 - p)) < 2 ^ 40 ∧ xd_code wf wt p a b ≤ 33 * 2 ^ 40 := by
  have hc := xd_cost_le (p := p) h1 h2 h3 h4
  have h5 : (16 * a + b) * 2 ^ (8 * (4 - p)) < 2 ^ 40 := by
    have h6 : 2 ^ (8 * (4 - p)) ≤ 2 ^ 32 := Nat.pow_le_pow_right (by decide) (by omega)
    have h7 : (16 * a + b) * 2 ^ (8 * (4 - p)) ≤ 136 * 2 ^ 32 := Nat.mul_le_mul (by omega) h6
    have : 136 * 2 ^ 32 < 2 ^ 40 := by decide
    omega
  refine ⟨h5, ?_⟩
  unfold xd_code
  have := Nat.mul_le_mul_right (2 ^ 40) hc
  rw [show 33 * 2 ^ 40 = 32 * 2 ^ 40 + 2 ^ 40 from by decide]
  exact Nat.add_le_add this (Nat.le_of_lt h5)
theorem xs_cost {p wf wt a b : Nat} {post : Int32 → Prop} (hp : p < 5) (hw : wf ≤ wt) (hw8 : wt ≤ 8) (ha : a ≤ 15) (hb : b ≤ 15) (h : post (nI (xd_cost p wf wt a b))) : sm_X2_costOf (nI p) (nI wf) (nI wt) (nI a) (nI b) post := by
  intro v9 e9 v10 e10
  rw [xc_abs a (by omega) wf (by omega)] at e9
  rw [xc_abs b (by omega) wt (by omega)] at e10
  subst e9 e10
  have d1 : xd_ab a wf ≤ 15 := by unfold xd_ab; omega
  have d2 : xd_ab b wt ≤ 15 := by unfold xd_ab; omega
  refine ⟨fun c => ⟨fun c2 => ?_, fun c2 => ?_⟩, fun c => ?_⟩
  · have c : p ≠ 4 := fun z => c (by rw [z]; rfl)
    have c2 : 2 ≤ p := (xn_le (a := 2) (by omega) (by omega)).mp c2
    intro v13 e13 v14 e14 v15 e15
    rw [xc_min (by omega) (by omega)] at e13
    have e14 : v14 = nI (max a wf) := by
      rw [e14]
      by_cases h : a < wf
      · rw [if_pos ((xn_lt (by omega) (by omega)).mpr h), show max a wf = wf by omega]
      · rw [if_neg (fun z => h ((xn_lt (by omega) (by omega)).mp z)), show max a wf = a by omega]
    subst e13 e14
    rw [xc_pos _ (by omega) _ (by omega)] at e15
    subst e15
    rw [xn_sub hw, xn_sub (by omega), show (2 : Int32) = nI 2 from rfl, xn_mul, nI_add, nI_add]
    unfold xd_cost at h
    rw [if_neg c, if_neg (by omega)] at h
    exact h
  · have c : p ≠ 4 := fun z => c (by rw [z]; rfl)
    have c2 : p < 2 := Nat.not_le.mp (fun z => c2 ((xn_le (a := 2) (by omega) (by omega)).mpr z))
    rw [nI_add]
    unfold xd_cost at h
    rw [if_neg c, if_pos c2] at h
    exact h
  · have c : p = 4 := (xn_eq (b := 4) (by omega) (by omega)).mp c
    intro v16 e16
    rw [xc_max (by omega) (by omega)] at e16
    rw [e16, show (2 : Int32) = nI 2 from rfl, xn_mul]
    unfold xd_cost at h
    rw [if_pos c] at h
    exact h
theorem xs_off {a b : Nat} {post : Int32 → Prop} (ha : a < 2 ^ 31) (hb : b < 2 ^ 31) (h : post (nI (xd_ab b a))) : sm_X8_off (nI a) (nI b) post := by
  unfold sm_X8_off
  unfold xd_ab at h
  refine ⟨fun z => ?_, fun z => ?_⟩
  · have z := (xn_le hb ha).mp z
    rw [xn_sub z]
    rw [show b - a + (a - b) = a - b by omega] at h; exact h
  · have z : ¬ b ≤ a := fun y => z ((xn_le hb ha).mpr y)
    rw [xn_sub (by omega)]
    rw [show b - a + (a - b) = b - a by omega] at h; exact h
theorem xs_greater {a b : Nat} {post : Int32 → Prop} (ha : a < 2 ^ 31) (hb : b < 2 ^ 31) (h : post (nI (max a b))) : sm_X8_greater (nI a) (nI b) post := by
  unfold sm_X8_greater
  refine ⟨fun z => ?_, fun z => ?_⟩
  · have z := (xn_le ha hb).mp z
    rw [show max a b = b by omega] at h; exact h
  · have z : ¬ a ≤ b := fun y => z ((xn_le ha hb).mpr y)
    rw [show max a b = a by omega] at h; exact h
theorem xs_mcost {lk : Nat → Nat} {T p oa ob a b : Nat} {I : xw_I} {F : xw_F} {G : xw_G} {post : Int32 → Prop} (hI : I 2 = nI T) (hl : ∀ w, w < 12 → F 6 w = nI (lk w)) (hT : T ≤ 8) (hlt : ∀ w, w < 12 → lk w < 2 ^ T) (hp : p < 5) (h1 : F 1 p = nI oa) (h2 : F 2 p = nI ob) (hab : oa ≤ ob) (hb : ob ≤ 12) (ha8 : a ≤ 15) (hb8 : b ≤ 15) (h : post (nI (xd_cost p (xg_wf lk oa ob) (xg_wt lk oa ob) a b))) : sm_X8_costOf (nI p) (nI a) (nI b) I F G post := by
  intro k hk
  unfold bd_X8_costOf_0
  obtain ⟨w1, w2⟩ := xg_w_le (a := oa) (b := ob) hlt hT (by omega) hb
  obtain ⟨wf, hwf⟩ : ∃ x, x = xg_wf lk oa ob := ⟨_, rfl⟩
  obtain ⟨wt, hwt⟩ : ∃ x, x = xg_wt lk oa ob := ⟨_, rfl⟩
  rw [← hwf, ← hwt] at h w1
  rw [← hwt] at w2
  have d1 : xd_ab a wf ≤ 15 := by unfold xd_ab; omega
  have d2 : xd_ab b wt ≤ 15 := by unfold xd_ab; omega
  refine xs_mwf hI hl hT hlt hp h1 h2 hab hb ?_
  refine xs_mwt hI hl hT hlt hp h1 h2 hab hb ?_
  rw [← hwf, ← hwt]
  refine xs_off (by omega) (by omega) (xs_off (by omega) (by omega) ?_)
  intro v ev
  rw [nI_add] at ev
  refine ⟨fun c => ?_, fun c => ?_⟩
  · have c : p ≠ 4 := fun z => c (by rw [z]; rfl)
    rw [ev]
    have key : ∀ d t, wf ≤ t → t + d = wt → k (nI wt) (nI (xd_ab a wf + xd_ab b wt + (if p < 2 then 0 else 2 * ((t - wf) - (min b t - max a wf))))) (nI t) := by
      intro d
      induction d with
      | zero =>
        intro t ht e
        apply hk
        unfold bd_X8_costOf_56
        refine ⟨fun _ => ?_, fun z => absurd ((xn_le (by omega) (by omega)).mpr (by omega)) z⟩
        unfold xd_cost at h
        rw [if_neg c] at h
        by_cases hp2 : p < 2
        · rw [if_pos hp2] at h ⊢; exact h
        · rw [if_neg hp2] at h ⊢
          rw [show t = wt by omega]; exact h
      | succ d ih =>
        intro t ht e
        apply hk
        unfold bd_X8_costOf_56
        refine ⟨fun z => absurd ((xn_le (by omega) (by omega)).mp z) (by omega), fun _ => ⟨fun z => ?_, fun z => ?_⟩⟩
        · have z : p ≤ 1 := (xn_le (b := 1) (by omega) (by omega)).mp z
          unfold xd_cost at h
          rw [if_neg c, if_pos (by omega)] at h
          rw [if_pos (by omega)]; exact h
        · have z : ¬ p < 2 := fun y => z ((xn_le (b := 1) (by omega) (by omega)).mpr (by omega))
          have := ih (t + 1) (by omega) (by omega)
          rw [if_neg z] at this ⊢
          refine ⟨fun y v ev w ew => ?_, fun y => ⟨fun y2 v ev w ew => ?_, fun y2 v ev w ew => ?_⟩⟩
          · have y := (xn_lt (by omega) (by omega)).mp y
            rw [ev, ew, nI_1, show (2 : Int32) = nI 2 from rfl, nI_add]
            rw [show xd_ab a wf + xd_ab b wt + 2 * (t - wf - (min b t - max a wf)) + 2 = xd_ab a wf + xd_ab b wt + 2 * (t + 1 - wf - (min b (t + 1) - max a wf)) by omega]; exact this
          · have y : a ≤ t := Nat.not_lt.mp (fun q => y ((xn_lt (by omega) (by omega)).mpr q))
            have y2 := (xn_lt (by omega) (by omega)).mp y2
            rw [ev, ew, nI_1, show (0 : Int32) = nI 0 from rfl, nI_add]
            rw [show xd_ab a wf + xd_ab b wt + 2 * (t - wf - (min b t - max a wf)) + 0 = xd_ab a wf + xd_ab b wt + 2 * (t + 1 - wf - (min b (t + 1) - max a wf)) by omega]; exact this
          · have y : a ≤ t := Nat.not_lt.mp (fun q => y ((xn_lt (by omega) (by omega)).mpr q))
            have y2 : b ≤ t := Nat.not_lt.mp (fun q => y2 ((xn_lt (by omega) (by omega)).mpr q))
            rw [ev, ew, nI_1, show (2 : Int32) = nI 2 from rfl, nI_add]
            rw [show xd_ab a wf + xd_ab b wt + 2 * (t - wf - (min b t - max a wf)) + 2 = xd_ab a wf + xd_ab b wt + 2 * (t + 1 - wf - (min b (t + 1) - max a wf)) by omega]; exact this
    have := key (wt - wf) wf (Nat.le_refl _) (by omega)
    rw [show (if p < 2 then 0 else 2 * (wf - wf - (min b wf - max a wf))) = 0 by split <;> omega, Nat.add_zero] at this
    exact this
  · have c : p = 4 := (xn_eq (b := 4) (by omega) (by omega)).mp c
    refine xs_off (by omega) (by omega) (xs_off (by omega) (by omega) (xs_greater (by omega) (by omega) ?_))
    rw [show (2 : Int32) = nI 2 from rfl, xn_mul]
    unfold xd_cost at h
    rw [if_pos c] at h
    exact h
theorem xc_spot : ∀ a, a < 9 → ∀ b, b < 9 → (nI a <<< ((4 : Int32) &&& 31)) ||| nI b = nI (16 * a + b) := by decide +kernel
theorem xc_sh : ∀ p, p < 5 → (8 : Int32) * ((4 : Int32) - nI p) = nI (8 * (4 - p)) := by decide +kernel
theorem xc_l {n : Nat} (h : n < 2 ^ 31) : (nI n).toInt64 = lN n := nI_l h
theorem xs_code {lk : Nat → Nat} {T p oa ob a b : Nat} {wf wt : Nat → Nat} {I : xw_I} {F : xw_F} {G : xw_G} {post : Int64 → Prop} (hI : I 2 = nI T) (hl : ∀ w, w < 12 → F 6 w = nI (lk w)) (hT : T ≤ 8) (hlt : ∀ w, w < 12 → lk w < 2 ^ T) (hp : p < 5) (h1 : F 1 p = nI oa) (h2 : F 2 p = nI ob) (hab : oa ≤ ob) (hb : ob ≤ 12) (hwf : wf p = xg_wf lk oa ob) (hwt : wt p = xg_wt lk oa ob) (ha8 : a ≤ 8) (hb8 : b ≤ 8) (h : post (lN (xd_code wf wt p a b))) : sm_X8_code (nI p) (nI a) (nI b) I F G post := by
  unfold sm_X8_code
  obtain ⟨w1, w2⟩ := xg_w_le (a := oa) (b := ob) hlt hT (by omega) hb
  refine xs_mcost hI hl hT hlt hp h1 h2 hab hb (by omega) (by omega) ?_
  have hc := xd_cost_le (p := p) (wf := xg_wf lk oa ob) (wt := xg_wt lk oa ob) (by omega) (by omega) ha8 hb8
  rw [xc_sh p hp, xc_l (by omega), show (16 : Int32) = nI 16 from rfl, xn_mul, nI_add, xc_l (by omega), show (40 : Int32) = nI 40 from rfl, wb_shl _ (by omega), wb_shl _ (by omega), lN_add]
  unfold xd_code at h
  rw [hwf, hwt] at h
  exact h
/-- the prices of one pair -/
theorem xs_prices {p T : Nat} {wf wt : Nat → Nat} {I : xw_I} {F : xw_F} {G : xw_G} {post : xw_I → xw_F → xw_G → Prop} (hp : p < 5) (hT : T ≤ 8) (hw : wf p ≤ wt p) (hw8 : wt p ≤ T)
    (h : ∀ G1, (∀ a b, a ≤ b → b ≤ T → G1 29 (p * 81 + a * 9 + b) = lN (xd_code wf wt p a b)) → (∀ i, i < p * 81 ∨ p * 81 + 81 ≤ i → G1 29 i = G 29 i) → (∀ j, j ≠ 29 → G1 j = G j) → post I F G1) : sm_X2_findPrices (nI p) (nI (wf p)) (nI (wt p)) (nI T) I F G post := by
  intro k9 k20 r9 r20
  unfold bd_X2_findPrices_0 sm_X2_shiftOf
  rw [xc_sh p hp]
  refine xl_up (fun i Gs => k9 (nI (8 * (4 - p))) (nI i) I F Gs) (T + 1) (fun i Gs => (∀ a b, a < i → a ≤ b → b ≤ T → Gs 29 (p * 81 + a * 9 + b) = lN (xd_code wf wt p a b)) ∧ (∀ i, i < p * 81 ∨ p * 81 + 81 ≤ i → Gs 29 i = G 29 i) ∧ ∀ j, j ≠ 29 → Gs j = G j) ?_ ?_ 0 G (by omega) ⟨fun a b h => by omega, fun _ _ => rfl, fun _ _ => rfl⟩
  · intro i Gs hi hv ih
    apply r9
    unfold bd_X2_findPrices_9
    refine ⟨fun z => absurd ((xn_lt (by omega) (by omega)).mp z) (by omega), fun _ => ?_⟩
    have key : ∀ d b Gt, i ≤ b → b + d = T + 1 → ((∀ a c, a < i → a ≤ c → c ≤ T → Gt 29 (p * 81 + a * 9 + c) = lN (xd_code wf wt p a c)) ∧ (∀ c, i ≤ c → c < b → Gt 29 (p * 81 + i * 9 + c) = lN (xd_code wf wt p i c)) ∧ (∀ i, i < p * 81 ∨ p * 81 + 81 ≤ i → Gt 29 i = G 29 i) ∧ ∀ j, j ≠ 29 → Gt j = G j) → k20 (nI (8 * (4 - p))) (nI i) (nI b) I F Gt := by
      intro d
      induction d with
      | zero =>
        intro b Gt hib hbd hw
        apply r20
        unfold bd_X2_findPrices_20
        refine ⟨fun _ v ev => ?_, fun z => absurd ((xn_lt (by omega) (by omega)).mpr (by omega)) z⟩
        rw [ev, nI_1]
        refine ih Gt ⟨fun a c ha hac hcT => ?_, hw.2.2.1, hw.2.2.2⟩
        by_cases hai : a = i
        · subst hai; exact hw.2.1 c hac (by omega)
        · exact hw.1 a c (by omega) hac hcT
      | succ d ihd =>
        intro b Gt hib hbd hw
        apply r20
        unfold bd_X2_findPrices_20
        refine ⟨fun z => absurd ((xn_lt (by omega) (by omega)).mp z) (by omega), fun _ => ?_⟩
        refine xs_cost hp (by assumption) (by omega) (by omega) (by omega) ?_
        intro v13 e13 v14 e14
        have hc := xd_cost_le (p := p) (wf := wf p) (wt := wt p) (a := i) (b := b) (by omega) (by omega) (by omega) (by omega)
        rw [xc_l (by omega)] at e13
        rw [xc_spot i (by omega) b (by omega), xc_l (by omega)] at e14
        rw [show (81 : Int32) = nI 81 from rfl, show (9 : Int32) = nI 9 from rfl, xn_mul, xn_mul, nI_add, nI_add]
        refine ⟨vp_in_nI (by omega) (by omega), fun G2 eG2 u eu => ?_⟩
        rw [nI_clamp (by omega), e13, e14, show (40 : Int32) = nI 40 from rfl, wb_shl _ (by omega), wb_shl _ (by omega)] at eG2
        have hcl := xd_code_le (wf := wf) (wt := wt) (p := p) (a := i) (b := b) hp (by omega) (by omega) (by omega) (by omega)
        rw [g_or (k := 40) rfl hcl.1 (by have := hcl.2; unfold xd_code at this; omega)] at eG2
        rw [eu, nI_1]
        refine ihd (b + 1) G2 (by omega) (by omega) ⟨fun a c ha hac hcT => ?_, fun c hic hcb => ?_, fun q hq => ?_, fun j hj => ?_⟩
        · rw [eG2, xw_ups, xb_updl, if_neg (by omega)]; exact hw.1 a c ha hac hcT
        · rw [eG2, xw_ups, xb_updl]
          by_cases hcb2 : c = b
          · subst hcb2; rw [if_pos rfl]; rfl
          · rw [if_neg (by omega)]; exact hw.2.1 c hic (by omega)
        · rw [eG2, xw_ups, xb_updl, if_neg (by omega)]; exact hw.2.2.1 q hq
        · rw [eG2, xw_upn hj]; exact hw.2.2.2 j hj
    exact key (T + 1 - i) i Gs (Nat.le_refl _) (by omega) ⟨hv.1, fun c h1 h2 => by omega, hv.2.1, hv.2.2⟩
  · intro Gs hv
    apply r9
    unfold bd_X2_findPrices_9
    refine ⟨fun _ => h Gs (fun a b hab hbT => hv.1 a b (by omega) hab hbT) hv.2.1 hv.2.2, fun z => absurd ((xn_lt (by omega) (by omega)).mpr (by omega)) z⟩
end
section
/-! ===== the class's search ===== -/
theorem xl_lt {a b : Nat} (ha : a < 2 ^ 63) (hb : b < 2 ^ 63) : lN a < lN b ↔ a < b := by
  rw [Int64.lt_iff_toInt_lt, pf_lI ha, pf_lI hb]; omega
theorem xl_min {a b : Nat} (ha : a < 2 ^ 63) (hb : b < 2 ^ 63) : (if lN a < lN b then lN a else lN b) = lN (min a b) := by
  by_cases h : a < b
  · rw [if_pos ((xl_lt ha hb).mpr h), show min a b = a by omega]
  · rw [if_neg (fun z => h ((xl_lt ha hb).mp z)), show min a b = b by omega]
theorem xn_0 {a : Nat} (h : a < 2 ^ 31) : nI a = 0 ↔ a = 0 := xn_eq (b := 0) h (by omega)
theorem xm_and : ∀ x, x < 32 → ∀ r, r < 32 → (x &&& r = 0 ↔ ∀ q, q < 5 → r.testBit q = true → x.testBit q = false) := by decide +kernel
theorem xm_sb : ∀ s, s < 32 → ∀ o, o < 32 → (nI o &&& (nI s ^^^ (-1)) = 0 ↔ o &&& s = o) ∧ (o &&& s = o → nI s &&& (nI o ^^^ (-1)) = nI (s - o)) := by decide +kernel
/-- what the searches know of the pairs -/
def xd_K (ps : Nat) (hd hb rk : Nat → Nat) : Prop := ps < 32 ∧ (∀ p, p < 5 → ps.testBit p = true → hd p < 32 ∧ hb p < 32) ∧ (∀ p q, p < 5 → q < 5 → ps.testBit p = true → ps.testBit q = true → (hd q).testBit p = (hb p).testBit q) ∧ (∀ p q, p < 5 → q < 5 → ps.testBit p = true → (hd p).testBit q = true → rk p < rk q)
theorem xd_K.irr {ps : Nat} {hd hb rk : Nat → Nat} (h : xd_K ps hd hb rk) {p : Nat} (hp : p < 5) (hb : ps.testBit p = true) : (hd p).testBit p = false := by
  cases hz : (hd p).testBit p
  · rfl
  · have := h.2.2.2 p p hp hp hb hz; omega
def xd_Pt (hd : Nat → Nat) (s o : Nat) : Prop := 0 < o ∧ o < s ∧ o &&& s = o ∧ xd_ap hd o (s - o)
theorem xs_apart {ps : Nat} {hd hb rk : Nat → Nat} {o r : Nat} {I : xw_I} {F : xw_F} {G : xw_G} {post : Int32 → Prop} (hK : xd_K ps hd hb rk) (hF : ∀ p, p < 5 → ps.testBit p = true → F 15 p = nI (hd p) ∧ F 16 p = nI (hb p)) (ho : o < 32) (hr : r < 32) (hop : o &&& ps = o) (hrp : r &&& ps = r) (h1 : xd_ap hd o r → post 1) (h0 : ¬ xd_ap hd o r → post 0) : sm_X2_apart (nI o) (nI r) I F G post := by
  obtain ⟨k1, k2, k3, k4⟩ := hK
  intro k hk
  refine xl_up (fun i (_ : Unit) => k (nI i)) 5 (fun i _ => ∀ p q, p < i → q < 5 → o.testBit p = true → r.testBit q = true → (hd p).testBit q = false ∧ (hd q).testBit p = false) ?_ ?_ 0 () (by omega) (fun p q h => by omega)
  · intro i _ hi hv ih
    apply hk
    unfold bd_X2_apart_2
    refine ⟨fun c => absurd ((xn_le (a := 5) (by omega) (by omega)).mp c) (by omega), fun _ => xs_has (by omega) (by omega) (fun hb0 => ⟨fun _ v ev => ?_, fun c => absurd rfl c⟩) (fun hb1 => ⟨fun c => absurd c (by decide), fun _ => ?_⟩)⟩
    · rw [ev, nI_1]
      refine ih () (fun p q hp hq hop2 hrq => ?_)
      by_cases hpi : p = i
      · rw [hpi, hb0] at hop2; cases hop2
      · exact hv p q (by omega) hq hop2 hrq
    · have hpi : ps.testBit i = true := xm_in o ho ps k1 hop i hi hb1
      obtain ⟨f1, f2⟩ := hF i hi hpi
      obtain ⟨c1, c2⟩ := k2 i hi hpi
      have hin := vp_in_nI hi (show 5 < 2 ^ 31 by omega)
      refine ⟨hin, fun v ev => ⟨hin, fun w ew => ?_⟩⟩
      rw [nI_clamp (by omega), f1] at ev
      rw [nI_clamp (by omega), f2] at ew
      subst ev ew
      have hor : hd i ||| hb i < 32 := Nat.or_lt_two_pow (n := 5) c1 c2
      have hand : (hd i ||| hb i) &&& r < 32 := Nat.and_lt_two_pow (n := 5) _ hr
      rw [xb_or, nx_and, xn_0 (by omega), xm_and _ hor r hr]
      refine ⟨fun z v ev => ?_, fun z => h0 (fun hap => z ?_)⟩
      · rw [ev, nI_1]
        refine ih () (fun p q hp hq hop2 hrq => ?_)
        by_cases hpi2 : p = i
        · subst hpi2
          have := z q hq hrq
          rw [Nat.testBit_or, Bool.or_eq_false_iff] at this
          exact ⟨this.1, by rw [k3 p q hi hq hpi (xm_in r hr ps k1 hrp q hq hrq)]; exact this.2⟩
        · exact hv p q (by omega) hq hop2 hrq
      · intro q hq hrq
        rw [Nat.testBit_or, Bool.or_eq_false_iff]
        have := hap i q hi hq hb1 hrq
        exact ⟨this.1, by rw [← k3 i q hi hq hpi (xm_in r hr ps k1 hrp q hq hrq)]; exact this.2⟩
  · intro _ hv
    apply hk
    unfold bd_X2_apart_2
    exact ⟨fun _ => h1 (fun p q hp hq => hv p q hp hq), fun c => absurd ((xn_le (a := 5) (b := 5) (by omega) (by omega)).mpr (by omega)) c⟩
/-- the row of parts -/
def xd_row (hd : Nat → Nat) (s k : Nat) (f : Nat → Int32) : Prop := k < 32 ∧ (∀ i, i < k → ∃ o, f i = nI o ∧ xd_Pt hd s o) ∧ ∀ o, xd_Pt hd s o → ∃ i, i < k ∧ f i = nI o
theorem xs_parts {ps : Nat} {hd hb rk : Nat → Nat} {s : Nat} {I : xw_I} {F : xw_F} {G : xw_G} {post : xw_I → xw_F → xw_G → Prop} (hK : xd_K ps hd hb rk) (hF : ∀ p, p < 5 → ps.testBit p = true → F 15 p = nI (hd p) ∧ F 16 p = nI (hb p)) (hs0 : 0 < s) (hs : s < 32) (hsp : s &&& ps = s)
    (h : ∀ k I1 F1, I1 15 = nI k → (∀ j, j ≠ 15 → I1 j = I j) → xd_row hd s k (F1 31) → (∀ j, j ≠ 31 → F1 j = F j) → post I1 F1 G) : sm_X2_findParts (nI s) I F G post := by
  intro k7 r7
  unfold bd_X2_findParts_0
  intro I0 eI0
  have hsub : ∀ o, o < 32 → o &&& s = o → o &&& ps = o := fun o ho hos => (xm_3 ps hK.1 s hs hsp o ho hos).2.2
  have key : ∀ d i k I1 F1, i + d = s → 0 < i → k < i → I1 15 = nI k → (∀ j, j ≠ 15 → I1 j = I j) → (∀ q, q < k → ∃ o, F1 31 q = nI o ∧ xd_Pt hd s o) → (∀ o, o < i → xd_Pt hd s o → ∃ q, q < k ∧ F1 31 q = nI o) → (∀ j, j ≠ 31 → F1 j = F j) → k7 (nI i) I1 F1 G := by
    intro d
    induction d with
    | zero =>
      intro i k I1 F1 hid hi0 hki v1 v2 v3 v4 v5
      apply r7
      unfold bd_X2_findParts_7
      refine ⟨fun _ => h k I1 F1 v1 v2 ⟨by omega, v3, fun o ho => v4 o (by have := ho.2.1; omega) ho⟩ v5, fun c => absurd ((xn_le (by omega) (by omega)).mpr (by omega)) c⟩
    | succ d ih =>
      intro i k I1 F1 hid hi0 hki v1 v2 v3 v4 v5
      apply r7
      unfold bd_X2_findParts_7
      refine ⟨fun c => absurd ((xn_le (by omega) (by omega)).mp c) (by omega), fun _ => ?_⟩
      have hi32 : i < 32 := by omega
      rw [(xm_sb s hs i hi32).1]
      refine ⟨fun z v ev => ?_, fun z => ?_⟩
      · rw [ev, nI_1]
        refine ih (i + 1) k I1 F1 (by omega) (by omega) (by omega) v1 v2 v3 (fun o ho hp => ?_) v5
        by_cases hoi : o = i
        · subst hoi; exact absurd hp.2.2.1 z
        · exact v4 o (by omega) hp
      · rw [(xm_sb s hs i hi32).2 z]
        refine xs_apart hK (fun p hp hpb => by rw [v5 15 (by decide), v5 16 (by decide)]; exact hF p hp hpb) hi32 (by omega) (hsub i hi32 z) (hsub _ (by omega) (xm_sub s hs i hi32 z).1) (fun hap => ⟨fun c => absurd c (by decide), fun _ => ?_⟩) (fun hap => ⟨fun _ v ev => ?_, fun c => absurd rfl c⟩)
        · rw [v1]
          refine ⟨vp_in_nI (by omega) (by omega), fun F2 eF2 I2 eI2 v ev => ?_⟩
          rw [nI_clamp (by omega)] at eF2
          rw [nI_1] at eI2
          rw [ev, nI_1]
          have hPt : xd_Pt hd s i := ⟨hi0, by omega, z, hap⟩
          refine ih (i + 1) (k + 1) I2 F2 (by omega) (by omega) (by omega) (by rw [eI2, xw_ups]) (fun j hj => by rw [eI2, xw_upn hj]; exact v2 j hj) (fun q hq => ?_) (fun o ho hp => ?_) (fun j hj => by rw [eF2, xw_upn hj]; exact v5 j hj)
          · rw [eF2, xw_ups, xb_updi]
            by_cases hqk : q = k
            · rw [if_pos hqk]; exact ⟨i, rfl, hPt⟩
            · rw [if_neg hqk]; exact v3 q (by omega)
          · rw [eF2, xw_ups]
            by_cases hoi : o = i
            · subst hoi; exact ⟨k, by omega, by rw [xb_updi, if_pos rfl]⟩
            · obtain ⟨q, hq, e⟩ := v4 o (by omega) hp
              exact ⟨q, by omega, by rw [xb_updi, if_neg (by omega)]; exact e⟩
        · rw [ev, nI_1]
          refine ih (i + 1) k I1 F1 (by omega) (by omega) (by omega) v1 v2 v3 (fun o ho hp => ?_) v5
          by_cases hoi : o = i
          · subst hoi; exact absurd hp.2.2.2 hap
          · exact v4 o (by omega) hp
  exact key (s - 1) 1 0 I0 F (by omega) (by omega) (by omega) (by rw [eI0, xw_ups]; rfl) (fun j hj => by rw [eI0, xw_upn hj]) (fun q hq => by omega) (fun o ho hp => by have := hp.1; omega) (fun _ _ => rfl)
/-- one more candidate -/
theorem xd_min.more {S S2 : Nat → Prop} {N v x : Nat} (h : xd_min S N v) (hx : ∀ y, S2 y ↔ S y ∨ y = x) : xd_min S2 N (min x v) := by
  obtain ⟨h1, h2, h3⟩ := h
  refine ⟨by omega, fun y hy => ?_, ?_⟩
  · rcases (hx y).mp hy with h | h
    · have := h2 y h; omega
    · omega
  · by_cases hxv : x < v
    · rw [show min x v = x by omega]; exact Or.inr ((hx x).mpr (Or.inr rfl))
    · rw [show min x v = v by omega]
      rcases h3 with h | h
      · exact Or.inl h
      · exact Or.inr ((hx v).mpr (Or.inl h))
theorem xd_min.same {S S2 : Nat → Prop} {N v : Nat} (h : xd_min S N v) (hx : ∀ y, S2 y ↔ S y) : xd_min S2 N v := ⟨h.1, fun y hy => h.2.1 y ((hx y).mp hy), h.2.2.imp id (fun z => (hx v).mpr z)⟩
/-- the tables: prices of the pairs; sums of the sets that are less -/
def xd_tab (code C : Nat → Nat → Nat → Nat) (ps T s0 : Nat) (G : xw_G) : Prop := (∀ p a b, p < 5 → ps.testBit p = true → a ≤ b → b ≤ T → G 29 (p * 81 + a * 9 + b) = lN (code p a b)) ∧ (∀ s a b, s < s0 → s < 32 → s &&& ps = s → a ≤ b → b ≤ T → G 30 (s * 81 + a * 9 + b) = lN (C s a b) ∧ C s a b ≤ 2 ^ 60)
theorem xs_filled {ps T s a b : Nat} {hd hb rk : Nat → Nat} {code C : Nat → Nat → Nat → Nat} {I : xw_I} {F : xw_F} {G : xw_G} {post : Int64 → Prop} (hK : xd_K ps hd hb rk) (hF : ∀ p, p < 5 → ps.testBit p = true → F 16 p = nI (hb p)) (hT : T ≤ 8) (hM : ∀ p a b, p < 5 → ps.testBit p = true → a ≤ b → b ≤ T → code p a b ≤ 33 * 2 ^ 40) (ht : xd_tab code C ps T s G) (hs : s < 32) (hsp : s &&& ps = s) (hab : a ≤ b) (hbT : b ≤ T)
    (h : ∀ v, xd_min (fun x => ∃ p, p < 5 ∧ s.testBit p = true ∧ xd_top hd (s - 2 ^ p) p ∧ x = code p a b + C (s - 2 ^ p) a b) (2 ^ 60) v → post (lN v)) : sm_X2_filled (nI s) (nI (a * 9 + b)) I F G post := by
  obtain ⟨k1, k2, k3, k4⟩ := id hK
  intro k hk
  have h60 : (1152921504606846976 : Int64) = lN (2 ^ 60) := rfl
  unfold bd_X2_filled_0
  rw [h60]
  refine xl_up (fun i v => k (lN v) (nI i)) 5 (fun i v => xd_min (fun x => ∃ p, p < i ∧ p < 5 ∧ s.testBit p = true ∧ xd_top hd (s - 2 ^ p) p ∧ x = code p a b + C (s - 2 ^ p) a b) (2 ^ 60) v) ?_ ?_ 0 (2 ^ 60) (by omega) ⟨Nat.le_refl _, fun x ⟨p, hp, _⟩ => by omega, Or.inl rfl⟩
  · intro i v hi hv ih
    apply hk
    unfold bd_X2_filled_8
    have hskip : (∀ x, ¬ (s.testBit i = true ∧ xd_top hd (s - 2 ^ i) i ∧ x = code i a b + C (s - 2 ^ i) a b)) → k (lN v) (nI (i + 1)) := by
      intro hno
      refine ih v (hv.same (fun y => ⟨fun ⟨p, p1, p2, p3, p4, p5⟩ => ?_, fun ⟨p, p1, p2⟩ => ⟨p, by omega, p2⟩⟩))
      by_cases hpi : p = i
      · subst hpi; exact absurd ⟨p3, p4, p5⟩ (hno y)
      · exact ⟨p, by omega, p2, p3, p4, p5⟩
    refine ⟨fun c => absurd ((xn_le (a := 5) (by omega) (by omega)).mp c) (by omega), fun _ => xs_has (by omega) (by omega) (fun hb0 => ⟨fun _ w ew => ?_, fun c => absurd rfl c⟩) (fun hb1 => ⟨fun c => absurd c (by decide), fun _ => ?_⟩)⟩
    · rw [ew, nI_1]; exact hskip (fun x z => by rw [hb0] at z; cases z.1)
    · have hpi : ps.testBit i = true := xm_in s hs ps k1 hsp i hi hb1
      obtain ⟨c1, c2⟩ := k2 i hi hpi
      obtain ⟨b1, b2, b3⟩ := xm_bit s hs i hi hb1
      obtain ⟨t1, t2, t3⟩ := xm_two i hi
      have hand : hb i &&& s < 32 := Nat.and_lt_two_pow (n := 5) _ hs
      refine ⟨vp_in_nI hi (by omega), fun w ew => ?_⟩
      rw [nI_clamp (by omega), hF i hi hpi] at ew
      rw [ew, nx_and, xn_0 (by omega), xm_and _ c2 s hs]
      have htop : (∀ q, q < 5 → s.testBit q = true → (hb i).testBit q = false) ↔ xd_top hd (s - 2 ^ i) i := by
        constructor
        · intro z q hq hqs
          rw [(xm_sub s hs _ t2 b1).2 q hq] at hqs
          have hqs2 : s.testBit q = true := by cases hz : s.testBit q; rw [hz] at hqs; cases hqs; rfl
          rw [k3 i q hi hq hpi (xm_in s hs ps k1 hsp q hq hqs2)]; exact z q hq hqs2
        · intro z q hq hqs
          rw [← k3 i q hi hq hpi (xm_in s hs ps k1 hsp q hq hqs)]
          by_cases hqi : i = q
          · rw [← hqi]; exact hK.irr hi hpi
          · exact z q hq (by rw [(xm_sub s hs _ t2 b1).2 q hq, hqs, t3 q hq]; simp [hqi])
      refine ⟨fun z w2 ew2 => ?_, fun z => ?_⟩
      · rw [ew2, nI_1]; exact hskip (fun x y => z (htop.mpr y.2.1))
      · intro w2 ew2
        rw [xb_shl i (by omega), (xm_sb s hs _ t2).2 b1] at ew2
        subst ew2
        have hsub : (s - 2 ^ i) &&& ps = s - 2 ^ i := (xm_3 ps k1 s hs hsp _ (by omega) (xm_sub s hs _ t2 b1).1).2.2
        rw [show (81 : Int32) = nI 81 from rfl, xn_mul, nI_add, xn_mul, nI_add]
        refine ⟨vp_in_nI (by omega) (by omega), fun x ex => ⟨vp_in_nI (by omega) (by omega), fun y ey u eu t et => ?_⟩⟩
        rw [nI_clamp (by omega), ← Nat.add_assoc, ht.1 i a b hi hpi hab hbT] at ex
        obtain ⟨g1, g2⟩ := ht.2 (s - 2 ^ i) a b (by omega) (by omega) hsub hab hbT
        rw [nI_clamp (by omega), ← Nat.add_assoc, g1] at ey
        have hm := hM i a b hi hpi hab hbT
        have hv60 := hv.1
        rw [ex, ey, lN_add, xl_min (by omega) (by omega)] at eu
        rw [eu, et, nI_1]
        refine ih _ (hv.more (fun y => ⟨fun ⟨p, p1, p2, p3, p4, p5⟩ => ?_, fun z2 => ?_⟩))
        · by_cases hpi2 : p = i
          · subst hpi2; exact Or.inr p5
          · exact Or.inl ⟨p, by omega, p2, p3, p4, p5⟩
        · rcases z2 with ⟨p, p1, p2⟩ | z2
          · exact ⟨p, by omega, p2⟩
          · exact ⟨i, by omega, hi, hb1, htop.mp z, z2⟩
  · intro v hv
    apply hk
    unfold bd_X2_filled_8
    refine ⟨fun _ => h v (hv.same (fun y => ⟨fun ⟨p, p1, p2⟩ => ⟨p, p1, p1, p2⟩, fun ⟨p, p1, p2⟩ => ⟨p, p2⟩⟩)), fun c => absurd ((xn_le (a := 5) (b := 5) (by omega) (by omega)).mpr (by omega)) c⟩
theorem xs_parted {ps T s a b kc : Nat} {hd : Nat → Nat} {code C : Nat → Nat → Nat → Nat} {I : xw_I} {F : xw_F} {G : xw_G} {post : Int64 → Prop} (hps : ps < 32) (hT : T ≤ 8) (hI : I 15 = nI kc) (hrow : xd_row hd s kc (F 31)) (ht : xd_tab code C ps T s G) (hs : s < 32) (hsp : s &&& ps = s) (hab : a ≤ b) (hbT : b ≤ T)
    (h : ∀ v, xd_min (fun x => ∃ o c, xd_Pt hd s o ∧ a ≤ c ∧ c < b ∧ x = C o a c + C (s - o) c b) (2 ^ 60) v → post (lN v)) : sm_X2_parted (nI s) (nI a) (nI b) I F G post := by
  obtain ⟨w1, w2, w3⟩ := hrow
  have hsub : ∀ o, o < 32 → o &&& s = o → o &&& ps = o := fun o ho hos => (xm_3 ps hps s hs hsp o ho hos).2.2
  intro k8 k55 r8 r55
  have h60 : (1152921504606846976 : Int64) = lN (2 ^ 60) := rfl
  unfold bd_X2_parted_0
  rw [h60]
  refine xl_up (fun i v => k8 (lN v) (nI i)) kc (fun i v => xd_min (fun x => ∃ q o c, q < i ∧ F 31 q = nI o ∧ xd_Pt hd s o ∧ a ≤ c ∧ c < b ∧ x = C o a c + C (s - o) c b) (2 ^ 60) v) ?_ ?_ 0 (2 ^ 60) (by omega) ⟨Nat.le_refl _, fun x ⟨q, o, c, hq, _⟩ => by omega, Or.inl rfl⟩
  · intro i v hi hv ih
    apply r8
    unfold bd_X2_parted_8
    rw [hI]
    refine ⟨fun c => absurd ((xn_le (by omega) (by omega)).mp c) (by omega), fun _ => ?_⟩
    obtain ⟨o, eo, po⟩ := w2 i hi
    obtain ⟨o1, o2, o3, o4⟩ := id po
    have hin := vp_in_nI (show i < 32 by omega) (show 32 < 2 ^ 31 by omega)
    refine ⟨hin, fun x ex y ey => ⟨hin, fun x2 ex2 y2 ey2 => ?_⟩⟩
    rw [nI_clamp (by omega), eo] at ex ex2
    rw [ex, show (81 : Int32) = nI 81 from rfl, show (9 : Int32) = nI 9 from rfl, xn_mul, xn_mul, nI_add] at ey
    rw [ex2, (xm_sb s hs o (by omega)).2 o3, show (81 : Int32) = nI 81 from rfl, xn_mul, nI_add] at ey2
    subst ey ey2
    have hq1 := hsub o (by omega) o3
    have hq2 := hsub (s - o) (by omega) (xm_sub s hs o (by omega) o3).1
    have hinj : ∀ o', o' < s → nI o' = nI o → o' = o := fun o' h1 h2 => (xn_eq (by omega) (by omega)).mp h2
    have key : ∀ d c v, a ≤ c → c + d = b → xd_min (fun x => (∃ q o c, q < i ∧ F 31 q = nI o ∧ xd_Pt hd s o ∧ a ≤ c ∧ c < b ∧ x = C o a c + C (s - o) c b) ∨ ∃ c', a ≤ c' ∧ c' < c ∧ x = C o a c' + C (s - o) c' b) (2 ^ 60) v → k55 (lN v) (nI i) (nI (o * 81 + a * 9)) (nI ((s - o) * 81 + b)) (nI c) := by
      intro d
      induction d with
      | zero =>
        intro c v hac hcd hv
        apply r55
        unfold bd_X2_parted_55
        refine ⟨fun _ u eu => ?_, fun z => absurd ((xn_le (by omega) (by omega)).mpr (by omega)) z⟩
        rw [eu, nI_1]
        refine ih v (hv.same (fun y => ⟨fun ⟨q, o', c', q1, q2, q3, q4, q5, q6⟩ => ?_, fun z => ?_⟩))
        · by_cases hqi : q = i
          · subst hqi
            rw [eo] at q2
            have := hinj o' q3.2.1 q2.symm
            subst this
            exact Or.inr ⟨c', q4, by omega, q6⟩
          · exact Or.inl ⟨q, o', c', by omega, q2, q3, q4, q5, q6⟩
        · rcases z with ⟨q, o', c', q1, q2⟩ | ⟨c', z1, z2, z3⟩
          · exact ⟨q, o', c', by omega, q2⟩
          · exact ⟨i, o, c', by omega, eo, po, z1, by omega, z3⟩
      | succ d ihd =>
        intro c v hac hcd hv
        apply r55
        unfold bd_X2_parted_55
        refine ⟨fun z => absurd ((xn_le (by omega) (by omega)).mp z) (by omega), fun _ => ?_⟩
        rw [nI_add, show (9 : Int32) = nI 9 from rfl, xn_mul, nI_add]
        refine ⟨vp_in_nI (by omega) (by omega), fun x ex => ⟨vp_in_nI (by omega) (by omega), fun y ey u eu t et => ?_⟩⟩
        obtain ⟨g1, g2⟩ := ht.2 o a c o2 (by omega) hq1 hac (by omega)
        obtain ⟨g3, g4⟩ := ht.2 (s - o) c b (by omega) (by omega) hq2 (by omega) hbT
        rw [nI_clamp (by omega), g1] at ex
        rw [nI_clamp (by omega), show (s - o) * 81 + b + c * 9 = (s - o) * 81 + c * 9 + b by omega, g3] at ey
        have hv60 := hv.1
        rw [ex, ey, lN_add, xl_min (by omega) (by omega)] at eu
        rw [eu, et, nI_1]
        refine ihd (c + 1) _ (by omega) (by omega) (hv.more (fun y => ⟨fun z => ?_, fun z => ?_⟩))
        · rcases z with z | ⟨c', z1, z2, z3⟩
          · exact Or.inl (Or.inl z)
          · by_cases hcc : c' = c
            · subst hcc; exact Or.inr z3
            · exact Or.inl (Or.inr ⟨c', z1, by omega, z3⟩)
        · rcases z with (z | ⟨c', z1, z2, z3⟩) | z
          · exact Or.inl z
          · exact Or.inr ⟨c', z1, by omega, z3⟩
          · exact Or.inr ⟨c, hac, by omega, z⟩
    exact key (b - a) a v (Nat.le_refl _) (by omega) (hv.same (fun y => ⟨fun z => z.elim id (fun ⟨c', z1, z2, _⟩ => by omega), fun z => Or.inl z⟩))
  · intro v hv
    apply r8
    unfold bd_X2_parted_8
    rw [hI]
    refine ⟨fun _ => h v (hv.same (fun y => ⟨fun ⟨o, c, p1, p2, p3, p4⟩ => ?_, fun ⟨q, o, c, q1, q2, q3, q4, q5, q6⟩ => ⟨o, c, q3, q4, q5, q6⟩⟩)), fun c => absurd ((xn_le (by omega) (by omega)).mpr (Nat.le_refl _)) c⟩
    obtain ⟨q, hq, e⟩ := w3 o p1
    exact ⟨q, o, c, hq, e, p1, p2, p3, p4⟩
end
section
/-! ===== the class's search, whole ===== -/
/-- candidates of one set, its own sums in V -/
def xd_SV (hd : Nat → Nat) (code C : Nat → Nat → Nat → Nat) (V : Nat → Nat → Nat) (s a b x : Nat) : Prop :=
  (∃ p, p < 5 ∧ s.testBit p = true ∧ xd_top hd (s - 2 ^ p) p ∧ x = code p a b + C (s - 2 ^ p) a b) ∨
  (a < b ∧ (x = V (a + 1) b ∨ x = V a (b - 1) ∨ ∃ o c, xd_Pt hd s o ∧ a ≤ c ∧ c < b ∧ x = C o a c + C (s - o) c b))
theorem xs_sums {ps T s kc : Nat} {hd hb rk : Nat → Nat} {code C : Nat → Nat → Nat → Nat} {I : xw_I} {F : xw_F} {G : xw_G} {post : xw_I → xw_F → xw_G → Prop} (hK : xd_K ps hd hb rk) (hF : ∀ p, p < 5 → ps.testBit p = true → F 16 p = nI (hb p)) (hT : T ≤ 8) (hM : ∀ p a b, p < 5 → ps.testBit p = true → a ≤ b → b ≤ T → code p a b ≤ 33 * 2 ^ 40) (hI : I 15 = nI kc) (hrow : xd_row hd s kc (F 31)) (ht : xd_tab code C ps T s G) (hs0 : 0 < s) (hs : s < 32) (hsp : s &&& ps = s)
    (h : ∀ G1 V, (∀ a b, a ≤ b → b ≤ T → G1 30 (s * 81 + a * 9 + b) = lN (V a b) ∧ xd_min (xd_SV hd code C V s a b) (2 ^ 60) (V a b)) → (∀ i, i < s * 81 ∨ s * 81 + 81 ≤ i → G1 30 i = G 30 i) → (∀ j, j ≠ 30 → G1 j = G j) → post I F G1) : sm_X2_findSums (nI s) (nI T) I F G post := by
  intro k3 k12 k119 r3 r12 r119
  -- what holds once all rooms shorter than n, and those of length n from before i, are done
  obtain ⟨Inv, hInv⟩ : ∃ Inv : Nat → Nat → xw_G → (Nat → Nat → Nat) → Prop, ∀ n i G1 V, Inv n i G1 V ↔ ((∀ a b, a ≤ b → b ≤ T → (b < a + n ∨ (b = a + n ∧ a < i)) → G1 30 (s * 81 + a * 9 + b) = lN (V a b) ∧ xd_min (xd_SV hd code C V s a b) (2 ^ 60) (V a b)) ∧ (∀ i, i < s * 81 ∨ s * 81 + 81 ≤ i → G1 30 i = G 30 i) ∧ ∀ j, j ≠ 30 → G1 j = G j) := ⟨_, fun _ _ _ _ => Iff.rfl⟩
  have htab : ∀ n i G1 V, Inv n i G1 V → xd_tab code C ps T s G1 := by
    intro n i G1 V hv
    obtain ⟨v1, v2, v3⟩ := (hInv n i G1 V).mp hv
    exact ⟨fun p a b hp hpb hab hbT => by rw [v3 29 (by decide)]; exact ht.1 p a b hp hpb hab hbT, fun s' a b h1 h2 h3 h4 h5 => by rw [v2 _ (Or.inl (by omega))]; exact ht.2 s' a b h1 h2 h3 h4 h5⟩
  refine xl_up (fun n (S : xw_G × (Nat → Nat → Nat)) => k3 (nI n) I F S.1) (T + 1) (fun n S => Inv n 0 S.1 S.2) ?_ ?_ 0 (G, fun _ _ => 0) (by omega) ((hInv _ _ _ _).mpr ⟨fun a b h1 h2 h3 => by omega, fun _ _ => rfl, fun _ _ => rfl⟩)
  · rintro n ⟨G1, V⟩ hn hv ih
    dsimp only at hv ⊢
    apply r3
    unfold bd_X2_findSums_3
    refine ⟨fun z => absurd ((xn_lt (by omega) (by omega)).mp z) (by omega), fun _ => ?_⟩
    refine xl_up (fun i (S : xw_G × (Nat → Nat → Nat)) => k12 (nI n) (nI i) I F S.1) (T + 1 - n) (fun i S => Inv n i S.1 S.2) ?_ ?_ 0 (G1, V) (by omega) hv
    · rintro i ⟨G2, V2⟩ hi hw ih2
      dsimp only at hw ⊢
      have htb := htab n i G2 V2 hw
      obtain ⟨v1, v2, v3⟩ := (hInv n i G2 V2).mp hw
      -- the store
      have hstore : ∀ v, xd_min (xd_SV hd code C V2 s i (i + n)) (2 ^ 60) v → k119 (nI n) (nI i) (nI (i + n)) (lN v) I F G2 := by
        intro v hmin
        apply r119
        unfold bd_X2_findSums_119
        rw [show (81 : Int32) = nI 81 from rfl, show (9 : Int32) = nI 9 from rfl, xn_mul, xn_mul, nI_add, nI_add]
        refine ⟨vp_in_nI (by omega) (by omega), fun G3 eG3 u eu => ?_⟩
        rw [nI_clamp (by omega)] at eG3
        rw [eu, nI_1]
        obtain ⟨V3, hV3, hV3n⟩ : ∃ V3 : Nat → Nat → Nat, V3 i (i + n) = v ∧ ∀ x y, ¬ (x = i ∧ y = i + n) → V3 x y = V2 x y := ⟨fun x y => if x = i ∧ y = i + n then v else V2 x y, if_pos ⟨rfl, rfl⟩, fun x y h => if_neg h⟩
        refine ih2 (G3, V3) ((hInv _ _ _ _).mpr ⟨fun a b hab hbT hd' => ?_, fun q hq => ?_, fun j hj => ?_⟩)
        · dsimp only
          rw [eG3, xw_ups, xb_updl]
          by_cases hai : a = i ∧ b = i + n
          · obtain ⟨rfl, rfl⟩ := hai
            rw [if_pos rfl, hV3]
            refine ⟨rfl, hmin.same (fun y => ?_)⟩
            unfold xd_SV
            by_cases hn0 : n = 0
            · subst hn0; simp
            · rw [hV3n _ _ (by omega), hV3n _ _ (by omega)]
          · rw [if_neg (by omega), hV3n _ _ hai]
            obtain ⟨d1, d2⟩ := v1 a b hab hbT (by omega)
            refine ⟨d1, d2.same (fun y => ?_)⟩
            unfold xd_SV
            by_cases hab0 : a < b
            · rw [hV3n _ _ (by omega), hV3n _ _ (by omega)]
            · simp [hab0]
        · dsimp only; rw [eG3, xw_ups, xb_updl, if_neg (by omega)]; exact v2 q hq
        · dsimp only; rw [eG3, xw_upn hj]; exact v3 j hj
      apply r12
      unfold bd_X2_findSums_12
      rw [nI_add]
      refine ⟨fun z => absurd ((xn_lt (by omega) (by omega)).mp z) (by omega), fun _ w ew => ?_⟩
      rw [ew, show (9 : Int32) = nI 9 from rfl, xn_mul, nI_add]
      refine xs_filled hK hF hT hM htb hs hsp (show i ≤ i + n by omega) (show i + n ≤ T by omega) (fun vf hvf => ⟨fun z => ?_, fun z => ?_⟩)
      · have z : n ≤ 0 := (xn_le (b := 0) (by omega) (by omega)).mp z
        refine hstore vf (hvf.same (fun y => ?_))
        unfold xd_SV
        exact ⟨fun q => q.elim id (fun q => absurd q.1 (by omega)), fun q => Or.inl q⟩
      · have z : 0 < n := Nat.pos_of_ne_zero (fun y => z (by rw [y]; exact (xn_le (a := 0) (b := 0) (by omega) (by omega)).mpr (by omega)))
        rw [show (81 : Int32) = nI 81 from rfl, show (1 : Int32) = nI 1 from rfl, nI_add, xn_mul, xn_mul, nI_add, nI_add, nI_add, nI_add, xn_sub (by omega)]
        refine ⟨vp_in_nI (by omega) (by omega), fun x ex y ey => ⟨vp_in_nI (by omega) (by omega), fun x2 ex2 y2 ey2 => ?_⟩⟩
        obtain ⟨d1, d2⟩ := v1 (i + 1) (i + n) (by omega) (by omega) (by omega)
        obtain ⟨d3, d4⟩ := v1 i (i + n - 1) (by omega) (by omega) (by omega)
        rw [nI_clamp (by omega), d1] at ex
        rw [nI_clamp (by omega), show s * 81 + i * 9 + (i + n) - 1 = s * 81 + i * 9 + (i + n - 1) by omega, d3] at ex2
        have hb1 := hvf.1
        have hb2 := d2.1
        have hb3 := d4.1
        rw [ex, xl_min (by omega) (by omega)] at ey
        rw [ex2, ey, xl_min (by omega) (by omega)] at ey2
        refine xs_parted hK.1 hT hI hrow htb hs hsp (show i ≤ i + n by omega) (show i + n ≤ T by omega) (fun vp hvp u eu => ?_)
        have hb4 := hvp.1
        rw [ey2, xl_min (by omega) (by omega)] at eu
        rw [eu]
        refine hstore _ ?_
        obtain ⟨f1, f2, f3⟩ := hvf
        obtain ⟨p1, p2, p3⟩ := hvp
        refine ⟨by omega, fun q hq => ?_, ?_⟩
        · unfold xd_SV at hq
          rcases hq with hq | ⟨_, hq | hq | hq⟩
          · have := f2 q hq; omega
          · omega
          · omega
          · have := p2 q hq; omega
        · obtain ⟨m, hm⟩ : ∃ m, m = min vp (min (V2 i (i + n - 1)) (min (V2 (i + 1) (i + n)) vf)) := ⟨_, rfl⟩
          rw [← hm]
          unfold xd_SV
          have h4 : m = vp ∨ m = V2 i (i + n - 1) ∨ m = V2 (i + 1) (i + n) ∨ m = vf := by omega
          rcases h4 with e | e | e | e
          · rcases p3 with e2 | e2
            · left; omega
            · right; right; exact ⟨by omega, Or.inr (Or.inr (by rw [e]; exact e2))⟩
          · right; right; exact ⟨by omega, Or.inr (Or.inl e)⟩
          · right; right; exact ⟨by omega, Or.inl e⟩
          · rcases f3 with e2 | e2
            · left; omega
            · right; left; rw [e]; exact e2
    · rintro ⟨G2, V2⟩ hw
      dsimp only at hw ⊢
      obtain ⟨v1, v2, v3⟩ := (hInv _ _ _ _).mp hw
      apply r12
      unfold bd_X2_findSums_12
      rw [nI_add]
      refine ⟨fun _ u eu => ?_, fun z => absurd ((xn_lt (by omega) (by omega)).mpr (by omega)) z⟩
      rw [eu, nI_1]
      exact ih (G2, V2) ((hInv _ _ _ _).mpr ⟨fun a b h1 h2 h3 => v1 a b h1 h2 (by omega), v2, v3⟩)
  · rintro ⟨G1, V⟩ hv
    dsimp only at hv ⊢
    obtain ⟨v1, v2, v3⟩ := (hInv _ _ _ _).mp hv
    apply r3
    unfold bd_X2_findSums_3
    exact ⟨fun _ => h G1 V (fun a b h1 h2 => v1 a b h1 h2 (by omega)) v2 v3, fun z => absurd ((xn_lt (by omega) (by omega)).mpr (by omega)) z⟩
theorem xn_l2i (w : Nat) : (lN w).toInt32 = nI w := lN_i w
theorem xc_s15 {v : Nat} (h : v < 2 ^ 31) : (nI v >>> ((4 : Int32) &&& 31)) &&& (15 : Int32) = nI (v / 16 % 16) := by
  rw [show ((4 : Int32) &&& 31) = (nI 4 &&& 31) from rfl, xb_shr h (by omega), show (15 : Int32) = nI 15 from rfl, nx_and, show (15 : Nat) = 2 ^ 4 - 1 from rfl, Nat.and_two_pow_sub_one_eq_mod]
theorem xc_a15 (v : Nat) : nI v &&& (15 : Int32) = nI (v % 16) := by
  rw [show (15 : Int32) = nI 15 from rfl, nx_and, show (15 : Nat) = 2 ^ 4 - 1 from rfl, Nat.and_two_pow_sub_one_eq_mod]
theorem xn_mod32 (w : Nat) : nI w = nI (w % 2 ^ 32) := by
  apply Int32.toBitVec_inj.1
  show BitVec.ofNat 32 w = BitVec.ofNat 32 (w % 2 ^ 32)
  apply BitVec.eq_of_toNat_eq
  rw [BitVec.toNat_ofNat, BitVec.toNat_ofNat, Nat.mod_mod]
theorem xc_a15' (v : Nat) : (nI v >>> ((4 : Int32) &&& 31)) &&& (15 : Int32) = nI (v / 16 % 16) := by
  apply b_ext
  intro i hi
  rw [b_and, show ((4 : Int32) &&& 31) = (nI 4 &&& 31) from rfl, b_sshr 4 (by omega) _ hi, show (15 : Int32) = nI 15 from rfl, xb_bt _ _ hi, xb_bt _ _ hi, show v / 16 % 16 = v / 2 ^ 4 % 2 ^ 4 from rfl, Nat.testBit_mod_two_pow, Nat.testBit_div_two_pow]
  by_cases h4 : i < 4
  · rw [if_pos (by omega), xb_bt _ _ (by omega)]
    have : (15 : Nat).testBit i = true := by
      rcases (show i = 0 ∨ i = 1 ∨ i = 2 ∨ i = 3 by omega) with rfl | rfl | rfl | rfl <;> decide
    rw [this]; simp [h4, Nat.add_comm]
  · have : (15 : Nat).testBit i = false := Nat.testBit_lt_two_pow (Nat.lt_of_lt_of_le (by decide : 15 < 2 ^ 4) (Nat.pow_le_pow_right (by decide) (by omega)))
    rw [this]; simp [h4]
/-- a pair's digits in the sum: where it begins, where it ends -/
def xd_fr (w p : Nat) : Nat := w / 2 ^ (8 * (4 - p)) / 16 % 16
def xd_to (w p : Nat) : Nat := w / 2 ^ (8 * (4 - p)) % 16
def xw_placed (wf wt : Nat → Nat) (w ps : Nat) (I : xw_I) (F : xw_F) : Prop := I 14 = nI (w / 2 ^ 40) ∧ ∀ p, p < 5 → ps.testBit p = true → F 26 p = nI (xd_fr w p) ∧ F 27 p = nI (xd_to w p) ∧ F 28 p = nI (xd_cost p (wf p) (wt p) (xd_fr w p) (xd_to w p))
theorem xc_c63 : ∀ k, k < 64 → (((nI k).toInt64 &&& 63).toBitVec.smod 64).toNat = k := by decide +kernel
theorem xs_spans {ps w T : Nat} {wf wt : Nat → Nat} {I : xw_I} {F : xw_F} {G : xw_G} {post : xw_I → xw_F → xw_G → Prop} (hps : ps < 32) (hw : w < 2 ^ 62) (hT : T ≤ 8) (hF : ∀ p, p < 5 → ps.testBit p = true → F 22 p = nI (wf p) ∧ F 23 p = nI (wt p) ∧ wf p ≤ wt p ∧ wt p ≤ T)
    (h : ∀ I1 F1, xw_placed wf wt w ps I1 F1 → (∀ j, j ≠ 14 → I1 j = I j) → (∀ j, j < 26 ∨ 28 < j → F1 j = F j) → post I1 F1 G) : sm_X2_readSpans (nI ps) (lN w) I F G post := by
  intro k hk
  unfold bd_X2_readSpans_0
  intro I1 eI1
  rw [show (40 : Int32) = nI 40 from rfl, pf_shr (xc_c63 40 (by omega)) hw, xn_l2i] at eI1
  refine xl_up (fun i Fs => k (nI i) I1 Fs G) 5 (fun i Fs => (∀ p, p < i → ps.testBit p = true → Fs 26 p = nI (xd_fr w p) ∧ Fs 27 p = nI (xd_to w p) ∧ Fs 28 p = nI (xd_cost p (wf p) (wt p) (xd_fr w p) (xd_to w p))) ∧ ∀ j, j < 26 ∨ 28 < j → Fs j = F j) ?_ ?_ 0 F (by omega) ⟨fun p hp => by omega, fun _ _ => rfl⟩
  · intro i Fs hi hv ih
    apply hk
    unfold bd_X2_readSpans_12
    refine ⟨fun c => absurd ((xn_le (a := 5) (by omega) (by omega)).mp c) (by omega), fun _ => xs_has (by omega) (by omega) (fun hb0 => ⟨fun _ v ev => ?_, fun c => absurd rfl c⟩) (fun hb1 => ⟨fun c => absurd c (by decide), fun _ => ?_⟩)⟩
    · rw [ev, nI_1]
      refine ih Fs ⟨fun p hp hpb => ?_, hv.2⟩
      by_cases hpi : p = i
      · rw [hpi, hb0] at hpb; cases hpb
      · exact hv.1 p (by omega) hpb
    · unfold sm_X2_shiftOf
      rw [xc_sh i hi]
      intro v ev
      rw [pf_shr (xc_c63 _ (by omega)) hw, xn_l2i] at ev
      obtain ⟨f1, f2, f3, f4⟩ := hF i hi hb1
      have hin := vp_in_nI hi (show 5 < 2 ^ 31 by omega)
      have hci : (nI i).toNatClampNeg = i := nI_clamp (by omega)
      refine ⟨hin, fun F1 e1 => ⟨hin, fun F2 e2 => ⟨hin, fun v1 g1 => ⟨hin, fun v2 g2 => ⟨hin, fun v3 g3 => ⟨hin, fun v4 g4 => ?_⟩⟩⟩⟩⟩⟩
      rw [hci, ev, xc_a15'] at e1
      rw [hci, ev, xc_a15] at e2
      rw [hci, e2, xw_upn (by decide), e1, xw_upn (by decide), hv.2 22 (by omega), f1] at g1
      rw [hci, e2, xw_upn (by decide), e1, xw_upn (by decide), hv.2 23 (by omega), f2] at g2
      rw [hci, e2, xw_upn (by decide), e1, xw_ups, xb_updi, if_pos rfl] at g3
      rw [hci, e2, xw_ups, xb_updi, if_pos rfl] at g4
      subst g1 g2 g3 g4
      refine xs_cost hi f3 (by omega) (by have := Nat.mod_lt (w / 2 ^ (8 * (4 - i)) / 16) (show 0 < 16 by decide); omega) (by have := Nat.mod_lt (w / 2 ^ (8 * (4 - i))) (show 0 < 16 by decide); omega) ⟨hin, fun F3 e3 u eu => ?_⟩
      rw [hci] at e3
      rw [eu, nI_1]
      refine ih F3 ⟨fun p hp hpb => ?_, fun j hj => ?_⟩
      · rw [e3, xw_upn (by decide), xw_upn (by decide), xw_ups, e2, xw_upn (by decide), xw_ups, xw_upn (by decide), e1, xw_ups, xw_upn (by decide), xw_upn (by decide)]
        by_cases hpi : p = i
        · subst hpi
          simp only [xb_updi, if_pos]
          exact ⟨rfl, rfl, rfl⟩
        · simp only [xb_updi, if_neg hpi]
          exact hv.1 p (by omega) hpb
      · rw [e3, xw_upn (by omega), e2, xw_upn (by omega), e1, xw_upn (by omega)]; exact hv.2 j hj
  · intro Fs hv
    apply hk
    unfold bd_X2_readSpans_12
    refine ⟨fun _ => h I1 Fs ⟨by rw [eI1, xw_ups], fun p hp hpb => hv.1 p hp hpb⟩ (fun j hj => by rw [eI1, xw_upn hj]) hv.2, fun c => absurd ((xn_le (a := 5) (b := 5) (by omega) (by omega)).mpr (by omega)) c⟩
theorem xs_place {ps T : Nat} {hd hb rk wf wt : Nat → Nat} {I : xw_I} {F : xw_F} {G : xw_G} {post : xw_I → xw_F → xw_G → Prop} (hK : xd_K ps hd hb rk) (hI : I 8 = nI ps) (hF : ∀ p, p < 5 → ps.testBit p = true → F 15 p = nI (hd p) ∧ F 16 p = nI (hb p)) (hT : T ≤ 8) (hW : ∀ p, p < 5 → ps.testBit p = true → F 22 p = nI (wf p) ∧ F 23 p = nI (wt p) ∧ wf p ≤ wt p ∧ wt p ≤ T) (hG : ∀ i, i < 81 → G 30 i = 0)
    (h : ∀ C I1 F1 G1, xd_hC hd (xd_code wf wt) ps T (2 ^ 60) C → xw_placed wf wt (C ps 0 T) ps I1 F1 → (∀ j, j ≠ 14 → j ≠ 15 → I1 j = I j) → (∀ j, j < 26 ∨ 31 < j → F1 j = F j) → (∀ i, i < 81 → G1 30 i = 0) → post I1 F1 G1) : sm_X2_place (nI T) I F G post := by
  intro k3 k51 r3 r51
  unfold bd_X2_place_0
  have hps := hK.1
  have hM : ∀ p a b, p < 5 → ps.testBit p = true → a ≤ b → b ≤ T → xd_code wf wt p a b ≤ 33 * 2 ^ 40 := fun p a b hp hpb hab hbT => by
    obtain ⟨_, _, w3, w4⟩ := hW p hp hpb
    exact (xd_code_le hp (by omega) (by omega) (by omega) (by omega)).2
  -- the prices
  refine xl_up (fun i Gs => k3 (nI i) I F Gs) 5 (fun i Gs => (∀ p a b, p < i → ps.testBit p = true → a ≤ b → b ≤ T → Gs 29 (p * 81 + a * 9 + b) = lN (xd_code wf wt p a b)) ∧ ∀ j, j ≠ 29 → Gs j = G j) ?_ ?_ 0 G (by omega) ⟨fun p a b hp => by omega, fun _ _ => rfl⟩
  · intro i Gs hi hv ih
    apply r3
    unfold bd_X2_place_3
    rw [hI]
    refine ⟨fun c => absurd ((xn_le (a := 5) (by omega) (by omega)).mp c) (by omega), fun _ => xs_has (by omega) (by omega) (fun hb0 => ⟨fun _ v ev => ?_, fun c => absurd rfl c⟩) (fun hb1 => ⟨fun c => absurd c (by decide), fun _ => ?_⟩)⟩
    · rw [ev, nI_1]
      refine ih Gs ⟨fun p a b hp hpb => ?_, hv.2⟩
      by_cases hpi : p = i
      · rw [hpi, hb0] at hpb; cases hpb
      · exact hv.1 p a b (by omega) hpb
    · obtain ⟨w1, w2, w3, w4⟩ := hW i hi hb1
      have hin := vp_in_nI hi (show 5 < 2 ^ 31 by omega)
      refine ⟨hin, fun v ev => ⟨hin, fun u eu => ?_⟩⟩
      rw [nI_clamp (by omega), w1] at ev
      rw [nI_clamp (by omega), w2] at eu
      rw [ev, eu]
      refine xs_prices (wf := wf) (wt := wt) hi hT w3 w4 (fun G1 g1 g2 g3 x ex => ?_)
      rw [ex, nI_1]
      refine ih G1 ⟨fun p a b hp hpb hab hbT => ?_, fun j hj => (g3 j hj).trans (hv.2 j hj)⟩
      by_cases hpi : p = i
      · subst hpi; exact g1 a b hab hbT
      · rw [g2 _ (by omega)]; exact hv.1 p a b (by omega) hpb hab hbT
  · intro Gs hv
    apply r3
    unfold bd_X2_place_3
    refine ⟨fun _ => ?_, fun c => absurd ((xn_le (a := 5) (b := 5) (by omega) (by omega)).mpr (by omega)) c⟩
    -- the sets
    have key : ∀ d i C I1 F1 G1, i + d = 32 → 0 < i → (∀ a b, C 0 a b = 0) → (∀ s, 0 < s → s < i → s &&& ps = s → ∀ a b, a ≤ b → b ≤ T → xd_min (xd_SC hd (xd_code wf wt) C s a b) (2 ^ 60) (C s a b)) → xd_tab (xd_code wf wt) C ps T i G1 → (∀ j, j ≠ 15 → I1 j = I j) → (∀ j, j ≠ 31 → F1 j = F j) → (∀ q, q < 81 → G1 30 q = 0) → k51 (nI i) I1 F1 G1 := by
      intro d
      induction d with
      | zero =>
        intro i C I1 F1 G1 hid hi0 hC0 hC ht hI1 hF1 hG1
        have hi32 : i = 32 := by omega
        subst hi32
        apply r51
        unfold bd_X2_place_51
        have h8 : I1 8 = nI ps := (hI1 8 (by decide)).trans hI
        refine ⟨fun _ => ?_, fun c => absurd ((xn_le (a := 32) (b := 32) (by omega) (by omega)).mpr (by omega)) c⟩
        rw [h8, show (81 : Int32) = nI 81 from rfl, xn_mul, nI_add]
        refine ⟨vp_in_nI (by omega) (by omega), fun v ev => ?_⟩
        obtain ⟨t1, t2⟩ := ht.2 ps 0 T hps hps (Nat.and_self ps) (by omega) (Nat.le_refl _)
        rw [nI_clamp (by omega), show ps * 81 + T = ps * 81 + 0 * 9 + T by omega, t1] at ev
        rw [ev]
        refine xs_spans (wf := wf) (wt := wt) hps (by omega) hT (fun p hp hpb => ?_) (fun I2 F2 hpl hI2 hF2 => ?_)
        · rw [hF1 22 (by decide), hF1 23 (by decide)]; exact hW p hp hpb
        · refine h C I2 F2 G1 ⟨hC0, fun s s1 s2 s3 => hC s s1 s2 s3⟩ hpl (fun j a b => (hI2 j a).trans (hI1 j b)) (fun j hj => (hF2 j (by omega)).trans (hF1 j (by omega))) hG1
      | succ d ih =>
        intro i C I1 F1 G1 hid hi0 hC0 hC ht hI1 hF1 hG1
        apply r51
        unfold bd_X2_place_51
        have h8 : I1 8 = nI ps := (hI1 8 (by decide)).trans hI
        refine ⟨fun c => absurd ((xn_le (a := 32) (by omega) (by omega)).mp c) (by omega), fun _ => ?_⟩
        have hi32 : i < 32 := by omega
        rw [h8, (xm_sb ps hps i hi32).1]
        refine ⟨fun z v ev => ?_, fun z => ?_⟩
        · rw [ev, nI_1]
          refine ih (i + 1) C I1 F1 G1 (by omega) (by omega) hC0 (fun s s1 s2 s3 => ?_) ⟨ht.1, fun s a b s1 s2 s3 => ?_⟩ hI1 hF1 hG1
          · by_cases hsi : s = i
            · subst hsi; exact absurd s3 z
            · exact hC s s1 (by omega) s3
          · by_cases hsi : s = i
            · subst hsi; exact absurd s3 z
            · exact ht.2 s a b (by omega) s2 s3
        · refine xs_parts hK (fun p hp hpb => by rw [hF1 15 (by decide), hF1 16 (by decide)]; exact hF p hp hpb) hi0 hi32 z (fun kc I2 F2 hk hI2 hrow hF2 => ?_)
          refine xs_sums hK (fun p hp hpb => by rw [hF2 16 (by decide), hF1 16 (by decide)]; exact (hF p hp hpb).2) hT hM hk hrow ht hi0 hi32 z (fun G2 V hV hG2 hG2j => ?_)
          intro v ev
          rw [ev, nI_1]
          obtain ⟨C3, hC3, hC3n⟩ : ∃ C3 : Nat → Nat → Nat → Nat, (∀ a b, C3 i a b = V a b) ∧ ∀ s, s ≠ i → C3 s = C s := ⟨fun s => if s = i then V else C s, fun a b => by simp, fun s h => by simp [h]⟩
          refine ih (i + 1) C3 I2 F2 G2 (by omega) (by omega) (fun a b => by rw [hC3n 0 (by omega)]; exact hC0 a b) (fun s s1 s2 s3 a b hab hbT => ?_) ⟨fun p a b hp hpb hab hbT => by rw [hG2j 29 (by decide)]; exact ht.1 p a b hp hpb hab hbT, fun s a b s1 s2 s3 hab hbT => ?_⟩ (fun j hj => (hI2 j hj).trans (hI1 j hj)) (fun j hj => (hF2 j hj).trans (hF1 j hj)) (fun q hq => by rw [hG2 q (by omega)]; exact hG1 q hq)
          · by_cases hsi : s = i
            · subst hsi
              rw [hC3]
              refine (hV a b hab hbT).2.same (fun y => ?_)
              unfold xd_SC xd_SV
              constructor
              · rintro (⟨p, p1, p2, p3, p4⟩ | ⟨z0, z1 | z1 | ⟨o, c, o1, o2, o3, o4, o5, o6, o7⟩⟩)
                · obtain ⟨_, q2, _⟩ := xm_bit s hi32 p p1 p2
                  have := (xm_two p p1).1
                  rw [hC3n _ (by omega)] at p4; exact Or.inl ⟨p, p1, p2, p3, p4⟩
                · rw [hC3] at z1; exact Or.inr ⟨z0, Or.inl z1⟩
                · rw [hC3] at z1; exact Or.inr ⟨z0, Or.inr (Or.inl z1)⟩
                · rw [hC3n _ (by omega), hC3n _ (by omega)] at o7; exact Or.inr ⟨z0, Or.inr (Or.inr ⟨o, c, ⟨o1, o2, o3, o4⟩, o5, o6, o7⟩)⟩
              · rintro (⟨p, p1, p2, p3, p4⟩ | ⟨z0, z1 | z1 | ⟨o, c, ⟨o1, o2, o3, o4⟩, o5, o6, o7⟩⟩)
                · obtain ⟨_, q2, _⟩ := xm_bit s hi32 p p1 p2
                  have := (xm_two p p1).1
                  exact Or.inl ⟨p, p1, p2, p3, by rw [hC3n _ (by omega)]; exact p4⟩
                · exact Or.inr ⟨z0, Or.inl (by rw [hC3]; exact z1)⟩
                · exact Or.inr ⟨z0, Or.inr (Or.inl (by rw [hC3]; exact z1))⟩
                · exact Or.inr ⟨z0, Or.inr (Or.inr ⟨o, c, o1, o2, o3, o4, o5, o6, by rw [hC3n _ (by omega), hC3n _ (by omega)]; exact o7⟩)⟩
            · rw [hC3n _ hsi]
              refine (hC s s1 (by omega) s3 a b hab hbT).same (fun y => ?_)
              unfold xd_SC
              rw [hC3n _ hsi]
              constructor
              · rintro (⟨p, p1, p2, p3, p4⟩ | ⟨z0, z1 | z1 | ⟨o, c, o1, o2, o3, o4, o5, o6, o7⟩⟩)
                · have h2p := (xm_two p p1).1
                  rw [hC3n _ (by omega)] at p4; exact Or.inl ⟨p, p1, p2, p3, p4⟩
                · exact Or.inr ⟨z0, Or.inl z1⟩
                · exact Or.inr ⟨z0, Or.inr (Or.inl z1)⟩
                · rw [hC3n _ (by omega), hC3n _ (by omega)] at o7; exact Or.inr ⟨z0, Or.inr (Or.inr ⟨o, c, o1, o2, o3, o4, o5, o6, o7⟩)⟩
              · rintro (⟨p, p1, p2, p3, p4⟩ | ⟨z0, z1 | z1 | ⟨o, c, o1, o2, o3, o4, o5, o6, o7⟩⟩)
                · have h2p := (xm_two p p1).1
                  exact Or.inl ⟨p, p1, p2, p3, by rw [hC3n _ (by omega)]; exact p4⟩
                · exact Or.inr ⟨z0, Or.inl z1⟩
                · exact Or.inr ⟨z0, Or.inr (Or.inl z1)⟩
                · exact Or.inr ⟨z0, Or.inr (Or.inr ⟨o, c, o1, o2, o3, o4, o5, o6, by rw [hC3n _ (by omega), hC3n _ (by omega)]; exact o7⟩)⟩
          · by_cases hsi : s = i
            · subst hsi; rw [hC3]; exact ⟨(hV a b hab hbT).1, (hV a b hab hbT).2.1⟩
            · rw [hC3n _ hsi, hG2 _ (by omega)]; exact ht.2 s a b (by omega) s2 s3 hab hbT
    refine key 31 1 (fun _ _ _ => 0) I F Gs (by omega) (by omega) (fun _ _ => rfl) (fun s s1 s2 => by omega) ⟨fun p a b hp hpb hab hbT => hv.1 p a b hp hpb hab hbT, fun s a b s1 s2 s3 hab hbT => ?_⟩ (fun _ _ => rfl) (fun _ _ => rfl) (fun q hq => by rw [hv.2 30 (by decide)]; exact hG q hq)
    rw [hv.2 30 (by decide), hG _ (by omega)]
    exact ⟨rfl, Nat.zero_le _⟩
end
section
/-! ===== the reference's search ===== -/
/-- what the reference holds of the pairs -/
def xe_MP (ps : Nat) (op cl hd : Nat → Nat) (F : xw_F) : Prop := (∀ p, p < 5 → ps.testBit p = true → F 1 p = nI (op p) ∧ F 2 p = nI (cl p) ∧ F 3 p = nI (hd p) ∧ op p ≤ cl p ∧ cl p ≤ 12) ∧ ∀ p, p < 5 → ps.testBit p = false → F 1 p = -6 ∧ F 3 p = 0
theorem xs_isThere {ps p : Nat} {op cl hd : Nat → Nat} {I : xw_I} {F : xw_F} {G : xw_G} {post : Int32 → Prop} (hE : xe_MP ps op cl hd F) (hp : p < 5) (h1 : ps.testBit p = true → post 1) (h0 : ps.testBit p = false → post 0) : sm_X8_isThere (nI p) I F G post := by
  unfold sm_X8_isThere
  refine xs_in (a := 0) (b := 4) (by omega) (by omega) (by omega) (fun _ _ => ⟨fun c => absurd c (by decide), fun _ => ⟨vp_in_nI hp (by omega), fun v ev => ?_⟩⟩) (fun c => absurd ⟨by omega, by omega⟩ c)
  rw [nI_clamp (by omega)] at ev
  cases hb : ps.testBit p
  · rw [(hE.2 p hp hb).1] at ev
    rw [ev]
    exact ⟨fun _ => h0 hb, fun c => absurd (by decide) c⟩
  · obtain ⟨e1, e2, e3, e4, e5⟩ := hE.1 p hp hb
    rw [e1] at ev
    rw [ev]
    exact ⟨fun c => absurd c (nI_pos (by omega)), fun _ => h1 hb⟩
theorem xm_mod : ∀ s, s < 32 → ∀ i, i < 5 → (s.testBit i = true → s % 2 ^ i ||| 2 ^ i = s % 2 ^ (i + 1)) ∧ (s.testBit i = false → s % 2 ^ i = s % 2 ^ (i + 1)) := by decide +kernel
theorem xs_there {ps : Nat} {op cl hd : Nat → Nat} {I : xw_I} {F : xw_F} {G : xw_G} {post : Int32 → Prop} (hps : ps < 32) (hE : xe_MP ps op cl hd F) (h : post (nI ps)) : sm_X8_there I F G post := by
  intro k hk
  unfold bd_X8_there_0
  have h00 : (0 : Int32) = nI (ps % 2 ^ 0) := by rw [Nat.pow_zero, Nat.mod_one]; rfl
  rw [show (k (0 : Int32) (0 : Int32)) = k (nI (ps % 2 ^ 0)) (nI 0) by rw [← h00]; rfl]
  refine xl_up (fun i (_ : Unit) => k (nI (ps % 2 ^ i)) (nI i)) 5 (fun _ _ => True) ?_ ?_ 0 () (by omega) trivial
  · intro i _ hi _ ih
    apply hk
    unfold bd_X8_there_4
    refine ⟨fun c => absurd ((xn_le (a := 5) (by omega) (by omega)).mp c) (by omega), fun _ => xs_isThere hE hi (fun hb => ⟨fun c => absurd c (by decide), fun _ v ev w ew => ?_⟩) (fun hb => ⟨fun _ v ev w ew => ?_, fun c => absurd rfl c⟩)⟩
    · rw [ev, ew, nI_1, xb_shl i (by omega), xb_or, (xm_mod ps hps i hi).1 hb]; exact ih () trivial
    · rw [ev, ew, nI_1, Int32.or_zero, (xm_mod ps hps i hi).2 hb]; exact ih () trivial
  · intro _ _
    apply hk
    unfold bd_X8_there_4
    refine ⟨fun _ => ?_, fun c => absurd ((xn_le (a := 5) (b := 5) (by omega) (by omega)).mpr (by omega)) c⟩
    rw [Nat.mod_eq_of_lt (by omega)]; exact h
theorem xs_mapart {ps : Nat} {op cl hd : Nat → Nat} {o r : Nat} {I : xw_I} {F : xw_F} {G : xw_G} {post : Int32 → Prop} (hps : ps < 32) (hhd : ∀ p, p < 5 → ps.testBit p = true → hd p < 32) (hE : xe_MP ps op cl hd F) (ho : o < 32) (hr : r < 32) (hop : o &&& ps = o) (hrp : r &&& ps = r) (h1 : xd_ap hd o r → post 1) (h0 : ¬ xd_ap hd o r → post 0) : sm_X8_areApart (nI o) (nI r) I F G post := by
  intro k5 k36 r5 r36
  -- what is seen of the first i
  have hone : ∀ i, i < 5 → ∀ x, x < 32 → (ps.testBit i = true) → (nI (hd i) &&& nI x = 0 ↔ ∀ q, q < 5 → x.testBit q = true → (hd i).testBit q = false) := by
    intro i hi x hx hb
    have hand : hd i &&& x < 32 := Nat.and_lt_two_pow (n := 5) _ hx
    rw [nx_and, xn_0 (by omega), xm_and _ (hhd i hi hb) x hx]
  have hbad : ∀ d i, i + d = 5 → ¬ xd_ap hd o r → k5 0 (nI i) := by
    intro d
    induction d with
    | zero =>
      intro i hi hno
      apply r5
      unfold bd_X8_areApart_5
      refine ⟨fun _ => ⟨xe_0, h0 hno⟩, fun c => absurd ((xn_le (a := 5) (by omega) (by omega)).mpr (by omega)) c⟩
    | succ d ih =>
      intro i hi hno
      apply r5
      unfold bd_X8_areApart_5
      refine ⟨fun c => absurd ((xn_le (a := 5) (by omega) (by omega)).mp c) (by omega), fun _ => ⟨fun _ v ev => ?_, fun c => absurd rfl c⟩⟩
      rw [ev, nI_1]; exact ih (i + 1) (by omega) hno
  have hgood : ∀ d i, i + d = 5 → (∀ p q, p < i → q < 5 → (o.testBit p = true → r.testBit q = true → (hd p).testBit q = false) ∧ (r.testBit p = true → o.testBit q = true → (hd p).testBit q = false)) → k5 1 (nI i) := by
    intro d
    induction d with
    | zero =>
      intro i hi hv
      apply r5
      unfold bd_X8_areApart_5
      refine ⟨fun _ => ⟨xe_1, h1 (fun p q hp hq hop2 hrq => ⟨(hv p q (by omega) hq).1 hop2 hrq, (hv q p (by omega) hp).2 hrq hop2⟩)⟩, fun c => absurd ((xn_le (a := 5) (by omega) (by omega)).mpr (by omega)) c⟩
    | succ d ih =>
      intro i hi hv
      have hi5 : i < 5 := by omega
      have hin := vp_in_nI hi5 (show 5 < 2 ^ 31 by omega)
      have hsec : (∀ q, q < 5 → o.testBit i = true → r.testBit q = true → (hd i).testBit q = false) → k36 (nI i) := by
        intro hfst
        apply r36
        unfold bd_X8_areApart_36
        rw [xb_bit (by omega) (by omega)]
        have hnext : (∀ q, q < 5 → r.testBit i = true → o.testBit q = true → (hd i).testBit q = false) → ∀ v : Int32, v = nI i + 1 → k5 1 v := by
          intro hsnd v ev
          rw [ev, nI_1]
          refine ih (i + 1) (by omega) (fun p q hp hq => ?_)
          by_cases hpi : p = i
          · subst hpi; exact ⟨hfst q hq, hsnd q hq⟩
          · exact hv p q (by omega) hq
        refine ⟨fun z => hnext (fun q hq hrb => ?_), fun z => ⟨hin, fun v ev => ?_⟩⟩
        · rw [hrb] at z; exact absurd z (by decide)
        · have hrb : r.testBit i = true := by cases hb : r.testBit i; rw [hb] at z; exact absurd rfl z; rfl
          have hpb := xm_in r hr ps hps hrp i hi5 hrb
          rw [nI_clamp (by omega), (hE.1 i hi5 hpb).2.2.1] at ev
          rw [ev, hone i hi5 o ho hpb]
          refine ⟨fun y v ev => ?_, fun y => hnext (fun q hq _ => y q hq)⟩
          rw [ev, nI_1]
          exact hbad d (i + 1) (by omega) (fun hap => y (fun q hq hoq => (hap q i hq hi5 hoq hrb).2))
      apply r5
      unfold bd_X8_areApart_5
      refine ⟨fun c => absurd ((xn_le (a := 5) (by omega) (by omega)).mp c) (by omega), fun _ => ⟨fun c => absurd c (by decide), fun _ => ?_⟩⟩
      rw [xb_bit (by omega) (by omega)]
      refine ⟨fun z => hsec (fun q hq hob => ?_), fun z => ⟨hin, fun v ev => ?_⟩⟩
      · rw [hob] at z; exact absurd z (by decide)
      · have hob : o.testBit i = true := by cases hb : o.testBit i; rw [hb] at z; exact absurd rfl z; rfl
        have hpb := xm_in o ho ps hps hop i hi5 hob
        rw [nI_clamp (by omega), (hE.1 i hi5 hpb).2.2.1] at ev
        rw [ev, hone i hi5 r hr hpb]
        refine ⟨fun y v ev => ?_, fun y => hsec (fun q hq _ => y q hq)⟩
        rw [ev, nI_1]
        exact hbad d (i + 1) (by omega) (fun hap => y (fun q hq hrq => (hap i q hi5 hq hob hrq).1))
  exact hgood 5 0 rfl (fun p q hp => by omega)
theorem xs_mheld {ps p r : Nat} {op cl hd : Nat → Nat} {I : xw_I} {F : xw_F} {G : xw_G} {post : Int32 → Prop} (hps : ps < 32) (hhd : ∀ p, p < 5 → ps.testBit p = true → hd p < 32) (hE : xe_MP ps op cl hd F) (hp : p < 5) (hr : r < 32) (hrp : r &&& ps = r) (h0 : xd_top hd r p → post 0) (h1 : ¬ xd_top hd r p → post 1) : sm_X8_isHeld (nI p) (nI r) I F G post := by
  intro k5 r5
  have hbad : ∀ d i, i + d = 5 → ¬ xd_top hd r p → k5 1 (nI i) := by
    intro d
    induction d with
    | zero =>
      intro i hi hno
      apply r5
      unfold bd_X8_isHeld_5
      refine ⟨fun _ => ⟨xe_1, h1 hno⟩, fun c => absurd ((xn_le (a := 5) (by omega) (by omega)).mpr (by omega)) c⟩
    | succ d ih =>
      intro i hi hno
      apply r5
      unfold bd_X8_isHeld_5
      refine ⟨fun c => absurd ((xn_le (a := 5) (by omega) (by omega)).mp c) (by omega), fun _ => ⟨fun _ v ev => ?_, fun c => absurd c (by decide)⟩⟩
      rw [ev, nI_1]; exact ih (i + 1) (by omega) hno
  have hgood : ∀ d i, i + d = 5 → (∀ q, q < i → r.testBit q = true → (hd q).testBit p = false) → k5 0 (nI i) := by
    intro d
    induction d with
    | zero =>
      intro i hi hv
      apply r5
      unfold bd_X8_isHeld_5
      refine ⟨fun _ => ⟨xe_0, h0 (fun q hq => hv q (by omega))⟩, fun c => absurd ((xn_le (a := 5) (by omega) (by omega)).mpr (by omega)) c⟩
    | succ d ih =>
      intro i hi hv
      have hi5 : i < 5 := by omega
      apply r5
      unfold bd_X8_isHeld_5
      refine ⟨fun c => absurd ((xn_le (a := 5) (by omega) (by omega)).mp c) (by omega), fun _ => ⟨fun c => absurd rfl c, fun _ => ?_⟩⟩
      rw [xb_bit (by omega) (by omega), xn_b1]
      have hnext : (r.testBit i = true → (hd i).testBit p = false) → ∀ v : Int32, v = nI i + 1 → k5 0 v := by
        intro hz v ev
        rw [ev, nI_1]
        refine ih (i + 1) (by omega) (fun q hq hrq => ?_)
        by_cases hqi : q = i
        · subst hqi; exact hz hrq
        · exact hv q (by omega) hrq
      refine ⟨fun z => hnext (fun y => absurd y z), fun z => ⟨vp_in_nI hi5 (by omega), fun v ev => ?_⟩⟩
      have hpb := xm_in r hr ps hps hrp i hi5 z
      have hlt := hhd i hi5 hpb
      rw [nI_clamp (by omega), (hE.1 i hi5 hpb).2.2.1] at ev
      rw [ev, xb_bit (by omega) (by omega), xn_b1]
      refine ⟨fun y => hnext (fun _ => by simpa using y), fun y v ev => ?_⟩
      rw [ev, nI_1]
      exact hbad d (i + 1) (by omega) (fun ht => by have := ht i hi5 z; rw [y] at this; cases this)
  exact hgood 5 0 rfl (fun q hq => by omega)
theorem xl_le {a b : Nat} (ha : a < 2 ^ 63) (hb : b < 2 ^ 63) : lN a ≤ lN b ↔ a ≤ b := by
  rw [Int64.le_iff_toInt_le, pf_lI ha, pf_lI hb]; omega
theorem xs_mleast {x y : Nat} {post : Int64 → Prop} (hx : x < 2 ^ 63) (hy : y < 2 ^ 63) (h : post (lN (min y x))) : sm_X8_least (lN x) (lN y) post := by
  unfold sm_X8_least
  rw [lg_cmp_ge, xl_le hy hx]
  refine ⟨fun z => ?_, fun z => ?_⟩
  · rw [show min y x = y by omega] at h; exact h
  · rw [show min y x = x by omega] at h; exact h
theorem xd_min.skip {S S2 : Nat → Prop} {N v x : Nat} (h : xd_min S N v) (hN : N ≤ x) (hx : ∀ y, S2 y ↔ S y ∨ y = x) : xd_min S2 N v := by
  obtain ⟨h1, h2, h3⟩ := h
  refine ⟨h1, fun y hy => ?_, ?_⟩
  · rcases (hx y).mp hy with h | h
    · exact h2 y h
    · omega
  · rcases h3 with h | h
    · exact Or.inl h
    · exact Or.inr ((hx v).mpr (Or.inl h))
def xd_mtab (B : Nat → Nat → Nat → Nat) (ps T s0 : Nat) (G : xw_G) : Prop := ∀ s a b, s < s0 → s < 32 → s &&& ps = s → a ≤ b → b ≤ T → G 9 (81 * s + 9 * a + b) = lN (B s a b) ∧ B s a b ≤ 2 ^ 62
theorem xn_at (s a b : Nat) : ((81 : Int32) * nI s) + ((9 : Int32) * nI a) + nI b = nI (81 * s + 9 * a + b) := by
  rw [show (81 : Int32) = nI 81 from rfl, show (9 : Int32) = nI 9 from rfl, xn_mul, xn_mul, nI_add, nI_add]
theorem xm_an : ∀ s, s < 32 → ∀ o, o < 32 → (nI o &&& nI s = nI o ↔ o &&& s = o) := by decide +kernel
theorem xs_leastOf {lk : Nat → Nat} {ps T s a b : Nat} {op cl hd wf wt : Nat → Nat} {B : Nat → Nat → Nat → Nat} {I : xw_I} {F : xw_F} {G : xw_G} {post : Int64 → Prop} (hps : ps < 32) (hhd : ∀ p, p < 5 → ps.testBit p = true → hd p < 32) (hE : xe_MP ps op cl hd F) (hI : I 2 = nI T) (hl : ∀ w, w < 12 → F 6 w = nI (lk w)) (hT : T ≤ 8) (hlt : ∀ w, w < 12 → lk w < 2 ^ T) (hwf : ∀ p, p < 5 → ps.testBit p = true → wf p = xg_wf lk (op p) (cl p) ∧ wt p = xg_wt lk (op p) (cl p)) (ht : xd_mtab B ps T s G) (hs0 : 0 < s) (hs : s < 32) (hsp : s &&& ps = s) (hab : a ≤ b) (hbT : b ≤ T)
    (h : ∀ v, xd_min (xd_SB hd (xd_code wf wt) B s a b) (2 ^ 62) v → post (lN v)) : sm_X8_leastOf (nI s) (nI a) (nI b) I F G post := by
  have hsub : ∀ o, o < 32 → o &&& s = o → o &&& ps = o := fun o ho hos => (xm_3 ps hps s hs hsp o ho hos).2.2
  intro k8 k41 k131 k171 k181 r8 r41 r131 r171 r181
  have h62 : (4611686018427387904 : Int64) = lN (2 ^ 62) := rfl
  unfold bd_X8_leastOf_0
  rw [h62]
  -- pairs round it
  have hpairs : ∀ d i v, i + d = 5 → xd_min (fun x => (∃ o c, 0 < o ∧ o < s ∧ o &&& s = o ∧ xd_ap hd o (s - o) ∧ a ≤ c ∧ c ≤ b ∧ x = B o a c + B (s - o) c b) ∨ (∃ p a' b', p < i ∧ p < 5 ∧ s.testBit p = true ∧ xd_top hd (s - 2 ^ p) p ∧ a ≤ a' ∧ a' ≤ b' ∧ b' ≤ b ∧ x = B (s - 2 ^ p) a' b' + xd_code wf wt p a' b')) (2 ^ 62) v → k131 (lN v) (nI i) := by
    intro d
    induction d with
    | zero =>
      intro i v hi hv
      apply r131
      unfold bd_X8_leastOf_131
      refine ⟨fun _ => h v (hv.same (fun y => ?_)), fun c => absurd ((xn_le (a := 5) (by omega) (by omega)).mpr (by omega)) c⟩
      unfold xd_SB
      exact ⟨fun q => q.elim Or.inl (fun ⟨p, x, y, p1, p2⟩ => Or.inr ⟨p, x, y, by omega, p1, p2⟩), fun q => q.elim Or.inl (fun ⟨p, x, y, p1, p2, p3⟩ => Or.inr ⟨p, x, y, p2, p3⟩)⟩
    | succ d ih =>
      intro i v hi hv
      have hi5 : i < 5 := by omega
      have hskip : ¬ (s.testBit i = true ∧ xd_top hd (s - 2 ^ i) i) → k131 (lN v) (nI (i + 1)) := by
        intro hno
        refine ih (i + 1) v (by omega) (hv.same (fun y => ⟨fun q => q.imp id (fun ⟨p, x, z, p1, p2, p3, p4, p5⟩ => ?_), fun q => q.imp id (fun ⟨p, x, z, p1, p2⟩ => ⟨p, x, z, by omega, p2⟩)⟩))
        by_cases hpi : p = i
        · subst hpi; exact absurd ⟨p3, p4⟩ hno
        · exact ⟨p, x, z, by omega, p2, p3, p4, p5⟩
      apply r131
      unfold bd_X8_leastOf_131
      refine ⟨fun c => absurd ((xn_le (a := 5) (by omega) (by omega)).mp c) (by omega), fun _ w ew => ?_⟩
      rw [xb_bit (by omega) (by omega), xn_b1]
      refine ⟨fun z u eu => ?_, fun z => ?_⟩
      · rw [eu, nI_1]; exact hskip (fun y => z y.1)
      · obtain ⟨b1, b2, b3⟩ := xm_bit s hs i hi5 z
        obtain ⟨t1, t2, t3⟩ := xm_two i hi5
        have hpi : ps.testBit i = true := xm_in s hs ps hps hsp i hi5 z
        have hr1 := (xm_sub s hs _ t2 b1).1
        have hrp := hsub (s - 2 ^ i) (by omega) hr1
        rw [xb_shl i (by omega), (xm_sb s hs _ t2).2 b1] at ew
        subst ew
        refine xs_mheld hps hhd hE hi5 (by omega) hrp (fun htop => ⟨fun c => absurd rfl c, fun _ => ?_⟩) (fun hno => ⟨fun _ u eu => ?_, fun c => absurd c (by decide)⟩)
        · obtain ⟨e1, e2, e3, e4, e5⟩ := hE.1 i hi5 hpi
          obtain ⟨f1, f2⟩ := hwf i hi5 hpi
          -- its spans
          have hrow : ∀ da x v, x + da = b + 1 → xd_min (fun q => ((∃ o c, 0 < o ∧ o < s ∧ o &&& s = o ∧ xd_ap hd o (s - o) ∧ a ≤ c ∧ c ≤ b ∧ q = B o a c + B (s - o) c b) ∨ (∃ p a' b', p < i ∧ p < 5 ∧ s.testBit p = true ∧ xd_top hd (s - 2 ^ p) p ∧ a ≤ a' ∧ a' ≤ b' ∧ b' ≤ b ∧ q = B (s - 2 ^ p) a' b' + xd_code wf wt p a' b')) ∨ ∃ a' b', a ≤ a' ∧ a' < x ∧ a' ≤ b' ∧ b' ≤ b ∧ q = B (s - 2 ^ i) a' b' + xd_code wf wt i a' b') (2 ^ 62) v → a ≤ x → k171 (lN v) (nI i) (nI (s - 2 ^ i)) (nI x) := by
            intro da
            induction da with
            | zero =>
              intro x v hx hv hax
              apply r171
              unfold bd_X8_leastOf_171
              refine ⟨fun _ u eu => ?_, fun c => absurd ((xn_lt (by omega) (by omega)).mpr (by omega)) c⟩
              rw [eu, nI_1]
              refine ih (i + 1) v (by omega) (hv.same (fun y => ⟨fun q => ?_, fun q => ?_⟩))
              · rcases q with q | ⟨p, x', z', p1, p2, p3, p4, p5, p6, p7, p8⟩
                · exact Or.inl (Or.inl q)
                · by_cases hpi2 : p = i
                  · subst hpi2; exact Or.inr ⟨x', z', p5, by omega, p6, p7, p8⟩
                  · exact Or.inl (Or.inr ⟨p, x', z', by omega, p2, p3, p4, p5, p6, p7, p8⟩)
              · rcases q with (q | ⟨p, x', z', p1, p2⟩) | ⟨x', z', q1, q2, q3, q4, q5⟩
                · exact Or.inl q
                · exact Or.inr ⟨p, x', z', by omega, p2⟩
                · exact Or.inr ⟨i, x', z', by omega, hi5, z, htop, q1, q3, q4, q5⟩
            | succ da iha =>
              intro x v hx hv hax
              apply r171
              unfold bd_X8_leastOf_171
              refine ⟨fun c => absurd ((xn_lt (by omega) (by omega)).mp c) (by omega), fun _ => ?_⟩
              have hcol : ∀ db y v, y + db = b + 1 → x ≤ y → xd_min (fun q => (((∃ o c, 0 < o ∧ o < s ∧ o &&& s = o ∧ xd_ap hd o (s - o) ∧ a ≤ c ∧ c ≤ b ∧ q = B o a c + B (s - o) c b) ∨ (∃ p a' b', p < i ∧ p < 5 ∧ s.testBit p = true ∧ xd_top hd (s - 2 ^ p) p ∧ a ≤ a' ∧ a' ≤ b' ∧ b' ≤ b ∧ q = B (s - 2 ^ p) a' b' + xd_code wf wt p a' b')) ∨ ∃ a' b', a ≤ a' ∧ a' < x ∧ a' ≤ b' ∧ b' ≤ b ∧ q = B (s - 2 ^ i) a' b' + xd_code wf wt i a' b') ∨ ∃ b', x ≤ b' ∧ b' < y ∧ q = B (s - 2 ^ i) x b' + xd_code wf wt i x b') (2 ^ 62) v → k181 (lN v) (nI i) (nI (s - 2 ^ i)) (nI x) (nI y) := by
                intro db
                induction db with
                | zero =>
                  intro y v hy hxy hv
                  apply r181
                  unfold bd_X8_leastOf_181
                  refine ⟨fun _ u eu => ?_, fun c => absurd ((xn_lt (by omega) (by omega)).mpr (by omega)) c⟩
                  rw [eu, nI_1]
                  refine iha (x + 1) v (by omega) (hv.same (fun y' => ⟨fun q => ?_, fun q => ?_⟩)) (by omega)
                  · rcases q with q | ⟨x', z', q1, q2, q3, q4, q5⟩
                    · exact Or.inl (Or.inl q)
                    · by_cases hxx : x' = x
                      · subst hxx; exact Or.inr ⟨z', q3, by omega, q5⟩
                      · exact Or.inl (Or.inr ⟨x', z', q1, by omega, q3, q4, q5⟩)
                  · rcases q with (q | ⟨x', z', q1, q2, q3⟩) | ⟨z', q1, q2, q3⟩
                    · exact Or.inl q
                    · exact Or.inr ⟨x', z', q1, by omega, q3⟩
                    · exact Or.inr ⟨x, z', hax, by omega, q1, by omega, q3⟩
                | succ db ihb =>
                  intro y v hy hxy hv
                  apply r181
                  unfold bd_X8_leastOf_181 sm_X8_at
                  refine ⟨fun c => absurd ((xn_lt (by omega) (by omega)).mp c) (by omega), fun _ => ?_⟩
                  rw [xn_at]
                  refine ⟨vp_in_nI (by omega) (by omega), fun u eu => ?_⟩
                  obtain ⟨g1, g2⟩ := ht (s - 2 ^ i) x y (by omega) (by omega) hrp hxy (by omega)
                  rw [nI_clamp (by omega), g1] at eu
                  rw [eu, h62, lg_cmp_ge, xl_le (by decide) (by omega)]
                  have hS : ∀ q, ((((∃ o c, 0 < o ∧ o < s ∧ o &&& s = o ∧ xd_ap hd o (s - o) ∧ a ≤ c ∧ c ≤ b ∧ q = B o a c + B (s - o) c b) ∨ (∃ p a' b', p < i ∧ p < 5 ∧ s.testBit p = true ∧ xd_top hd (s - 2 ^ p) p ∧ a ≤ a' ∧ a' ≤ b' ∧ b' ≤ b ∧ q = B (s - 2 ^ p) a' b' + xd_code wf wt p a' b')) ∨ ∃ a' b', a ≤ a' ∧ a' < x ∧ a' ≤ b' ∧ b' ≤ b ∧ q = B (s - 2 ^ i) a' b' + xd_code wf wt i a' b') ∨ ∃ b', x ≤ b' ∧ b' < y + 1 ∧ q = B (s - 2 ^ i) x b' + xd_code wf wt i x b') ↔ ((((∃ o c, 0 < o ∧ o < s ∧ o &&& s = o ∧ xd_ap hd o (s - o) ∧ a ≤ c ∧ c ≤ b ∧ q = B o a c + B (s - o) c b) ∨ (∃ p a' b', p < i ∧ p < 5 ∧ s.testBit p = true ∧ xd_top hd (s - 2 ^ p) p ∧ a ≤ a' ∧ a' ≤ b' ∧ b' ≤ b ∧ q = B (s - 2 ^ p) a' b' + xd_code wf wt p a' b')) ∨ ∃ a' b', a ≤ a' ∧ a' < x ∧ a' ≤ b' ∧ b' ≤ b ∧ q = B (s - 2 ^ i) a' b' + xd_code wf wt i a' b') ∨ ∃ b', x ≤ b' ∧ b' < y ∧ q = B (s - 2 ^ i) x b' + xd_code wf wt i x b') ∨ q = B (s - 2 ^ i) x y + xd_code wf wt i x y := by
                    intro q
                    constructor
                    · rintro (q1 | ⟨z', q1, q2, q3⟩)
                      · exact Or.inl (Or.inl q1)
                      · by_cases hzy : z' = y
                        · subst hzy; exact Or.inr q3
                        · exact Or.inl (Or.inr ⟨z', q1, by omega, q3⟩)
                    · rintro ((q1 | ⟨z', q1, q2, q3⟩) | q1)
                      · exact Or.inl q1
                      · exact Or.inr ⟨z', q1, by omega, q3⟩
                      · exact Or.inr ⟨y, hxy, by omega, q1⟩
                  refine ⟨fun c t et => ?_, fun c => ?_⟩
                  · rw [et, nI_1]
                    exact ihb (y + 1) v (by omega) (by omega) (hv.skip (show 2 ^ 62 ≤ B (s - 2 ^ i) x y + xd_code wf wt i x y by omega) hS)
                  · obtain ⟨q1, q2⟩ := xg_w_le (a := op i) (b := cl i) hlt hT (by omega) e5
                    have hcl := (xd_code_le (wf := wf) (wt := wt) (p := i) (a := x) (b := y) hi5 (by omega) (by omega) (by omega) (by omega)).2
                    refine xs_code hI hl hT hlt hi5 e1 e2 e4 e5 f1 f2 (by omega) (by omega) ?_
                    have hv1 := hv.1
                    rw [lN_add]
                    refine xs_mleast (by omega) (by omega) (fun t et => ?_)
                    rw [et, nI_1]
                    exact ihb (y + 1) _ (by omega) (by omega) (hv.more hS)
              exact hcol (b + 1 - x) x v (by omega) (Nat.le_refl _) (hv.same (fun q => ⟨fun z => z.elim id (fun ⟨_, _, _, _⟩ => by omega), fun z => Or.inl z⟩))
          exact hrow (b + 1 - a) a v (by omega) (hv.same (fun q => ⟨fun z => z.elim id (fun ⟨_, _, _, _, _⟩ => by omega), fun z => Or.inl z⟩)) (Nat.le_refl _)
        · rw [eu, nI_1]; exact hskip (fun y => hno y.2)
  -- parts
  have hparts : ∀ d i v, i + d = s → 0 < i → xd_min (fun x => ∃ o c, o < i ∧ 0 < o ∧ o < s ∧ o &&& s = o ∧ xd_ap hd o (s - o) ∧ a ≤ c ∧ c ≤ b ∧ x = B o a c + B (s - o) c b) (2 ^ 62) v → k8 (lN v) (nI i) := by
    intro d
    induction d with
    | zero =>
      intro i v hi hi0 hv
      apply r8
      unfold bd_X8_leastOf_8
      refine ⟨fun _ => ?_, fun c => absurd ((xn_le (by omega) (by omega)).mpr (by omega)) c⟩
      refine hpairs 5 0 v rfl (hv.same (fun y => ⟨fun q => ?_, fun ⟨o, c, o1, o2⟩ => Or.inl ⟨o, c, o2⟩⟩))
      rcases q with ⟨o, c, o1, o2, o3⟩ | ⟨p, _, _, p1, _⟩
      · exact ⟨o, c, by omega, o1, o2, o3⟩
      · omega
    | succ d ih =>
      intro i v hi hi0 hv
      have hi32 : i < 32 := by omega
      have hskip : ¬ (i &&& s = i ∧ xd_ap hd i (s - i)) → k8 (lN v) (nI (i + 1)) := by
        intro hno
        refine ih (i + 1) v (by omega) (by omega) (hv.same (fun y => ⟨fun ⟨o, c, o0, o1, o2, o3, o4, o5⟩ => ?_, fun ⟨o, c, o0, o1⟩ => ⟨o, c, by omega, o1⟩⟩))
        by_cases hoi : o = i
        · subst hoi; exact absurd ⟨o3, o4⟩ hno
        · exact ⟨o, c, by omega, o1, o2, o3, o4, o5⟩
      apply r8
      unfold bd_X8_leastOf_8
      refine ⟨fun c => absurd ((xn_le (by omega) (by omega)).mp c) (by omega), fun _ => ?_⟩
      rw [xm_an s hs i hi32]
      refine ⟨fun z u eu => ?_, fun z => ?_⟩
      · rw [eu, nI_1]; exact hskip (fun y => z y.1)
      · have hr1 := (xm_sub s hs i hi32 z).1
        have hip := hsub i hi32 z
        have hrp := hsub (s - i) (by omega) hr1
        rw [(xm_sb s hs i hi32).2 z]
        refine xs_mapart hps hhd hE hi32 (by omega) hip hrp (fun hap => ⟨fun c => absurd c (by decide), fun _ => ?_⟩) (fun hno => ⟨fun _ u eu => ?_, fun c => absurd rfl c⟩)
        · have hcut : ∀ dc c v, c + dc = b + 1 → a ≤ c → xd_min (fun x => (∃ o c, o < i ∧ 0 < o ∧ o < s ∧ o &&& s = o ∧ xd_ap hd o (s - o) ∧ a ≤ c ∧ c ≤ b ∧ x = B o a c + B (s - o) c b) ∨ ∃ c', a ≤ c' ∧ c' < c ∧ x = B i a c' + B (s - i) c' b) (2 ^ 62) v → k41 (lN v) (nI i) (nI c) := by
            intro dc
            induction dc with
            | zero =>
              intro c v hc hac hv
              apply r41
              unfold bd_X8_leastOf_41
              refine ⟨fun _ u eu => ?_, fun y => absurd ((xn_lt (by omega) (by omega)).mpr (by omega)) y⟩
              rw [eu, nI_1]
              refine ih (i + 1) v (by omega) (by omega) (hv.same (fun y => ⟨fun ⟨o, c', o0, o1, o2, o3, o4, o5, o6, o7⟩ => ?_, fun q => ?_⟩))
              · by_cases hoi : o = i
                · subst hoi; exact Or.inr ⟨c', o5, by omega, o7⟩
                · exact Or.inl ⟨o, c', by omega, o1, o2, o3, o4, o5, o6, o7⟩
              · rcases q with ⟨o, c', o0, o1⟩ | ⟨c', q1, q2, q3⟩
                · exact ⟨o, c', by omega, o1⟩
                · exact ⟨i, c', by omega, hi0, by omega, z, hap, q1, by omega, q3⟩
            | succ dc ihc =>
              intro c v hc hac hv
              apply r41
              unfold bd_X8_leastOf_41 sm_X8_at
              refine ⟨fun y => absurd ((xn_lt (by omega) (by omega)).mp y) (by omega), fun _ => ?_⟩
              rw [xn_at]
              refine ⟨vp_in_nI (by omega) (by omega), fun u eu => ?_⟩
              rw [(xm_sb s hs i hi32).2 z, xn_at]
              refine ⟨vp_in_nI (by omega) (by omega), fun t et => ?_⟩
              obtain ⟨g1, g2⟩ := ht i a c (by omega) hi32 hip hac (by omega)
              obtain ⟨g3, g4⟩ := ht (s - i) c b (by omega) (by omega) hrp (by omega) hbT
              rw [nI_clamp (by omega), g1] at eu
              rw [nI_clamp (by omega), g3] at et
              rw [eu, et, h62, lg_cmp_ge, xl_le (by decide) (by omega), lg_cmp_ge, xl_le (by decide) (by omega)]
              have hS : ∀ x, ((∃ o c, o < i ∧ 0 < o ∧ o < s ∧ o &&& s = o ∧ xd_ap hd o (s - o) ∧ a ≤ c ∧ c ≤ b ∧ x = B o a c + B (s - o) c b) ∨ ∃ c', a ≤ c' ∧ c' < c + 1 ∧ x = B i a c' + B (s - i) c' b) ↔ ((∃ o c, o < i ∧ 0 < o ∧ o < s ∧ o &&& s = o ∧ xd_ap hd o (s - o) ∧ a ≤ c ∧ c ≤ b ∧ x = B o a c + B (s - o) c b) ∨ ∃ c', a ≤ c' ∧ c' < c ∧ x = B i a c' + B (s - i) c' b) ∨ x = B i a c + B (s - i) c b := by
                intro x
                constructor
                · rintro (q1 | ⟨c', q1, q2, q3⟩)
                  · exact Or.inl (Or.inl q1)
                  · by_cases hcc : c' = c
                    · subst hcc; exact Or.inr q3
                    · exact Or.inl (Or.inr ⟨c', q1, by omega, q3⟩)
                · rintro ((q1 | ⟨c', q1, q2, q3⟩) | q1)
                  · exact Or.inl q1
                  · exact Or.inr ⟨c', q1, by omega, q3⟩
                  · exact Or.inr ⟨c, hac, by omega, q1⟩
              refine ⟨fun y w ew => ?_, fun y => ⟨fun y2 w ew => ?_, fun y2 => ?_⟩⟩
              · rw [ew, nI_1]; exact ihc (c + 1) v (by omega) (by omega) (hv.skip (show 2 ^ 62 ≤ B i a c + B (s - i) c b by omega) hS)
              · rw [ew, nI_1]; exact ihc (c + 1) v (by omega) (by omega) (hv.skip (show 2 ^ 62 ≤ B i a c + B (s - i) c b by omega) hS)
              · have hv1 := hv.1
                rw [lN_add]
                refine xs_mleast (by omega) (by omega) (fun w ew => ?_)
                rw [ew, nI_1]
                exact ihc (c + 1) _ (by omega) (by omega) (hv.more hS)
          exact hcut (b + 1 - a) a v (by omega) (Nat.le_refl _) (hv.same (fun y => ⟨fun q => q.elim id (fun ⟨_, _, _, _⟩ => by omega), fun q => Or.inl q⟩))
        · rw [eu, nI_1]; exact hskip (fun y => hno y.2)
  exact hparts (s - 1) 1 (2 ^ 62) (by omega) (by omega) ⟨Nat.le_refl _, fun x ⟨o, c, o1, o2, _⟩ => by omega, Or.inl rfl⟩
end
section
/-! ===== the reference places its pairs ===== -/
theorem xc_d16 : ∀ a, a < 256 → nI a / (16 : Int32) = nI (a / 16) ∧ nI a - nI a / (16 : Int32) * (16 : Int32) = nI (a % 16) := by decide +kernel
theorem xs_mplace {lk : Nat → Nat} {ps T : Nat} {op cl hd wf wt : Nat → Nat} {I : xw_I} {F : xw_F} {G : xw_G} {post : xw_I → xw_F → xw_G → Prop} (hps : ps < 32) (hhd : ∀ p, p < 5 → ps.testBit p = true → hd p < 32) (hE : xe_MP ps op cl hd F) (hI : I 2 = nI T) (hl : ∀ w, w < 12 → F 6 w = nI (lk w)) (hT : T ≤ 8) (hlt : ∀ w, w < 12 → lk w < 2 ^ T) (hwf : ∀ p, p < 5 → ps.testBit p = true → wf p = xg_wf lk (op p) (cl p) ∧ wt p = xg_wt lk (op p) (cl p))
    (h : ∀ B F1 G1, xd_hB hd (xd_code wf wt) ps T (2 ^ 62) B → G1 0 0 = lN (B ps 0 T) → B ps 0 T ≤ 2 ^ 62 → (B ps 0 T < 2 ^ 62 → ∀ p, p < 5 → F1 10 p = nI (xd_fr (B ps 0 T) p) ∧ F1 11 p = nI (xd_to (B ps 0 T) p)) → (∀ j, j ≠ 10 → j ≠ 11 → F1 j = F j) → sm_X8_placeMarks I F1 G1 post) : sm_X8_place I F G post := by
  intro k7 k14 k25 k74 k113 r7 r14 r25 r74 r113
  have h62 : (4611686018427387904 : Int64) = lN (2 ^ 62) := rfl
  unfold bd_X8_place_0
  refine xs_there hps hE ?_
  -- what holds while the table is filled: sets below s, and of s the rows below a, and of a's row those below b
  have hfill : ∀ (d s : Nat) (B : Nat → Nat → Nat → Nat) (G1 : xw_G), s + d = ps + 1 → (∀ a b, B 0 a b = 0) → (∀ s', 0 < s' → s' < s → s' &&& ps = s' → ∀ a b, a ≤ b → b ≤ T → xd_min (xd_SB hd (xd_code wf wt) B s' a b) (2 ^ 62) (B s' a b)) → xd_mtab B ps T s G1 → k7 (nI ps) (nI s) I F G1 := by
    intro d
    induction d with
    | zero =>
      intro s B G1 hs hB0 hB ht
      apply r7
      unfold bd_X8_place_7 sm_X8_at
      refine ⟨fun _ => ?_, fun c => absurd ((xn_lt (by omega) (by omega)).mpr (by omega)) c⟩
      rw [hI, show (0 : Int32) = nI 0 from rfl, xn_at]
      refine ⟨vp_in_nI (by omega) (by omega), fun v ev G2 eG2 => ?_⟩
      obtain ⟨g1, g2⟩ := ht ps 0 T (by omega) hps (Nat.and_self ps) (by omega) (Nat.le_refl _)
      rw [nI_clamp (by omega), g1] at ev
      have hG0 : G2 0 0 = lN (B ps 0 T) := by rw [eG2, xw_ups]; exact ev
      have hBB : xd_hB hd (xd_code wf wt) ps T (2 ^ 62) B := ⟨hB0, fun s' s1 s2 s3 => hB s' s1 (by have := xm_le s' s2 ps hps s3; omega) s3⟩
      refine xl_up (fun i Fs => k113 (nI i) I Fs G2) 5 (fun i Fs => (B ps 0 T < 2 ^ 62 → ∀ p, p < i → Fs 10 p = nI (xd_fr (B ps 0 T) p) ∧ Fs 11 p = nI (xd_to (B ps 0 T) p)) ∧ ∀ j, j ≠ 10 → j ≠ 11 → Fs j = F j) ?_ ?_ 0 F (by omega) ⟨fun _ p hp => by omega, fun _ _ _ => rfl⟩
      · intro i Fs hi hv ih
        apply r113
        unfold bd_X8_place_113
        refine ⟨fun c => absurd ((xn_le (a := 5) (by omega) (by omega)).mp c) (by omega), fun _ w ew => ?_⟩
        have h16 : ¬ (16 : Int32) = 0 := by decide
        have hin := vp_in_nI hi (show 5 < 2 ^ 31 by omega)
        refine ⟨h16, hin, fun F2 e2 => ⟨h16, hin, fun F3 e3 u eu => ?_⟩⟩
        rw [nI_clamp (by omega)] at e2 e3
        rw [eu, nI_1]
        refine ih F3 ⟨fun hlt62 p hp => ?_, fun j a b => ?_⟩
        · rw [hG0, xc_sh i hi, pf_shr (xc_c63 _ (by omega)) hlt62, show (255 : Int64) = lN (2 ^ 8 - 1) from rfl, wb_mask (by have := Nat.div_le_self (B ps 0 T) (2 ^ (8 * (4 - i))); omega) (by omega), xn_l2i] at ew
          have hm := Nat.mod_lt (B ps 0 T / 2 ^ (8 * (4 - i))) (show 0 < 2 ^ 8 by decide)
          obtain ⟨d1, d2⟩ := xc_d16 _ hm
          rw [e3, xw_upn (by decide), xw_ups, e2, xw_ups, xw_upn (by decide)]
          simp only [xb_updi]
          by_cases hpi : p = i
          · subst hpi
            rw [if_pos rfl, if_pos rfl, ew, d2, d1]
            unfold xd_fr xd_to
            generalize B ps 0 T / 2 ^ (8 * (4 - p)) = q
            exact ⟨by rw [show q % 2 ^ 8 / 16 = q / 16 % 16 by omega], by rw [show q % 2 ^ 8 % 16 = q % 16 by omega]⟩
          · rw [if_neg hpi, if_neg hpi]; exact hv.1 hlt62 p (by omega)
        · rw [e3, xw_upn b, e2, xw_upn a]; exact hv.2 j a b
      · intro Fs hv
        apply r113
        unfold bd_X8_place_113
        exact ⟨fun _ => h B Fs G2 hBB hG0 g2 hv.1 hv.2, fun c => absurd ((xn_le (a := 5) (b := 5) (by omega) (by omega)).mpr (by omega)) c⟩
    | succ d ih =>
      intro s B G1 hs hB0 hB ht
      have hs32 : s < 32 := by omega
      apply r7
      unfold bd_X8_place_7
      refine ⟨fun c => absurd ((xn_lt (by omega) (by omega)).mp c) (by omega), fun _ => ?_⟩
      -- one set: its own sums V
      have hrows : ∀ (da a : Nat) (V : Nat → Nat → Nat) (G2 : xw_G), a + da = T + 1 → (∀ x y, x < a → x ≤ y → y ≤ T → s &&& ps = s → G2 9 (81 * s + 9 * x + y) = lN (V x y) ∧ V x y ≤ 2 ^ 62 ∧ (s = 0 → V x y = 0) ∧ (0 < s → xd_min (xd_SB hd (xd_code wf wt) B s x y) (2 ^ 62) (V x y))) → xd_mtab B ps T s G2 → k14 (nI ps) (nI s) (nI a) I F G2 := by
        intro da
        induction da with
        | zero =>
          intro a V G2 ha hV ht2
          apply r14
          unfold bd_X8_place_14
          rw [hI]
          refine ⟨fun _ u eu => ?_, fun c => absurd ((xn_lt (by omega) (by omega)).mpr (by omega)) c⟩
          rw [eu, nI_1]
          obtain ⟨B3, hB3, hB3n⟩ : ∃ B3 : Nat → Nat → Nat → Nat, (∀ x y, x ≤ y → y ≤ T → B3 s x y = if s &&& ps = s then V x y else 0) ∧ (∀ s', s' ≠ s → B3 s' = B s') := ⟨fun s' => if s' = s then (fun x y => if s &&& ps = s then V x y else 0) else B s', fun x y _ _ => by simp, fun s' h => by simp [h]⟩
          obtain ⟨B4, hB4, hB4n⟩ : ∃ B4 : Nat → Nat → Nat → Nat, (∀ x y, x ≤ y → y ≤ T → s &&& ps = s → B4 s x y = V x y) ∧ (∀ s', s' ≠ s → B4 s' = B s') := ⟨fun s' => if s' = s then V else B s', fun x y _ _ _ => by simp, fun s' h => by simp [h]⟩
          by_cases hs0 : s = 0
          · subst hs0
            refine ih 1 B G2 (by omega) hB0 (fun s' s1 s2 => by omega) (fun s' x y s1 s2 s3 hxy hyT => ?_)
            have : s' = 0 := by omega
            subst this
            obtain ⟨q1, q2, q3, q4⟩ := hV x y (by omega) hxy hyT s3
            rw [hB0, q1, q3 rfl]; exact ⟨rfl, Nat.zero_le _⟩
          · refine ih (s + 1) B4 G2 (by omega) (fun x y => by rw [hB4n 0 (Ne.symm hs0)]; exact hB0 x y) (fun s' s1 s2 s3 x y hxy hyT => ?_) (fun s' x y s1 s2 s3 hxy hyT => ?_)
            · have hSB : ∀ q, s' ≤ s → (xd_SB hd (xd_code wf wt) B4 s' x y q ↔ xd_SB hd (xd_code wf wt) B s' x y q) := by
                intro q hle
                unfold xd_SB
                constructor
                · rintro (⟨o, c, o1, o2, o3, o4, o5, o6, o7⟩ | ⟨p, x', y', p1, p2, p3, p4, p5, p6, p7⟩)
                  · rw [hB4n o (by omega), hB4n (s' - o) (by omega)] at o7; exact Or.inl ⟨o, c, o1, o2, o3, o4, o5, o6, o7⟩
                  · have h2p := (xm_two p p1).1
                    have hbt := (xm_bit s' (by omega) p p1 p2).2.1
                    rw [hB4n (s' - 2 ^ p) (by omega)] at p7; exact Or.inr ⟨p, x', y', p1, p2, p3, p4, p5, p6, p7⟩
                · rintro (⟨o, c, o1, o2, o3, o4, o5, o6, o7⟩ | ⟨p, x', y', p1, p2, p3, p4, p5, p6, p7⟩)
                  · exact Or.inl ⟨o, c, o1, o2, o3, o4, o5, o6, by rw [hB4n o (by omega), hB4n (s' - o) (by omega)]; exact o7⟩
                  · have h2p := (xm_two p p1).1
                    have hbt := (xm_bit s' (by omega) p p1 p2).2.1
                    exact Or.inr ⟨p, x', y', p1, p2, p3, p4, p5, p6, by rw [hB4n (s' - 2 ^ p) (by omega)]; exact p7⟩
              by_cases hss : s' = s
              · subst hss
                rw [hB4 x y hxy hyT s3]
                exact ((hV x y (by omega) hxy hyT s3).2.2.2 s1).same (fun q => hSB q (Nat.le_refl _))
              · rw [hB4n s' hss]
                exact (hB s' s1 (by omega) s3 x y hxy hyT).same (fun q => hSB q (by omega))
            · by_cases hss : s' = s
              · subst hss
                rw [hB4 x y hxy hyT s3]
                obtain ⟨q1, q2, q3, q4⟩ := hV x y (by omega) hxy hyT s3
                exact ⟨q1, q2⟩
              · rw [hB4n s' hss]; exact ht2 s' x y (by omega) s2 s3 hxy hyT
        | succ da iha =>
          intro a V G2 ha hV ht2
          apply r14
          unfold bd_X8_place_14
          rw [hI]
          refine ⟨fun c => absurd ((xn_lt (by omega) (by omega)).mp c) (by omega), fun _ => ?_⟩
          have hcols : ∀ (db b : Nat) (V : Nat → Nat → Nat) (G2 : xw_G), b + db = T + 1 → a ≤ b → (∀ x y, (x < a ∨ (x = a ∧ y < b)) → x ≤ y → y ≤ T → s &&& ps = s → G2 9 (81 * s + 9 * x + y) = lN (V x y) ∧ V x y ≤ 2 ^ 62 ∧ (s = 0 → V x y = 0) ∧ (0 < s → xd_min (xd_SB hd (xd_code wf wt) B s x y) (2 ^ 62) (V x y))) → xd_mtab B ps T s G2 → k25 (nI ps) (nI s) (nI a) (nI b) I F G2 := by
            intro db
            induction db with
            | zero =>
              intro b V G2 hb hab hV ht2
              apply r25
              unfold bd_X8_place_25
              rw [hI]
              refine ⟨fun _ u eu => ?_, fun c => absurd ((xn_lt (by omega) (by omega)).mpr (by omega)) c⟩
              rw [eu, nI_1]
              exact iha (a + 1) V G2 (by omega) (fun x y hx hxy hyT => hV x y (by omega) hxy hyT) ht2
            | succ db ihb =>
              intro b V G2 hb hab hV ht2
              have hstore : ∀ v : Nat, v ≤ 2 ^ 62 → (s &&& ps = s → (s = 0 → v = 0) ∧ (0 < s → xd_min (xd_SB hd (xd_code wf wt) B s a b) (2 ^ 62) v)) → k74 (nI ps) (nI s) (nI a) (nI b) (nI (81 * s + 9 * a + b)) (lN v) I F G2 := by
                intro v hv62 hvp
                apply r74
                unfold bd_X8_place_74
                refine ⟨vp_in_nI (by omega) (by omega), fun G3 eG3 u eu => ?_⟩
                rw [nI_clamp (by omega)] at eG3
                rw [eu, nI_1]
                obtain ⟨V3, hV3, hV3n⟩ : ∃ V3 : Nat → Nat → Nat, V3 a b = v ∧ ∀ x y, ¬ (x = a ∧ y = b) → V3 x y = V x y := ⟨fun x y => if x = a ∧ y = b then v else V x y, if_pos ⟨rfl, rfl⟩, fun x y h => if_neg h⟩
                refine ihb (b + 1) V3 G3 (by omega) (by omega) (fun x y hx hxy hyT hsp => ?_) (fun s' x y s1 s2 s3 hxy hyT => ?_)
                · rw [eG3, xw_ups, xb_updl]
                  by_cases hxa : x = a ∧ y = b
                  · obtain ⟨rfl, rfl⟩ := hxa
                    rw [if_pos rfl, hV3]
                    exact ⟨rfl, hv62, (hvp hsp).1, (hvp hsp).2⟩
                  · rw [if_neg (by omega), hV3n x y hxa]; exact hV x y (by omega) hxy hyT hsp
                · rw [eG3, xw_ups, xb_updl, if_neg (by omega)]; exact ht2 s' x y s1 s2 s3 hxy hyT
              apply r25
              unfold bd_X8_place_25 sm_X8_at
              rw [hI]
              refine ⟨fun c => absurd ((xn_lt (by omega) (by omega)).mp c) (by omega), fun _ => ?_⟩
              rw [xn_at, xm_an ps hps s hs32]
              refine ⟨fun z => ⟨fun y => ?_, fun y => ?_⟩, fun z => ?_⟩
              · rw [h62]; exact hstore (2 ^ 62) (Nat.le_refl _) (fun q => absurd q y)
              · have z : s ≠ 0 := fun q => z (by rw [q]; rfl)
                refine xs_leastOf hps hhd hE hI hl hT hlt hwf ht2 (by omega) hs32 y hab (by omega) (fun v hv => ?_)
                exact hstore v hv.1 (fun _ => ⟨fun q => absurd q z, fun _ => hv⟩)
              · have z : s = 0 := (xn_0 (by omega)).mp z
                exact hstore 0 (Nat.zero_le _) (fun _ => ⟨fun _ => rfl, fun q => by omega⟩)
          exact hcols (T + 1 - a) a V G2 (by omega) (Nat.le_refl _) (fun x y hx hxy hyT => hV x y (by omega) hxy hyT) ht2
      exact hrows (T + 1) 0 (fun _ _ => 0) G1 (by omega) (fun x y hx => by omega) ht
  exact hfill (ps + 1) 0 (fun _ _ _ => 0) G (by omega) (fun _ _ => rfl) (fun s' s1 s2 => by omega) (fun s' x y s1 => by omega)
end
section
/-! ===== marks: the class's row by row, the reference's way by way ===== -/
/-- of the gaps from g to T the least that is nearest: how far, which -/
def xk_best (far : Nat → Nat) (T g m c : Nat) : Prop := g ≤ c ∧ c ≤ T ∧ m = far c ∧ ∀ x, g ≤ x → x ≤ T → m ≤ far x ∧ (far x = m → c ≤ x)
/-- how far in all, from mark i on (d of them) -/
def xk_S (wn x : Nat → Nat) : Nat → Nat → Nat
  | _, 0 => 0
  | i, d + 1 => xd_ab (x i) (wn i) + xk_S wn x (i + 1) d
def xk_rise (mc T : Nat) (x : Nat → Nat) : Prop := (∀ i, i < mc → x i ≤ T) ∧ ∀ i, i + 1 < mc → x i ≤ x (i + 1)
/-- the class's choice, mark by mark -/
def xk_gq (ch : Nat → Nat → Nat) : Nat → Nat
  | 0 => ch 0 0
  | i + 1 => ch (i + 1) (xk_gq ch i)
def xk_bd (x : Nat → Nat) : Nat → Nat
  | 0 => 0
  | i + 1 => x i
def xk_tab (wn : Nat → Nat) (mc T : Nat) (mv ch : Nat → Nat → Nat) : Prop := (∀ g, g ≤ T → mv mc g = 0) ∧ ∀ i, i < mc → ∀ g, g ≤ T → xk_best (fun x => xd_ab x (wn i) + mv (i + 1) x) T g (mv i g) (ch i g)
theorem xk_ge {wn : Nat → Nat} {mc T : Nat} {mv ch : Nat → Nat → Nat} (h : xk_tab wn mc T mv ch) {x : Nat → Nat} (hx : xk_rise mc T x) : ∀ d i, i + d = mc → ∀ b, b ≤ T → (i < mc → b ≤ x i) → mv i b ≤ xk_S wn x i d := by
  intro d
  induction d with
  | zero => intro i hi b hb _; rw [show i = mc by omega, h.1 b hb]; exact Nat.zero_le _
  | succ d ih =>
    intro i hi b hb hbx
    have h1 := (h.2 i (by omega) b hb).2.2.2 (x i) (hbx (by omega)) (hx.1 i (by omega))
    dsimp only at h1
    have h2 := ih (i + 1) (by omega) (x i) (hx.1 i (by omega)) (fun hlt => hx.2 i hlt)
    rw [xk_S]
    have h3 := h1.1
    omega
theorem xk_gq_ok {wn : Nat → Nat} {mc T : Nat} {mv ch : Nat → Nat → Nat} (h : xk_tab wn mc T mv ch) : ∀ i, i < mc → xk_bd (xk_gq ch) i ≤ T ∧ xk_best (fun x => xd_ab x (wn i) + mv (i + 1) x) T (xk_bd (xk_gq ch) i) (mv i (xk_bd (xk_gq ch) i)) (xk_gq ch i) := by
  intro i
  induction i with
  | zero => intro hi; exact ⟨Nat.zero_le _, h.2 0 hi 0 (Nat.zero_le _)⟩
  | succ i ih =>
    intro hi
    have h1 := ih (by omega)
    have h2 : xk_gq ch i ≤ T := h1.2.2.1
    exact ⟨h2, h.2 (i + 1) hi _ h2⟩
theorem xk_gq_rise {wn : Nat → Nat} {mc T : Nat} {mv ch : Nat → Nat → Nat} (h : xk_tab wn mc T mv ch) : xk_rise mc T (xk_gq ch) := ⟨fun i hi => (xk_gq_ok h i hi).2.2.1, fun i hi => (xk_gq_ok h (i + 1) hi).2.1⟩
theorem xk_gq_S {wn : Nat → Nat} {mc T : Nat} {mv ch : Nat → Nat → Nat} (h : xk_tab wn mc T mv ch) : ∀ d i, i + d = mc → 0 < mc → xk_S wn (xk_gq ch) i d = mv i (xk_bd (xk_gq ch) i) := by
  intro d
  induction d with
  | zero =>
    intro i hi hmc
    have : i = mc := by omega
    subst this
    obtain ⟨j, rfl⟩ : ∃ j, i = j + 1 := ⟨i - 1, by omega⟩
    show 0 = mv (j + 1) (xk_gq ch j)
    rw [h.1 _ ((xk_gq_ok h j (by omega)).2.2.1)]
  | succ d ih =>
    intro i hi hmc
    rw [xk_S, ih (i + 1) (by omega) hmc]
    exact (xk_gq_ok h i (by omega)).2.2.2.1.symm
/-- a sequence as far as the class's, and the same before i, has no lesser gap there -/
theorem xk_lex {wn : Nat → Nat} {mc T : Nat} {mv ch : Nat → Nat → Nat} (h : xk_tab wn mc T mv ch) {x : Nat → Nat} (hx : xk_rise mc T x) : ∀ i d, i + d = mc → 0 < d → (∀ j, j < i → x j = xk_gq ch j) → xk_S wn x i d = xk_S wn (xk_gq ch) i d → xk_gq ch i ≤ x i := by
  intro i d hi hd hj hS
  obtain ⟨e, rfl⟩ : ∃ e, d = e + 1 := ⟨d - 1, by omega⟩
  have hok := xk_gq_ok h i (by omega)
  have hb : xk_bd (xk_gq ch) i ≤ x i := by
    cases i with
    | zero => exact Nat.zero_le _
    | succ i => show xk_gq ch i ≤ x (i + 1); rw [← hj i (by omega)]; exact hx.2 i (by omega)
  have h1 := hok.2.2.2.2 (x i) hb (hx.1 i (by omega))
  dsimp only at h1
  have h2 := xk_ge h hx e (i + 1) (by omega) (x i) (hx.1 i (by omega)) (fun hlt => hx.2 i hlt)
  have h3 := xk_gq_S h (e + 1) i hi (by omega)
  rw [h3, xk_S] at hS
  have h4 := h1.1
  exact h1.2 (by omega)
theorem xk_S_pre {wn x y : Nat → Nat} : ∀ k d i, i + k = d → (∀ j, j < k → x j = y j) → (∀ a b, a + b = d → a = k → (xk_S wn x 0 d = xk_S wn y 0 d ↔ xk_S wn x a b = xk_S wn y a b)) := by
  intro k
  induction k with
  | zero => intro d i hi hj a b hab ha; subst ha; rw [show b = d by omega]
  | succ k ih =>
    intro d i hi hj a b hab ha
    have h1 := ih d (i + 1) (by omega) (fun j hjk => hj j (by omega)) k (b + 1) (by omega) rfl
    rw [h1, xk_S, xk_S, hj k (by omega), show a = k + 1 from ha]
    omega
/-- ways by number -/
def xk_wy (n : Nat) (x : Nat → Nat) : Nat → Nat
  | 0 => 0
  | i + 1 => xk_wy n x i * n + x i
def xk_dg (n mc w i : Nat) : Nat := w / n ^ (mc - 1 - i) % n
theorem xk_wy_lt {n : Nat} {x : Nat → Nat} (hn : 0 < n) : ∀ k, (∀ i, i < k → x i < n) → xk_wy n x k < n ^ k
  | 0, _ => by simp [xk_wy]
  | k + 1, h => by
    have h1 := xk_wy_lt hn k (fun i hi => h i (by omega))
    have h2 := h k (by omega)
    rw [xk_wy, Nat.pow_succ]
    have : (xk_wy n x k + 1) * n ≤ n ^ k * n := Nat.mul_le_mul_right n h1
    rw [Nat.add_mul, Nat.one_mul] at this
    omega
theorem xk_wy_dg {n mc w : Nat} (hn : 0 < n) (hw : w < n ^ mc) : ∀ k, k ≤ mc → xk_wy n (xk_dg n mc w) k = w / n ^ (mc - k)
  | 0, _ => by rw [xk_wy, Nat.sub_zero, Nat.div_eq_of_lt hw]
  | k + 1, hk => by
    rw [xk_wy, xk_wy_dg hn hw k (by omega), xk_dg, show mc - (k + 1) = mc - 1 - k by omega]
    have h1 : n ^ (mc - k) = n ^ (mc - 1 - k) * n := by rw [← Nat.pow_succ]; congr 1; omega
    rw [h1, ← Nat.div_div_eq_div_mul]
    have := Nat.div_add_mod (w / n ^ (mc - 1 - k)) n
    rw [Nat.mul_comm] at this
    exact this
theorem xk_wy_div {n : Nat} {x : Nat → Nat} (hn : 0 < n) : ∀ d k, (∀ i, i < k + d → x i < n) → xk_wy n x (k + d) / n ^ d = xk_wy n x k
  | 0, k, _ => by rw [Nat.pow_zero, Nat.div_one]; rfl
  | d + 1, k, h => by
    rw [Nat.pow_succ, Nat.mul_comm, ← Nat.div_div_eq_div_mul, show k + (d + 1) = (k + d) + 1 by omega, xk_wy]
    have h2 := h (k + d) (by omega)
    rw [Nat.mul_comm (xk_wy n x (k + d)) n, Nat.mul_add_div hn, Nat.div_eq_of_lt h2, Nat.add_zero]
    exact xk_wy_div hn d k (fun i hi => h i (by omega))
theorem xk_dg_wy {n mc : Nat} {x : Nat → Nat} (hn : 0 < n) (hx : ∀ i, i < mc → x i < n) {i : Nat} (hi : i < mc) : xk_dg n mc (xk_wy n x mc) i = x i := by
  unfold xk_dg
  have h1 := xk_wy_div (x := x) hn (mc - 1 - i) (i + 1) (fun j hj => hx j (by omega))
  rw [show i + 1 + (mc - 1 - i) = mc by omega] at h1
  rw [h1, xk_wy, Nat.mul_comm, Nat.mul_add_mod, Nat.mod_eq_of_lt (hx i hi)]
theorem xk_wy_mono {n : Nat} {x y : Nat → Nat} {i : Nat} (hj : ∀ j, j < i → x j = y j) (hlt : x i < y i) (hx : ∀ j, x j < n ∨ True) : ∀ k, i < k → (∀ j, j < k → x j < n) → xk_wy n x k < xk_wy n y k
  | 0, h, _ => by omega
  | k + 1, h, hn => by
    by_cases hik : i = k
    · subst hik
      have he : ∀ q, q ≤ i → xk_wy n x q = xk_wy n y q := by
        intro q
        induction q with
        | zero => intro _; rfl
        | succ q ih => intro hq; rw [xk_wy, xk_wy, ih (by omega), hj q (by omega)]
      rw [xk_wy, xk_wy, he i (Nat.le_refl _)]
      omega
    · have h1 := xk_wy_mono hj hlt hx k (by omega) (fun j hjk => hn j (by omega))
      have h2 := hn k (by omega)
      rw [xk_wy, xk_wy]
      have h3 : (xk_wy n x k + 1) * n ≤ xk_wy n y k * n := Nat.mul_le_mul_right n h1
      rw [Nat.add_mul, Nat.one_mul] at h3
      omega
/-- the least way among the nearest -/
def xk_first (wn : Nat → Nat) (mc T w : Nat) : Prop := w < (T + 1) ^ mc ∧ xk_rise mc T (xk_dg (T + 1) mc w) ∧ ∀ w2, w2 < (T + 1) ^ mc → xk_rise mc T (xk_dg (T + 1) mc w2) → xk_S wn (xk_dg (T + 1) mc w) 0 mc ≤ xk_S wn (xk_dg (T + 1) mc w2) 0 mc ∧ (xk_S wn (xk_dg (T + 1) mc w2) 0 mc = xk_S wn (xk_dg (T + 1) mc w) 0 mc → w ≤ w2)
theorem xk_S_congr {wn x y : Nat → Nat} : ∀ d i, (∀ j, i ≤ j → j < i + d → x j = y j) → xk_S wn x i d = xk_S wn y i d
  | 0, _, _ => rfl
  | d + 1, i, h => by rw [xk_S, xk_S, h i (by omega) (by omega), xk_S_congr d (i + 1) (fun j a b => h j (by omega) (by omega))]
theorem xk_same {wn : Nat → Nat} {mc T w : Nat} {mv ch : Nat → Nat → Nat} (h : xk_tab wn mc T mv ch) (hw : xk_first wn mc T w) : (∀ i, i < mc → xk_dg (T + 1) mc w i = xk_gq ch i) ∧ xk_S wn (xk_dg (T + 1) mc w) 0 mc = mv 0 0 := by
  by_cases hmc0 : mc = 0
  · subst hmc0
    exact ⟨fun i hi => by omega, by rw [h.1 0 (Nat.zero_le _)]; rfl⟩
  have hmc : 0 < mc := by omega
  obtain ⟨w1, w2, w3⟩ := hw
  have hgr := xk_gq_rise h
  have hglt : ∀ i, i < mc → xk_gq ch i < T + 1 := fun i hi => by have := hgr.1 i hi; omega
  obtain ⟨u, hu⟩ : ∃ u, u = xk_wy (T + 1) (xk_gq ch) mc := ⟨_, rfl⟩
  have hud : ∀ i, i < mc → xk_dg (T + 1) mc u i = xk_gq ch i := fun i hi => by rw [hu]; exact xk_dg_wy (by omega) hglt hi
  have hult : u < (T + 1) ^ mc := by rw [hu]; exact xk_wy_lt (by omega) mc hglt
  have hur : xk_rise mc T (xk_dg (T + 1) mc u) := ⟨fun i hi => by rw [hud i hi]; exact hgr.1 i hi, fun i hi => by rw [hud i (by omega), hud (i + 1) hi]; exact hgr.2 i hi⟩
  have hSu : xk_S wn (xk_dg (T + 1) mc u) 0 mc = xk_S wn (xk_gq ch) 0 mc := xk_S_congr mc 0 (fun j _ hj => hud j (by omega))
  have h4 := xk_gq_S h mc 0 (by omega) hmc
  have h5 := xk_ge h w2 mc 0 (by omega) 0 (Nat.zero_le _) (fun _ => Nat.zero_le _)
  have h6 := (w3 u hult hur).1
  have h4' : xk_S wn (xk_gq ch) 0 mc = mv 0 0 := h4
  have hSe : xk_S wn (xk_dg (T + 1) mc w) 0 mc = mv 0 0 := by omega
  have hwu : w ≤ u := (w3 u hult hur).2 (by omega)
  have hwe : xk_wy (T + 1) (xk_dg (T + 1) mc w) mc = w := by rw [xk_wy_dg (by omega) w1 mc (Nat.le_refl _), Nat.sub_self, Nat.pow_zero, Nat.div_one]
  refine ⟨?_, hSe⟩
  intro i
  induction i using Nat.strongRecOn with
  | ind i ih =>
    intro hi
    have hle : xk_gq ch i ≤ xk_dg (T + 1) mc w i := by
      refine xk_lex h w2 i (mc - i) (by omega) (by omega) (fun j hj => ih j hj (by omega)) ?_
      exact (xk_S_pre i mc (mc - i) (by omega) (fun j hj => ih j hj (by omega)) i (mc - i) (by omega) rfl).mp (by omega)
    by_cases he : xk_dg (T + 1) mc w i = xk_gq ch i
    · exact he
    · exfalso
      have := xk_wy_mono (n := T + 1) (x := xk_gq ch) (y := xk_dg (T + 1) mc w) (i := i) (fun j hj => (ih j hj (by omega)).symm) (by omega) (fun _ => Or.inr trivial) mc hi hglt
      rw [hwe, ← hu] at this
      omega
-- the class
theorem xs_moves {i T wn : Nat} {mvn : Nat → Nat} {I : xw_I} {F : xw_F} {G : xw_G} {post : xw_I → xw_F → xw_G → Prop} (hi : i < 3) (hT : T ≤ 8) (hwn : wn ≤ 8) (hF : ∀ g, g ≤ T → F 34 ((i + 1) * 9 + g) = nI (mvn g) ∧ mvn g ≤ 100)
    (h : ∀ F1 (mv ch : Nat → Nat), (∀ g, g ≤ T → F1 34 (i * 9 + g) = nI (mv g) ∧ F1 35 (i * 9 + g) = nI (ch g) ∧ xk_best (fun x => xd_ab x wn + mvn x) T g (mv g) (ch g)) → (∀ q, q < i * 9 ∨ i * 9 + 9 ≤ q → F1 34 q = F 34 q ∧ F1 35 q = F 35 q) → (∀ j, j ≠ 34 → j ≠ 35 → F1 j = F j) → post I F1 G) : sm_X0_findMoves (nI i) (nI wn) (nI T) I F G post := by
  intro k10 k54 r10 r54
  unfold bd_X0_findMoves_0
  -- down to g
  have key : ∀ g m c F1 (mv ch : Nat → Nat), g ≤ T + 1 → (g = T + 1 → m = 1048576 ∧ c = T) → (g ≤ T → xk_best (fun x => xd_ab x wn + mvn x) T g m c) → (∀ x, g ≤ x → x ≤ T → F1 34 (i * 9 + x) = nI (mv x) ∧ F1 35 (i * 9 + x) = nI (ch x) ∧ xk_best (fun x => xd_ab x wn + mvn x) T x (mv x) (ch x)) → (∀ q, q < i * 9 ∨ i * 9 + 9 ≤ q → F1 34 q = F 34 q ∧ F1 35 q = F 35 q) → (∀ j, j ≠ 34 → j ≠ 35 → F1 j = F j) → (match g with | 0 => k10 (nI m) (nI c) (-1) I F1 G | x + 1 => k10 (nI m) (nI c) (nI x) I F1 G) := by
    intro g
    induction g with
    | zero =>
      intro m c F1 mv ch _ _ _ v1 v2 v3
      apply r10
      unfold bd_X0_findMoves_10
      exact ⟨fun _ => h F1 mv ch (fun x hx => v1 x (Nat.zero_le _) hx) v2 v3, fun z => absurd (by decide) z⟩
    | succ x ih =>
      intro m c F1 mv ch hg h0 hb v1 v2 v3
      have hm : m ≤ 1048576 := by
        by_cases hgT : x + 1 = T + 1
        · have := (h0 hgT).1; omega
        · obtain ⟨b1, b2, b3, b4⟩ := hb (by omega)
          have : m = xd_ab c wn + mvn c := b3
          have := (hF c b2).2
          unfold xd_ab at *
          omega
      have hc : c ≤ T := by
        by_cases hgT : x + 1 = T + 1
        · have := (h0 hgT).2; omega
        · exact (hb (by omega)).2.1
      apply r10
      unfold bd_X0_findMoves_10
      refine ⟨fun z => absurd z (nI_pos (by omega)), fun _ v ev => ?_⟩
      rw [xc_abs x (by omega) wn (by omega)] at ev
      rw [show (1 : Int32) = nI 1 from rfl, nI_add, show (9 : Int32) = nI 9 from rfl, xn_mul, nI_add]
      refine ⟨vp_in_nI (by omega) (by omega), fun w ew u eu => ?_⟩
      obtain ⟨f1, f2⟩ := hF x (by omega)
      rw [nI_clamp (by omega), (v2 _ (by omega)).1, f1] at ew
      rw [ev, ew, nI_add] at eu
      have hab : xd_ab x wn ≤ 8 := by unfold xd_ab; omega
      -- the store
      have hstore : ∀ m' c', xk_best (fun x => xd_ab x wn + mvn x) T x m' c' → k54 (nI m') (nI c') (nI x) I F1 G := by
        intro m' c' hb'
        apply r54
        unfold bd_X0_findMoves_54
        rw [show (9 : Int32) = nI 9 from rfl, xn_mul, nI_add]
        refine ⟨vp_in_nI (by omega) (by omega), fun F2 e2 => ⟨vp_in_nI (by omega) (by omega), fun F3 e3 t et => ?_⟩⟩
        rw [nI_clamp (by omega)] at e2 e3
        obtain ⟨mv3, hmv3, hmv3n⟩ : ∃ f : Nat → Nat, f x = m' ∧ ∀ y, y ≠ x → f y = mv y := ⟨fun y => if y = x then m' else mv y, if_pos rfl, fun y h => if_neg h⟩
        obtain ⟨ch3, hch3, hch3n⟩ : ∃ f : Nat → Nat, f x = c' ∧ ∀ y, y ≠ x → f y = ch y := ⟨fun y => if y = x then c' else ch y, if_pos rfl, fun y h => if_neg h⟩
        have := ih m' c' F3 mv3 ch3 (by omega) (fun z => by omega) (fun _ => hb') (fun y hy hyT => ?_) (fun q hq => ?_) (fun j a b => ?_)
        · cases x with
          | zero => rw [et]; exact this
          | succ x => rw [et, xn_dec (by omega)]; exact this
        · rw [e3, xw_upn (by decide), xw_ups, e2, xw_ups, xw_upn (by decide)]
          simp only [xb_updi]
          by_cases hyx : y = x
          · subst hyx; rw [if_pos rfl, if_pos rfl, hmv3, hch3]; exact ⟨rfl, rfl, hb'⟩
          · rw [if_neg (by omega), if_neg (by omega), hmv3n y hyx, hch3n y hyx]; exact v1 y (by omega) hyT
        · rw [e3, xw_upn (by decide), xw_ups, e2, xw_ups, xw_upn (by decide)]
          simp only [xb_updi]
          rw [if_neg (by omega), if_neg (by omega)]; exact v2 q hq
        · rw [e3, xw_upn b, e2, xw_upn a]; exact v3 j a b
      rw [eu]
      refine ⟨fun z => ?_, fun z => ?_⟩
      · have z : m < xd_ab x wn + mvn x := (xn_lt (by omega) (by omega)).mp z
        refine hstore m c ?_
        have hgT : x + 1 ≤ T := by
          apply Nat.le_of_not_lt
          intro y
          have := (h0 (by omega)).1
          omega
        obtain ⟨b1, b2, b3, b4⟩ := hb hgT
        refine ⟨by omega, b2, b3, fun y hy hyT => ?_⟩
        by_cases hyx : y = x
        · subst hyx; exact ⟨Nat.le_of_lt z, fun e => by dsimp only at e; omega⟩
        · exact b4 y (by omega) hyT
      · have z : ¬ m < xd_ab x wn + mvn x := fun y => z ((xn_lt (by omega) (by omega)).mpr y)
        refine hstore _ x ?_
        refine ⟨Nat.le_refl _, by omega, rfl, fun y hy hyT => ?_⟩
        by_cases hyx : y = x
        · subst hyx; exact ⟨Nat.le_refl _, fun _ => Nat.le_refl _⟩
        · have b4 := (hb (by omega)).2.2.2 y (by omega) hyT
          exact ⟨by have := b4.1; omega, fun _ => hy⟩
  exact key (T + 1) 1048576 T F (fun _ => 0) (fun _ => 0) (Nat.le_refl _) (fun _ => ⟨rfl, rfl⟩) (fun z => by omega) (fun x hx hxT => by omega) (fun _ _ => ⟨rfl, rfl⟩) (fun _ _ _ => rfl)
def xw_marked (mc : Nat) (mr : Nat → Nat) (mv ch : Nat → Nat → Nat) (I : xw_I) (F : xw_F) : Prop := I 16 = nI (mv 0 0) ∧ ∀ i, i < mc → F 33 (mr i) = nI (xk_gq ch i)
theorem xs_cmarks {mc T : Nat} {mr wn : Nat → Nat} {I : xw_I} {F : xw_F} {G : xw_G} {post : xw_I → xw_F → xw_G → Prop} (hmc : mc ≤ 3) (hT : T ≤ 8) (hI : I 10 = nI mc) (hr : ∀ i, i < mc → F 18 i = nI (mr i) ∧ mr i < 3 ∧ F 24 (mr i) = nI (wn i) ∧ wn i ≤ 8) (hinj : ∀ i j, i < mc → j < mc → mr i = mr j → i = j)
    (h : ∀ mv ch I1 F1, xk_tab wn mc T mv ch → xw_marked mc mr mv ch I1 F1 → (∀ j, j ≠ 16 → I1 j = I j) → (∀ j, j < 33 ∨ 35 < j → F1 j = F j) → post I1 F1 G) : sm_X0_place (nI T) I F G post := by
  intro k3 k40 k86 r3 r40 r86
  unfold bd_X0_place_0
  refine xl_up (fun q Fs => k3 (nI q) I Fs G) 9 (fun q Fs => (∀ g, g < q → Fs 34 (mc * 9 + g) = 0) ∧ ∀ j, j ≠ 34 → Fs j = F j) ?_ ?_ 0 F (by omega) ⟨fun g hg => by omega, fun _ _ => rfl⟩
  · intro q Fs hq hv ih
    apply r3
    unfold bd_X0_place_3
    refine ⟨fun z => absurd ((xn_le (a := 9) (by omega) (by omega)).mp z) (by omega), fun _ => ?_⟩
    rw [hI, show (9 : Int32) = nI 9 from rfl, xn_mul, nI_add]
    refine ⟨vp_in_nI (by omega) (by omega), fun F2 e2 u eu => ?_⟩
    rw [nI_clamp (by omega)] at e2
    rw [eu, nI_1]
    refine ih F2 ⟨fun g hg => ?_, fun j hj => by rw [e2, xw_upn hj]; exact hv.2 j hj⟩
    rw [e2, xw_ups, xb_updi]
    by_cases hgq : g = q
    · rw [if_pos (by omega)]
    · rw [if_neg (by omega)]; exact hv.1 g (by omega)
  · intro Fs hv
    apply r3
    unfold bd_X0_place_3
    refine ⟨fun _ v ev => ?_, fun z => absurd ((xn_le (a := 9) (b := 9) (by omega) (by omega)).mpr (by omega)) z⟩
    rw [hI] at ev
    -- rows from the last mark on
    have key : ∀ (i : Nat) (mv ch : Nat → Nat → Nat) (F1 : xw_F), i ≤ mc → (∀ g, g ≤ T → mv mc g = 0) → (∀ q, i ≤ q → q < mc → ∀ g, g ≤ T → xk_best (fun x => xd_ab x (wn q) + mv (q + 1) x) T g (mv q g) (ch q g)) → (∀ q g, i ≤ q → q ≤ mc → g ≤ T → F1 34 (q * 9 + g) = nI (mv q g) ∧ mv q g ≤ 16 * (mc - q)) → (∀ q g, i ≤ q → q < mc → g ≤ T → F1 35 (q * 9 + g) = nI (ch q g)) → (∀ j, j ≠ 34 → j ≠ 35 → F1 j = F j) → (match i with | 0 => k40 (-1) I F1 G | x + 1 => k40 (nI x) I F1 G) := by
      intro i
      induction i with
      | zero =>
        intro mv ch F1 _ t1 t2 t3 t4 t5
        apply r40
        unfold bd_X0_place_40
        refine ⟨fun _ => ⟨vp_in_nI (n := 0) (by omega) (by omega), fun w ew I1 eI1 => ?_⟩, fun z => absurd (by decide) z⟩
        have hw0 : w = nI (mv 0 0) := by rw [ew]; exact (t3 0 0 (Nat.le_refl _) (Nat.zero_le _) (Nat.zero_le _)).1
        have htab : xk_tab wn mc T mv ch := ⟨t1, fun q hq => t2 q (Nat.zero_le _) hq⟩
        have hI1 : I1 10 = nI mc := by rw [eI1, xw_upn (by decide)]; exact hI
        refine xl_up (fun q F2 => k86 (nI (xk_bd (xk_gq ch) q)) (nI q) I1 F2 G) mc (fun q F2 => (∀ y, y < q → F2 33 (mr y) = nI (xk_gq ch y)) ∧ ∀ j, j ≠ 33 → F2 j = F1 j) ?_ ?_ 0 F1 (Nat.zero_le _) ⟨fun y hy => by omega, fun _ _ => rfl⟩
        · intro q F2 hq hv2 ih2
          apply r86
          unfold bd_X0_place_86
          rw [hI1]
          refine ⟨fun z => absurd ((xn_le (by omega) (by omega)).mp z) (by omega), fun _ => ?_⟩
          have hbd := (xk_gq_ok htab q hq).1
          obtain ⟨r1, r2, r3, r4⟩ := hr q hq
          rw [show (9 : Int32) = nI 9 from rfl, xn_mul, nI_add]
          refine ⟨vp_in_nI (by omega) (by omega), fun w2 ew2 => ⟨vp_in_nI (by omega) (by omega), fun w3 ew3 => ?_⟩⟩
          have hch : w2 = nI (xk_gq ch q) := by
            rw [ew2, nI_clamp (by omega), hv2.2 35 (by decide), t4 q _ (Nat.zero_le _) hq hbd]
            cases q <;> rfl
          rw [nI_clamp (by omega), hv2.2 18 (by decide), t5 18 (by decide) (by decide), r1] at ew3
          subst ew3
          refine ⟨vp_in_nI r2 (by omega), fun F3 e3 u eu => ?_⟩
          rw [nI_clamp (by omega)] at e3
          rw [eu, nI_1, hch]
          refine ih2 F3 ⟨fun y hy => ?_, fun j hj => by rw [e3, xw_upn hj]; exact hv2.2 j hj⟩
          rw [e3, xw_ups, xb_updi]
          by_cases hyq : y = q
          · subst hyq; rw [if_pos rfl, hch]
          · rw [if_neg (fun z => hyq (hinj y q (by omega) hq z))]; exact hv2.1 y (by omega)
        · intro F2 hv2
          apply r86
          unfold bd_X0_place_86
          rw [hI1]
          refine ⟨fun _ => h mv ch I1 F2 htab ⟨by rw [eI1, xw_ups]; exact hw0, hv2.1⟩ (fun j hj => by rw [eI1, xw_upn hj]) (fun j hj => by rw [hv2.2 j (by omega)]; exact t5 j (by omega) (by omega)), fun z => absurd ((xn_le (by omega) (by omega)).mpr (Nat.le_refl _)) z⟩
      | succ x ih =>
        intro mv ch F1 hx t1 t2 t3 t4 t5
        apply r40
        unfold bd_X0_place_40
        refine ⟨fun z => absurd z (nI_pos (by omega)), fun _ => ⟨vp_in_nI (by omega) (by omega), fun w ew => ?_⟩⟩
        obtain ⟨r1, r2, r3, r4⟩ := hr x (by omega)
        rw [nI_clamp (by omega), t5 18 (by decide) (by decide), r1] at ew
        subst ew
        refine ⟨vp_in_nI r2 (by omega), fun w2 ew2 => ?_⟩
        rw [nI_clamp (by omega), t5 24 (by decide) (by decide), r3] at ew2
        subst ew2
        refine xs_moves (mvn := mv (x + 1)) (by omega) hT r4 (fun g hg => ⟨(t3 (x + 1) g (Nat.le_refl _) (by omega) hg).1, by have := (t3 (x + 1) g (Nat.le_refl _) (by omega) hg).2; omega⟩) (fun F2 m2 c2 g1 g2 g3 => ?_)
        intro u eu
        obtain ⟨mv3, hmv3, hmv3n⟩ : ∃ f : Nat → Nat → Nat, (∀ g, f x g = m2 g) ∧ ∀ y, y ≠ x → f y = mv y := ⟨fun y => if y = x then m2 else mv y, fun g => by simp, fun y h => by simp [h]⟩
        obtain ⟨ch3, hch3, hch3n⟩ : ∃ f : Nat → Nat → Nat, (∀ g, f x g = c2 g) ∧ ∀ y, y ≠ x → f y = ch y := ⟨fun y => if y = x then c2 else ch y, fun g => by simp, fun y h => by simp [h]⟩
        have := ih mv3 ch3 F2 (by omega) (fun g hg => by rw [hmv3n mc (by omega)]; exact t1 g hg) (fun q hq hqm g hg => ?_) (fun q g hq hqm hg => ?_) (fun q g hq hqm hg => ?_) (fun j a b => (g3 j a b).trans (t5 j a b))
        · cases x with
          | zero => rw [eu]; exact this
          | succ x => rw [eu, xn_dec (by omega)]; exact this
        · by_cases hqx : q = x
          · subst hqx; rw [hmv3, hch3, hmv3n (q + 1) (by omega)]; exact (g1 g hg).2.2
          · rw [hmv3n q hqx, hch3n q hqx, hmv3n (q + 1) (by omega)]; exact t2 q (by omega) hqm g hg
        · by_cases hqx : q = x
          · subst hqx
            rw [hmv3]
            obtain ⟨z1, z2, z3⟩ := g1 g hg
            refine ⟨z1, ?_⟩
            have e1 : m2 g = xd_ab (c2 g) (wn q) + mv (q + 1) (c2 g) := z3.2.2.1
            have e2 := (t3 (q + 1) (c2 g) (Nat.le_refl _) (by omega) z3.2.1).2
            have e3 := z3.2.1
            have e4 : xd_ab (c2 g) (wn q) ≤ 16 := by unfold xd_ab; omega
            rw [e1, show mc - q = (mc - (q + 1)) + 1 by omega]
            omega
          · rw [hmv3n q hqx, (g2 _ (by omega)).1]; exact t3 q g (by omega) hqm hg
        · by_cases hqx : q = x
          · subst hqx; rw [hch3]; exact (g1 g hg).2.1
          · rw [hch3n q hqx, (g2 _ (by omega)).2]; exact t4 q g (by omega) hqm hg
    have := key mc (fun _ _ => 0) (fun _ _ => 0) Fs (Nat.le_refl _) (fun _ _ => rfl) (fun q h1 h2 => by omega) (fun q g h1 h2 hg => ⟨by rw [show q = mc by omega, hv.1 g (by omega)]; rfl, Nat.zero_le _⟩) (fun q g h1 h2 => by omega) (fun j a b => hv.2 j a)
    cases mc with
    | zero => rw [ev]; exact this
    | succ mc => rw [ev, nI_pred]; exact this
end
section
/-! ===== the reference places its marks ===== -/
theorem xk_by {n mc i : Nat} (hi : i < mc) (hn : 0 < n) : n ^ mc / n ^ (i + 1) = n ^ (mc - 1 - i) := by
  rw [Nat.pow_div (by omega) hn]; congr 1; omega
theorem xk_pow {n mc : Nat} (hn : n ≤ 9) (hn0 : 0 < n) (hmc : mc ≤ 3) : n ^ mc ≤ 729 := by
  have h1 : n ^ mc ≤ 9 ^ mc := Nat.pow_le_pow_left hn mc
  have h2 : 9 ^ mc ≤ 9 ^ 3 := Nat.pow_le_pow_right (by decide) hmc
  exact Nat.le_trans h1 h2
theorem xk_remn {q n : Nat} (hq : q < 2 ^ 31) (hn : 0 < n) (hn2 : n < 2 ^ 31) : nI q - nI q / nI n * nI n = nI (q % n) := by
  rw [pk_div hq hn hn2, xn_mul, xn_sub (Nat.div_mul_le_self q n)]
  congr 1
  have := Nat.div_add_mod q n
  rw [Nat.mul_comm] at this
  omega
theorem xs_mmarks {lk : Nat → Nat} {mc T : Nat} {mr mg : Nat → Nat} {I : xw_I} {F : xw_F} {G : xw_G} {post : xw_I → xw_F → xw_G → Prop} (hmc : mc ≤ 3) (hT : T ≤ 8) (hI2 : I 2 = nI T) (hI1 : I 1 = nI mc) (hl : ∀ w, w < 12 → F 6 w = nI (lk w)) (hlt : ∀ w, w < 12 → lk w < 2 ^ T) (hr : ∀ i, i < mc → F 5 i = nI (mr i) ∧ mr i < 3 ∧ F 4 (mr i) = nI (mg (mr i)) ∧ mg (mr i) ≤ 12) (hinj : ∀ i j, i < mc → j < mc → mr i = mr j → i = j)
    (h : ∀ w I1 F1, xk_first (fun i => xg_an lk (mg (mr i))) mc T w → I1 4 = nI (xk_S (fun i => xg_an lk (mg (mr i))) (xk_dg (T + 1) mc w) 0 mc) → (∀ i, i < mc → F1 12 (mr i) = nI (xk_dg (T + 1) mc w i)) → (∀ j, j ≠ 4 → I1 j = I j) → (∀ j, j ≠ 12 → F1 j = F j) → post I1 F1 G) : sm_X8_placeMarks I F G post := by
  intro k11 k37 k59 k93 k158 k172 r11 r37 r59 r93 r158 r172
  obtain ⟨n, hn⟩ : ∃ n, n = T + 1 := ⟨_, rfl⟩
  obtain ⟨wn, hwn⟩ : ∃ wn : Nat → Nat, wn = fun i => xg_an lk (mg (mr i)) := ⟨_, rfl⟩
  rw [← hwn, ← hn] at h
  have hwn8 : ∀ i, i < mc → wn i ≤ T := fun i hi => by rw [hwn]; exact xg_an_le hlt hT (hr i hi).2.2.2
  have hn0 : 0 < n := by omega
  have hn9 : n ≤ 9 := by omega
  have hpow := xk_pow hn9 hn0 hmc
  have hpow0 : 0 < n ^ mc := Nat.pow_pos hn0
  have hnz : ¬ nI n = 0 := nI_ne0 hn0 (by omega)
  unfold bd_X8_placeMarks_0
  intro v ev
  rw [hI2, nI_1, ← hn] at ev
  rw [ev]
  -- how many ways
  have hways : ∀ d i, i + d = mc → k11 (nI n) (nI (n ^ i)) (nI i) I F G := by
    intro d
    induction d with
    | succ d ih =>
      intro i hi
      apply r11
      unfold bd_X8_placeMarks_11
      rw [hI1]
      refine ⟨fun z => absurd ((xn_le (by omega) (by omega)).mp z) (by omega), fun _ u eu w ew => ?_⟩
      rw [eu, ew, nI_1, xn_mul, ← Nat.pow_succ]
      exact ih (i + 1) (by omega)
    | zero =>
      intro i hi
      have : i = mc := by omega
      subst this
      apply r11
      unfold bd_X8_placeMarks_11
      rw [hI1]
      refine ⟨fun _ I0 eI0 => ?_, fun z => absurd ((xn_le (by omega) (by omega)).mpr (Nat.le_refl _)) z⟩
      -- the best of the ways before w
      obtain ⟨Bst, hBst⟩ : ∃ Bst : Nat → xw_I → xw_F → Prop, ∀ w I1 F1, Bst w I1 F1 ↔ ((w = 0 ∧ I1 4 = -6) ∨ ∃ b, b < w ∧ xk_rise i T (xk_dg n i b) ∧ (∀ w2, w2 < w → xk_rise i T (xk_dg n i w2) → xk_S wn (xk_dg n i b) 0 i ≤ xk_S wn (xk_dg n i w2) 0 i ∧ (xk_S wn (xk_dg n i w2) 0 i = xk_S wn (xk_dg n i b) 0 i → b ≤ w2)) ∧ I1 4 = nI (xk_S wn (xk_dg n i b) 0 i) ∧ ∀ j, j < i → F1 12 (mr j) = nI (xk_dg n i b j)) := ⟨_, fun _ _ _ => Iff.rfl⟩
      have hSle : ∀ x : Nat → Nat, (∀ j, j < i → x j ≤ 8) → ∀ d j, j + d = i → xk_S wn x j d ≤ 8 * d := by
        intro x hx d
        induction d with
        | zero => intro j _; exact Nat.le_refl _
        | succ d ih =>
          intro j hj
          rw [xk_S]
          have h1 := ih (j + 1) (by omega)
          have h2 := hx j (by omega)
          have h3 := hwn8 j (by omega)
          have : xd_ab (x j) (wn j) ≤ 8 := by unfold xd_ab; omega
          omega
      have hdg : ∀ w j, xk_dg n i w j ≤ T := fun w j => by have := Nat.mod_lt (w / n ^ (i - 1 - j)) hn0; unfold xk_dg; omega
      have hS24 : ∀ w, xk_S wn (xk_dg n i w) 0 i ≤ 24 := fun w => by have := hSle (xk_dg n i w) (fun j _ => by have := hdg w j; omega) i 0 (by omega); omega
      have hmain : ∀ dw w I1 F1, w + dw = n ^ i → Bst w I1 F1 → (∀ j, j ≠ 4 → I1 j = I j) → (∀ j, j ≠ 12 → F1 j = F j) → k37 (nI n) (nI (n ^ i)) (nI w) I1 F1 G := by
        intro dw
        induction dw with
        | zero =>
          intro w I1 F1 hw hB hI hF
          apply r37
          unfold bd_X8_placeMarks_37
          refine ⟨fun _ => ?_, fun z => absurd ((xn_le (by omega) (by omega)).mpr (by omega)) z⟩
          rcases (hBst w I1 F1).mp hB with ⟨h0, _⟩ | ⟨b, b1, b2, b3, b4, b5⟩
          · omega
          · refine h b I1 F1 ?_ b4 b5 hI hF
            unfold xk_first
            rw [← hn]
            exact ⟨by omega, b2, fun w2 hw2 hr2 => b3 w2 (by omega) hr2⟩
        | succ dw ihw =>
          intro w I1 F1 hw hB hI hF
          have hI1' : I1 1 = nI i := (hI 1 (by decide)).trans hI1
          have hI2' : I1 2 = nI T := (hI 2 (by decide)).trans hI2
          apply r37
          unfold bd_X8_placeMarks_37
          refine ⟨fun z => absurd ((xn_le (by omega) (by omega)).mp z) (by omega), fun _ => ⟨hnz, fun by0 eby => ?_⟩⟩
          rw [pk_div (by omega) hn0 (by omega)] at eby
          -- the next way, where this one is not better
          have hnext : (xk_rise i T (xk_dg n i w) → ∃ b, b < w ∧ xk_rise i T (xk_dg n i b) ∧ (∀ w2, w2 < w → xk_rise i T (xk_dg n i w2) → xk_S wn (xk_dg n i b) 0 i ≤ xk_S wn (xk_dg n i w2) 0 i ∧ (xk_S wn (xk_dg n i w2) 0 i = xk_S wn (xk_dg n i b) 0 i → b ≤ w2)) ∧ I1 4 = nI (xk_S wn (xk_dg n i b) 0 i) ∧ (∀ j, j < i → F1 12 (mr j) = nI (xk_dg n i b j)) ∧ xk_S wn (xk_dg n i b) 0 i ≤ xk_S wn (xk_dg n i w) 0 i) → ¬ (w = 0 ∧ ¬ xk_rise i T (xk_dg n i w)) → ∀ u : Int32, u = nI w + 1 → k37 (nI n) (nI (n ^ i)) u I1 F1 G := by
            intro hb hw0 u eu
            rw [eu, nI_1]
            refine ihw (w + 1) I1 F1 (by omega) ((hBst _ _ _).mpr (Or.inr ?_)) hI hF
            by_cases hrw : xk_rise i T (xk_dg n i w)
            · obtain ⟨b, b1, b2, b3, b4, b5, b6⟩ := hb hrw
              refine ⟨b, by omega, b2, fun w2 hw2 hr2 => ?_, b4, b5⟩
              by_cases hww : w2 = w
              · subst hww; exact ⟨b6, fun _ => by omega⟩
              · exact b3 w2 (by omega) hr2
            · rcases (hBst w I1 F1).mp hB with ⟨h0, _⟩ | ⟨b, b1, b2, b3, b4, b5⟩
              · exact absurd ⟨h0, hrw⟩ hw0
              · refine ⟨b, by omega, b2, fun w2 hw2 hr2 => ?_, b4, b5⟩
                by_cases hww : w2 = w
                · subst hww; exact absurd hr2 hrw
                · exact b3 w2 (by omega) hr2
          have hrise0 : xk_rise i T (xk_dg n i 0) := ⟨fun j _ => by unfold xk_dg; simp, fun j _ => by unfold xk_dg; simp⟩
          have hw0 : ¬ (w = 0 ∧ ¬ xk_rise i T (xk_dg n i w)) := fun z => by rw [z.1] at z; exact z.2 hrise0
          -- this way is the best so far: it is kept
          have hkeep : xk_rise i T (xk_dg n i w) → (∀ b, b < w → xk_rise i T (xk_dg n i b) → xk_S wn (xk_dg n i w) 0 i < xk_S wn (xk_dg n i b) 0 i) → k158 (nI n) (nI (n ^ i)) (nI w) (nI (xk_S wn (xk_dg n i w) 0 i)) I1 F1 G := by
            intro hrw hbest
            apply r158
            unfold bd_X8_placeMarks_158
            intro I2 eI2
            refine ⟨hnz, fun by1 eby1 => ?_⟩
            rw [pk_div (by omega) hn0 (by omega)] at eby1
            rw [eby1, show n ^ i / n = n ^ i / n ^ (0 + 1) by rw [Nat.zero_add, Nat.pow_one]]
            have hI12 : I2 1 = nI i := by rw [eI2, xw_upn (by decide)]; exact hI1'
            have hst : ∀ dj j F2, j + dj = i → (∀ q, q < j → F2 12 (mr q) = nI (xk_dg n i w q)) → (∀ q, q ≠ 12 → F2 q = F q) → k172 (nI n) (nI (n ^ i)) (nI w) (nI (n ^ i / n ^ (j + 1))) (nI j) I2 F2 G := by
              intro dj
              induction dj with
              | zero =>
                intro j F2 hj h12 hF2
                apply r172
                unfold bd_X8_placeMarks_172
                rw [hI12]
                refine ⟨fun _ u eu => ?_, fun z => absurd ((xn_le (by omega) (by omega)).mpr (by omega)) z⟩
                rw [eu, nI_1]
                refine ihw (w + 1) I2 F2 (by omega) ((hBst _ _ _).mpr (Or.inr ⟨w, by omega, hrw, fun w2 hw2 hr2 => ?_, by rw [eI2, xw_ups], fun q hq => h12 q (by omega)⟩)) (fun q hq => by rw [eI2, xw_upn hq]; exact hI q hq) hF2
                by_cases hww : w2 = w
                · subst hww; exact ⟨Nat.le_refl _, fun _ => Nat.le_refl _⟩
                · have := hbest w2 (by omega) hr2
                  exact ⟨by omega, fun e => by omega⟩
              | succ dj ihj =>
                intro j F2 hj h12 hF2
                have hji : j < i := by omega
                obtain ⟨q1, q2, q3, q4⟩ := hr j hji
                have hby := xk_by hji hn0
                have hby0 : 0 < n ^ i / n ^ (j + 1) := by rw [hby]; exact Nat.pow_pos hn0
                have hbyle : n ^ i / n ^ (j + 1) ≤ 729 := Nat.le_trans (Nat.div_le_self _ _) hpow
                apply r172
                unfold bd_X8_placeMarks_172
                rw [hI12]
                refine ⟨fun z => absurd ((xn_le (by omega) (by omega)).mp z) (by omega), fun _ => ⟨vp_in_nI (by omega) (by omega), fun u eu => ?_⟩⟩
                rw [nI_clamp (by omega), hF2 5 (by decide), q1] at eu
                subst eu
                refine ⟨nI_ne0 hby0 (by omega), hnz, vp_in_nI q2 (by omega), fun F3 e3 => ⟨hnz, fun by2 eby2 t et => ?_⟩⟩
                rw [nI_clamp (by omega), pk_div (by omega) hby0 (by omega)] at e3
                have hq31 : w / (n ^ i / n ^ (j + 1)) < 2 ^ 31 := Nat.lt_of_le_of_lt (Nat.div_le_self _ _) (by omega)
                rw [xk_remn hq31 hn0 (by omega), hby] at e3
                rw [pk_div (by omega) hn0 (by omega), Nat.div_div_eq_div_mul, ← Nat.pow_succ] at eby2
                rw [eby2, et, nI_1]
                refine ihj (j + 1) F3 (by omega) (fun q hq => ?_) (fun q hq => by rw [e3, xw_upn hq]; exact hF2 q hq)
                rw [e3, xw_ups, xb_updi]
                by_cases hqj : q = j
                · subst hqj; rw [if_pos rfl]; rfl
                · rw [if_neg (fun z => hqj (hinj q j (by omega) hji z))]; exact h12 q (by omega)
            exact hst i 0 F1 (by omega) (fun q hq => by omega) hF
          -- one way, mark by mark
          rw [eby, show n ^ i / n = n ^ i / n ^ (0 + 1) by rw [Nat.zero_add, Nat.pow_one]]
          have hway : ∀ dj j (sm : Nat) (last : Nat) (ok : Bool), j + dj = i → sm + xk_S wn (xk_dg n i w) j dj = xk_S wn (xk_dg n i w) 0 i → last = xk_bd (xk_dg n i w) j → (ok = true ↔ ∀ q, q + 1 < j + 1 → 0 < q → q < j → xk_dg n i w (q - 1) ≤ xk_dg n i w q) → k59 (nI n) (nI (n ^ i)) (nI w) (nI sm) (nI last) (nI (n ^ i / n ^ (j + 1))) (nI ok.toNat) (nI j) I1 F1 G := by
            intro dj
            induction dj with
            | zero =>
              intro j sm last ok hj hsm hla hok
              have hji : j = i := by omega
              subst hji
              have hsm : sm = xk_S wn (xk_dg n j w) 0 j := by rw [← hsm]; rfl
              have hS := hS24 w
              have hrw : ok = true ↔ xk_rise j T (xk_dg n j w) := by
                rw [hok]
                refine ⟨fun z => ⟨fun q _ => hdg w q, fun q hq => by have := z (q + 1) (by omega) (by omega) (by omega); exact this⟩, fun z q _ q0 hq => ?_⟩
                have := z.2 (q - 1) (by omega)
                rw [show q - 1 + 1 = q by omega] at this
                exact this
              apply r59
              unfold bd_X8_placeMarks_59
              rw [hI1']
              refine ⟨fun _ => ⟨fun z => ?_, fun z => ⟨fun z2 => ?_, fun z2 => ⟨fun z3 => ?_, fun z3 => ?_⟩⟩⟩, fun z => absurd ((xn_le (by omega) (by omega)).mpr (Nat.le_refl _)) z⟩
              · have hno : ¬ xk_rise j T (xk_dg n j w) := fun y => by rw [hrw.mpr y] at z; exact absurd z (by decide)
                exact hnext (fun y => absurd y hno) hw0
              · have hyes : xk_rise j T (xk_dg n j w) := hrw.mp (by cases ok; exact absurd rfl z; rfl)
                rw [hsm]
                refine hkeep hyes (fun b hb hrb => ?_)
                rcases (hBst w I1 F1).mp hB with ⟨h0, _⟩ | ⟨b', b1, b2, b3, b4, b5⟩
                · omega
                · rw [b4] at z2; exact absurd z2 (nI_pos (by have := hS24 b'; omega))
              · have hyes : xk_rise j T (xk_dg n j w) := hrw.mp (by cases ok; exact absurd rfl z; rfl)
                rcases (hBst w I1 F1).mp hB with ⟨h0, h6⟩ | ⟨b', b1, b2, b3, b4, b5⟩
                · rw [h6] at z2; exact absurd (by decide) z2
                · have hb24 := hS24 b'
                  rw [b4] at z3
                  have z3 := (xn_le (by omega) (by omega)).mp z3
                  exact hnext (fun _ => ⟨b', b1, b2, b3, b4, b5, by omega⟩) hw0
              · have hyes : xk_rise j T (xk_dg n j w) := hrw.mp (by cases ok; exact absurd rfl z; rfl)
                rcases (hBst w I1 F1).mp hB with ⟨h0, h6⟩ | ⟨b', b1, b2, b3, b4, b5⟩
                · rw [h6] at z2; exact absurd (by decide) z2
                · have hb24 := hS24 b'
                  rw [b4] at z3
                  have z3 : ¬ xk_S wn (xk_dg n j b') 0 j ≤ sm := fun y => z3 ((xn_le (by omega) (by omega)).mpr y)
                  rw [hsm]
                  refine hkeep hyes (fun b hb hrb => ?_)
                  have := (b3 b hb hrb).1
                  omega
            | succ dj ihj =>
              intro j sm last ok hj hsm hla hok
              have hji : j < i := by omega
              obtain ⟨q1, q2, q3, q4⟩ := hr j hji
              have hby := xk_by hji hn0
              have hby0 : 0 < n ^ i / n ^ (j + 1) := by rw [hby]; exact Nat.pow_pos hn0
              have hbyle : n ^ i / n ^ (j + 1) ≤ 729 := Nat.le_trans (Nat.div_le_self _ _) hpow
              have hsm24 : sm ≤ 24 := by have := hS24 w; omega
              have hdj := hdg w j
              have hwj := hwn8 j hji
              have hlast8 : last ≤ 8 := by rw [hla]; cases j with | zero => exact Nat.zero_le _ | succ j => have := hdg w j; show xk_dg n i w j ≤ 8; omega
              -- the step once the flag is known
              have hgo : ∀ ok2 : Bool, (ok2 = true ↔ ok = true ∧ last ≤ xk_dg n i w j) → k93 (nI n) (nI (n ^ i)) (nI w) (nI sm) (nI (n ^ i / n ^ (j + 1))) (nI j) (nI (xk_dg n i w j)) (nI ok2.toNat) I1 F1 G := by
                intro ok2 hok2
                apply r93
                unfold bd_X8_placeMarks_93
                refine ⟨vp_in_nI (by omega) (by omega), fun u eu => ?_⟩
                rw [nI_clamp (by omega), hF 5 (by decide), q1] at eu
                subst eu
                refine ⟨vp_in_nI q2 (by omega), fun u eu => ?_⟩
                rw [nI_clamp (by omega), hF 4 (by decide), q3] at eu
                subst eu
                refine xs_manchor hI2' (fun x hx => by rw [hF 6 (by decide)]; exact hl x hx) hT hlt q4 ?_
                have hwj2 : xg_an lk (mg (mr j)) = wn j := by rw [hwn]
                rw [hwj2]
                refine xs_off (by omega) (by omega) ?_
                intro u eu
                refine ⟨hnz, fun by2 eby2 t et => ?_⟩
                rw [nI_add] at eu
                rw [pk_div (by omega) hn0 (by omega), Nat.div_div_eq_div_mul, ← Nat.pow_succ] at eby2
                rw [eu, eby2, et, nI_1]
                refine ihj (j + 1) _ _ ok2 (by omega) ?_ rfl ?_
                · rw [xk_S] at hsm
                  rw [← hsm]
                  have : xd_ab (wn j) (xk_dg n i w j) = xd_ab (xk_dg n i w j) (wn j) := by unfold xd_ab; omega
                  omega
                · rw [hok2, hok, hla]
                  constructor
                  · rintro ⟨y1, y2⟩ q _ q0 hq
                    by_cases hqj : q = j
                    · subst hqj
                      cases q with
                      | zero => omega
                      | succ q => exact y2
                    · exact y1 q (by omega) q0 (by omega)
                  · intro y
                    refine ⟨fun q _ q0 hq => y q (by omega) q0 (by omega), ?_⟩
                    cases j with
                    | zero => exact Nat.zero_le _
                    | succ j => exact y (j + 1) (by omega) (by omega) (by omega)
              apply r59
              unfold bd_X8_placeMarks_59
              rw [hI1']
              refine ⟨fun z => absurd ((xn_le (by omega) (by omega)).mp z) (by omega), fun _ => ⟨nI_ne0 hby0 (by omega), hnz, fun u eu => ?_⟩⟩
              have hq31 : w / (n ^ i / n ^ (j + 1)) < 2 ^ 31 := Nat.lt_of_le_of_lt (Nat.div_le_self _ _) (by omega)
              rw [pk_div (by omega) hby0 (by omega), xk_remn hq31 hn0 (by omega), hby] at eu
              have eu : u = nI (xk_dg n i w j) := eu
              rw [eu]
              refine ⟨fun z => hgo false ⟨fun y => (by cases y), fun y => by rw [y.1] at z; exact absurd z (by decide)⟩, fun z => ?_⟩
              have hokt : ok = true := by cases ok; exact absurd rfl z; rfl
              refine ⟨fun z2 => hgo false ⟨fun y => (by cases y), fun y => by have := (xn_lt (by omega) (by omega)).mp z2; omega⟩, fun z2 => hgo true ⟨fun _ => ⟨hokt, Nat.not_lt.mp (fun y => z2 ((xn_lt (by omega) (by omega)).mpr y))⟩, fun _ => rfl⟩⟩
          exact hway i 0 0 0 true (by omega) (by omega) rfl ⟨fun _ q _ q0 hq => by omega, fun _ => rfl⟩
      exact hmain (n ^ i) 0 I0 F (by omega) ((hBst _ _ _).mpr (Or.inl ⟨rfl, by rw [eI0, xw_ups]⟩)) (fun j hj => by rw [eI0, xw_upn hj]) (fun _ _ => rfl)
  have := hways mc 0 (by omega)
  rw [Nat.pow_zero] at this
  exact this
end
