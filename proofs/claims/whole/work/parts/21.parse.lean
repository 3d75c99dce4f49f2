/-! ===== the sentence as it is told ===== -/
/-- words, pairs, marks (bits), how many marks, how many open; opens, closes, holds, heldBy, gap of a mark, marks in order, open ones in order, rank -/
abbrev xa_R : Type := Nat × Nat × Nat × Nat × Nat × (Nat → Nat) × (Nat → Nat) × (Nat → Nat) × (Nat → Nat) × (Nat → Nat) × (Nat → Nat) × (Nat → Nat) × (Nat → Nat)
def xa_u (f : Nat → Nat) (j v : Nat) : Nat → Nat := fun k => if k = j then v else f k
theorem xa_us {f : Nat → Nat} {j v : Nat} : xa_u f j v j = v := if_pos rfl
theorem xa_un {f : Nat → Nat} {j v k : Nat} (h : k ≠ j) : xa_u f j v k = f k := if_neg h
def xa_om (st : Nat → Nat) : Nat → Nat
  | 0 => 0
  | j + 1 => xa_om st j ||| 2 ^ st j
def xa_pop (s : Nat) : Nat := (s.testBit 0).toNat + (s.testBit 1).toNat + (s.testBit 2).toNat + (s.testBit 3).toNat + (s.testBit 4).toNat
def xa_0 : xa_R := (0, 0, 0, 0, 0, fun _ => 0, fun _ => 0, fun _ => 0, fun _ => 0, fun _ => 0, fun _ => 0, fun _ => 0, fun _ => 0)
def xa_step : xa_R → Nat → Option xa_R
  | (n, ps, mb, mc, oc, op, cl, hd, hb, mg, mr, st, rk), s =>
    if s = 46 then (if n < 12 then some (n + 1, ps, mb, mc, oc, op, cl, hd, hb, mg, mr, st, rk) else none)
    else if 65 ≤ s ∧ s < 70 then (if ps.testBit (s - 65) then none else some (n, ps ||| 2 ^ (s - 65), mb, mc, oc + 1, xa_u op (s - 65) n, xa_u cl (s - 65) n, (fun q => if q = s - 65 then 0 else if (xa_om st oc).testBit q then hd q ||| 2 ^ (s - 65) else hd q), xa_u hb (s - 65) (xa_om st oc), mg, mr, xa_u st oc (s - 65), xa_u rk (s - 65) (xa_pop ps)))
    else if 97 ≤ s ∧ s < 102 then (if 0 < oc ∧ st (oc - 1) = s - 97 then some (n, ps, mb, mc, oc - 1, op, xa_u cl (s - 97) n, hd, hb, mg, mr, st, rk) else none)
    else if 120 ≤ s ∧ s < 123 then (if mb.testBit (s - 120) then none else some (n, ps, mb ||| 2 ^ (s - 120), mc + 1, oc, op, cl, hd, hb, xa_u mg (s - 120) n, xa_u mr mc (s - 120), st, rk))
    else none
/-- how a run of signs ends: at a sign that can not stand, or with what it tells -/
def xa_go (sg : Nat → Nat) : Nat → Nat → xa_R → Nat ⊕ xa_R
  | 0, _, A => .inr A
  | d + 1, k, A => match xa_step A (sg k) with
    | none => .inl k
    | some A' => xa_go sg d (k + 1) A'
theorem xa_om_bit (st : Nat → Nat) (q : Nat) : ∀ j, (xa_om st j).testBit q = true ↔ ∃ i, i < j ∧ st i = q
  | 0 => by simp [xa_om]
  | j + 1 => by
    rw [xa_om, Nat.testBit_or, Bool.or_eq_true, xa_om_bit st q j, Nat.testBit_two_pow]
    simp only [decide_eq_true_eq]
    constructor
    · rintro (⟨i, h, e⟩ | e)
      · exact ⟨i, by omega, e⟩
      · exact ⟨j, by omega, e⟩
    · rintro ⟨i, h, e⟩
      by_cases hij : i = j
      · subst hij; exact Or.inr e
      · exact Or.inl ⟨i, by omega, e⟩
theorem xa_om_lt (st : Nat → Nat) : ∀ j, (∀ i, i < j → st i < 5) → xa_om st j < 32
  | 0, _ => by simp [xa_om]
  | j + 1, h => by
    have h1 := xa_om_lt st j (fun i hi => h i (by omega))
    have h2 : 2 ^ st j < 2 ^ 5 := Nat.pow_lt_pow_right (by decide) (h j (by omega))
    exact Nat.or_lt_two_pow (n := 5) h1 h2
theorem xa_om_u (st : Nat → Nat) (p v : Nat) : ∀ j, j ≤ p → xa_om (xa_u st p v) j = xa_om st j
  | 0, _ => rfl
  | j + 1, h => by rw [xa_om, xa_om, xa_om_u st p v j (by omega), xa_un (by omega)]
theorem xa_pop_new : ∀ s, s < 32 → ∀ p, p < 5 → s.testBit p = false → xa_pop (s ||| 2 ^ p) = xa_pop s + 1 ∧ xa_pop s ≤ 4 ∧ s ||| 2 ^ p < 32 := by decide +kernel
theorem xa_pop_new3 : ∀ s, s < 8 → ∀ p, p < 3 → s.testBit p = false → xa_pop (s ||| 2 ^ p) = xa_pop s + 1 ∧ xa_pop s ≤ 2 ∧ s ||| 2 ^ p < 8 := by decide +kernel
theorem xa_pop_le : ∀ s, s < 8 → xa_pop s ≤ 3 := by decide +kernel
theorem xa_bit_or (s p q : Nat) : (s ||| 2 ^ p).testBit q = (s.testBit q || decide (p = q)) := by rw [Nat.testBit_or, Nat.testBit_two_pow]
/-- what holds of all that is told without a fault -/
def xa_ok : xa_R → Prop
  | (n, ps, mb, mc, oc, op, cl, hd, hb, mg, mr, st, rk) => n ≤ 12 ∧ ps < 32 ∧ mb < 8 ∧ mc = xa_pop mb ∧ oc ≤ xa_pop ps ∧
    (∀ i, i < oc → st i < 5 ∧ ps.testBit (st i) = true) ∧ (∀ i j, i < oc → j < oc → st i = st j → i = j) ∧
    (∀ p, p < 5 → ps.testBit p = true → op p ≤ cl p ∧ cl p ≤ n ∧ hd p < 32 ∧ hb p < 32 ∧ rk p < xa_pop ps) ∧
    (∀ p q, p < 5 → q < 5 → ps.testBit p = true → (hd p).testBit q = true → ps.testBit q = true ∧ rk p < rk q) ∧
    (∀ p q, p < 5 → q < 5 → ps.testBit p = true → (hb p).testBit q = true → ps.testBit q = true) ∧
    (∀ p q, p < 5 → q < 5 → ps.testBit p = true → ps.testBit q = true → (hd q).testBit p = (hb p).testBit q) ∧
    (∀ i, i < mc → mr i < 3 ∧ mb.testBit (mr i) = true) ∧ (∀ i j, i < mc → j < mc → mr i = mr j → i = j) ∧
    (∀ m, m < 3 → mb.testBit m = true → mg m ≤ n ∧ ∃ i, i < mc ∧ mr i = m)
theorem xa_ok0 : xa_ok xa_0 := by
  simp [xa_ok, xa_0, xa_pop]
theorem xa_step_ok {A A' : xa_R} {s : Nat} (h : xa_ok A) (e : xa_step A s = some A') : xa_ok A' := by
  obtain ⟨n, ps, mb, mc, oc, op, cl, hd, hb, mg, mr, st, rk⟩ := A
  obtain ⟨h1, h2, h3, h4, h5, h6, h7, h8, h9, h10, h11, h12, h13, h14⟩ := h
  unfold xa_step at e
  dsimp only at e
  split at e
  · split at e
    · rename_i hn
      cases e
      exact ⟨by omega, h2, h3, h4, h5, h6, h7, fun p hp hb => by have := h8 p hp hb; omega, h9, h10, h11, h12, h13, fun m hm hb => ⟨by have := (h14 m hm hb).1; omega, (h14 m hm hb).2⟩⟩
    · cases e
  · split at e
    · rename_i hs
      split at e
      · cases e
      · rename_i hb0
        obtain ⟨p, hp⟩ : ∃ p, p = s - 65 := ⟨_, rfl⟩
        rw [← hp] at e hb0
        have hp5 : p < 5 := by omega
        have hb0 : ps.testBit p = false := by simpa using hb0
        obtain ⟨g1, g2, g3⟩ := xa_pop_new ps h2 p hp5 hb0
        have hst : ∀ i, i < oc → st i ≠ p := fun i hi z => by have := (h6 i hi).2; rw [z, hb0] at this; cases this
        cases e
        refine ⟨h1, g3, h3, h4, by omega, ?_, ?_, ?_, ?_, ?_, ?_, h12, h13, h14⟩
        · intro i hi
          by_cases hio : i = oc
          · subst hio; rw [xa_us]; exact ⟨hp5, by rw [xa_bit_or]; simp⟩
          · rw [xa_un hio]
            have := h6 i (by omega)
            exact ⟨this.1, by rw [xa_bit_or, this.2]; rfl⟩
        · intro i j hi hj
          by_cases hio : i = oc
          · by_cases hjo : j = oc
            · intro _; omega
            · subst hio; rw [xa_us, xa_un hjo]; intro z; exact absurd z.symm (hst j (by omega))
          · by_cases hjo : j = oc
            · subst hjo; rw [xa_us, xa_un hio]; intro z; exact absurd z (hst i (by omega))
            · rw [xa_un hio, xa_un hjo]; exact h7 i j (by omega) (by omega)
        · intro q hq hb
          rw [xa_bit_or] at hb
          by_cases hqp : q = p
          · subst hqp
            simp only [xa_us, if_pos]
            exact ⟨Nat.le_refl _, Nat.le_refl _, by decide, xa_om_lt st oc (fun i hi => (h6 i hi).1), by omega⟩
          · have hbq : ps.testBit q = true := by simpa [Ne.symm hqp] using hb
            obtain ⟨a1, a2, a3, a4, a5⟩ := h8 q hq hbq
            simp only [xa_un hqp, if_neg hqp]
            refine ⟨a1, a2, ?_, a4, by omega⟩
            split
            · exact Nat.or_lt_two_pow (n := 5) a3 (Nat.pow_lt_pow_right (by decide) hp5)
            · exact a3
        · intro q r hq hr hb
          rw [xa_bit_or] at hb
          by_cases hqp : q = p
          · subst hqp; simp
          · have hbq : ps.testBit q = true := by simpa [Ne.symm hqp] using hb
            simp only [if_neg hqp, xa_un hqp]
            rw [xa_bit_or]
            have h8q := h8 q hq hbq
            split
            · rw [xa_bit_or]
              intro z
              by_cases hrp : r = p
              · subst hrp; simp [xa_us]; omega
              · have z2 : (hd q).testBit r = true := by simpa [Ne.symm hrp] using z
                obtain ⟨b1, b2⟩ := h9 q r hq hr hbq z2
                rw [xa_un hrp]; exact ⟨by simp [b1], b2⟩
            · intro z
              obtain ⟨b1, b2⟩ := h9 q r hq hr hbq z
              have hrp : r ≠ p := fun z => by rw [z, hb0] at b1; cases b1
              rw [xa_un hrp]; exact ⟨by simp [b1], b2⟩
        · intro q r hq hr hb
          rw [xa_bit_or] at hb
          by_cases hqp : q = p
          · subst hqp; rw [xa_us]; intro z
            obtain ⟨i, hi, hz⟩ := (xa_om_bit st r oc).mp z
            rw [xa_bit_or, ← hz, (h6 i hi).2]; rfl
          · have hbq : ps.testBit q = true := by simpa [Ne.symm hqp] using hb
            rw [xa_un hqp]; intro z
            rw [xa_bit_or, h10 q r hq hr hbq z]; rfl
        · intro q r hq hr hb1 hb2
          rw [xa_bit_or] at hb1 hb2
          by_cases hqp : q = p
          · subst hqp
            rw [xa_us]
            by_cases hrp : r = q
            · subst hrp
              simp only [if_pos, Nat.zero_testBit]
              cases hz : (xa_om st oc).testBit r
              · rfl
              · obtain ⟨i, hi, hz2⟩ := (xa_om_bit st r oc).mp hz
                exact absurd hz2 (hst i hi)
            · have hbr : ps.testBit r = true := by simpa [Ne.symm hrp] using hb2
              simp only [if_neg hrp]
              cases hz : (xa_om st oc).testBit r
              · simp only [Bool.false_eq_true, if_false]
                cases hz3 : (hd r).testBit q
                · rfl
                · have := (h9 r q hr hq hbr hz3).1
                  rw [hb0] at this; cases this
              · simp [xa_bit_or]
          · have hbq : ps.testBit q = true := by simpa [Ne.symm hqp] using hb1
            rw [xa_un hqp]
            by_cases hrp : r = p
            · subst hrp
              simp only [if_pos, Nat.zero_testBit]
              cases hz : (hb q).testBit r
              · rfl
              · have := h10 q r hq hr hbq hz
                rw [hb0] at this; cases this
            · have hbr : ps.testBit r = true := by simpa [Ne.symm hrp] using hb2
              simp only [if_neg hrp]
              rw [← h11 q r hq hr hbq hbr]
              split
              · rw [xa_bit_or]; simp [Ne.symm hqp]
              · rfl
    · split at e
      · rename_i hs
        split at e
        · rename_i hc
          obtain ⟨p, hp⟩ : ∃ p, p = s - 97 := ⟨_, rfl⟩
          rw [← hp] at e hc
          cases e
          refine ⟨h1, h2, h3, h4, by omega, fun i hi => h6 i (by omega), fun i j hi hj => h7 i j (by omega) (by omega), ?_, h9, h10, h11, h12, h13, h14⟩
          intro q hq hb
          obtain ⟨a1, a2, a3, a4, a5⟩ := h8 q hq hb
          by_cases hqp : q = p
          · subst hqp; rw [xa_us]; exact ⟨by omega, Nat.le_refl _, a3, a4, a5⟩
          · rw [xa_un hqp]; exact ⟨a1, a2, a3, a4, a5⟩
        · cases e
      · split at e
        · rename_i hs
          split at e
          · cases e
          · rename_i hb0
            obtain ⟨p, hp⟩ : ∃ p, p = s - 120 := ⟨_, rfl⟩
            rw [← hp] at e hb0
            have hp3 : p < 3 := by omega
            have hb0 : mb.testBit p = false := by simpa using hb0
            obtain ⟨g1, g2, g3⟩ := xa_pop_new3 mb h3 p hp3 hb0
            have hmr : ∀ i, i < mc → mr i ≠ p := fun i hi z => by have := (h12 i hi).2; rw [z, hb0] at this; cases this
            cases e
            refine ⟨h1, h2, g3, by omega, h5, h6, h7, h8, h9, h10, h11, ?_, ?_, ?_⟩
            · intro i hi
              by_cases hio : i = mc
              · subst hio; rw [xa_us]; exact ⟨hp3, by rw [xa_bit_or]; simp⟩
              · rw [xa_un hio]
                have := h12 i (by omega)
                exact ⟨this.1, by rw [xa_bit_or, this.2]; rfl⟩
            · intro i j hi hj
              by_cases hio : i = mc
              · by_cases hjo : j = mc
                · intro _; omega
                · subst hio; rw [xa_us, xa_un hjo]; intro z; exact absurd z.symm (hmr j (by omega))
              · by_cases hjo : j = mc
                · subst hjo; rw [xa_us, xa_un hio]; intro z; exact absurd z (hmr i (by omega))
                · rw [xa_un hio, xa_un hjo]; exact h13 i j (by omega) (by omega)
            · intro m hm hb
              rw [xa_bit_or] at hb
              by_cases hmp : m = p
              · subst hmp; rw [xa_us]; exact ⟨Nat.le_refl _, mc, by omega, xa_us⟩
              · have hbm : mb.testBit m = true := by simpa [Ne.symm hmp] using hb
                obtain ⟨b1, i, b2, b3⟩ := h14 m hm hbm
                rw [xa_un hmp]
                exact ⟨b1, i, by omega, by rw [xa_un (by omega)]; exact b3⟩
        · cases e
