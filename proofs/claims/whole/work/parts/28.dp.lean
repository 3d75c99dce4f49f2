/-! ===== two ways to find the least sum: they find the same ===== -/
theorem xm_sub : ∀ s, s < 32 → ∀ o, o < 32 → o &&& s = o → (s - o) &&& s = s - o ∧ ∀ q, q < 5 → (s - o).testBit q = (s.testBit q && !o.testBit q) := by decide +kernel
theorem xm_bit : ∀ s, s < 32 → ∀ p, p < 5 → s.testBit p = true → 2 ^ p &&& s = 2 ^ p ∧ 2 ^ p ≤ s ∧ xa_pop (s - 2 ^ p) + 1 = xa_pop s := by decide +kernel
theorem xm_two : ∀ p, p < 5 → 0 < 2 ^ p ∧ 2 ^ p < 32 ∧ ∀ q, q < 5 → (2 ^ p).testBit q = decide (p = q) := by decide +kernel
theorem xm_in : ∀ o, o < 32 → ∀ s, s < 32 → o &&& s = o → ∀ q, q < 5 → o.testBit q = true → s.testBit q = true := by decide +kernel
theorem xm_le : ∀ o, o < 32 → ∀ s, s < 32 → o &&& s = o → o ≤ s := by decide +kernel
def xm_chk (s o q : Nat) : Bool := !(o &&& s == o) || !(q &&& o == q) || (((o - q) &&& (s - q)) == o - q && ((s - q) - (o - q) == s - o) && (q &&& s == q))
theorem xm_3a : ∀ s, s < 32 → ∀ o, o < 32 → ∀ q, q < 32 → xm_chk s o q = true := by decide +kernel
theorem xm_3 (s : Nat) (hs : s < 32) (o : Nat) (ho : o < 32) (h1 : o &&& s = o) (q : Nat) (hq : q < 32) (h2 : q &&& o = q) : (o - q) &&& (s - q) = o - q ∧ (s - q) - (o - q) = s - o ∧ q &&& s = q := by
  have h := xm_3a s hs o ho q hq
  unfold xm_chk at h
  rw [h1, h2] at h
  simp only [beq_self_eq_true, Bool.not_true, Bool.false_or, Bool.and_eq_true, beq_iff_eq] at h
  exact ⟨h.1.1, h.1.2, h.2⟩
theorem xm_some : ∀ s, s < 32 → s ≠ 0 → ∃ q, q < 5 ∧ s.testBit q = true := by decide +kernel
/-- no pair of one set holds one of the other -/
def xd_ap (hd : Nat → Nat) (o r : Nat) : Prop := ∀ p q, p < 5 → q < 5 → o.testBit p = true → r.testBit q = true → (hd p).testBit q = false ∧ (hd q).testBit p = false
/-- no pair of the set holds p -/
def xd_top (hd : Nat → Nat) (s p : Nat) : Prop := ∀ q, q < 5 → s.testBit q = true → (hd q).testBit p = false
def xd_min (S : Nat → Prop) (N v : Nat) : Prop := v ≤ N ∧ (∀ x, S x → v ≤ x) ∧ (v = N ∨ S v)
/-- the candidates of the reference -/
def xd_SB (hd : Nat → Nat) (code : Nat → Nat → Nat → Nat) (B : Nat → Nat → Nat → Nat) (s a b x : Nat) : Prop :=
  (∃ o c, 0 < o ∧ o < s ∧ o &&& s = o ∧ xd_ap hd o (s - o) ∧ a ≤ c ∧ c ≤ b ∧ x = B o a c + B (s - o) c b) ∨
  (∃ p a' b', p < 5 ∧ s.testBit p = true ∧ xd_top hd (s - 2 ^ p) p ∧ a ≤ a' ∧ a' ≤ b' ∧ b' ≤ b ∧ x = B (s - 2 ^ p) a' b' + code p a' b')
/-- the candidates of the class -/
def xd_SC (hd : Nat → Nat) (code : Nat → Nat → Nat → Nat) (C : Nat → Nat → Nat → Nat) (s a b x : Nat) : Prop :=
  (∃ p, p < 5 ∧ s.testBit p = true ∧ xd_top hd (s - 2 ^ p) p ∧ x = code p a b + C (s - 2 ^ p) a b) ∨
  (a < b ∧ (x = C s (a + 1) b ∨ x = C s a (b - 1) ∨ ∃ o c, 0 < o ∧ o < s ∧ o &&& s = o ∧ xd_ap hd o (s - o) ∧ a ≤ c ∧ c < b ∧ x = C o a c + C (s - o) c b))
def xd_hB (hd : Nat → Nat) (code : Nat → Nat → Nat → Nat) (ps T N : Nat) (B : Nat → Nat → Nat → Nat) : Prop := (∀ a b, B 0 a b = 0) ∧ ∀ s, 0 < s → s < 32 → s &&& ps = s → ∀ a b, a ≤ b → b ≤ T → xd_min (xd_SB hd code B s a b) N (B s a b)
def xd_hC (hd : Nat → Nat) (code : Nat → Nat → Nat → Nat) (ps T N : Nat) (C : Nat → Nat → Nat → Nat) : Prop := (∀ a b, C 0 a b = 0) ∧ ∀ s, 0 < s → s < 32 → s &&& ps = s → ∀ a b, a ≤ b → b ≤ T → xd_min (xd_SC hd code C s a b) N (C s a b)
theorem xd_eq {hd rk : Nat → Nat} {code : Nat → Nat → Nat → Nat} {ps T M N1 N2 : Nat} {B C : Nat → Nat → Nat → Nat} (hps : ps < 32) (hrk : ∀ p q, p < 5 → q < 5 → ps.testBit p = true → (hd p).testBit q = true → rk p < rk q) (hB : xd_hB hd code ps T N1 B) (hC : xd_hC hd code ps T N2 C) (hM : ∀ p a b, p < 5 → a ≤ b → b ≤ T → code p a b ≤ M) (hN2 : 5 * M < N2) (hN : N2 ≤ N1) :
    ∀ s, s < 32 → s &&& ps = s → ∀ a b, a ≤ b → b ≤ T → B s a b = C s a b ∧ B s a b ≤ xa_pop s * M ∧ ∀ a' b', a ≤ a' → a' ≤ b' → b' ≤ b → B s a b ≤ B s a' b' := by
  obtain ⟨hB0, hB⟩ := hB
  obtain ⟨hC0, hC⟩ := hC
  have hpop5 : ∀ s, s < 32 → xa_pop s ≤ 5 := by decide +kernel
  intro s
  induction s using Nat.strongRecOn with
  | ind s IH =>
  intro hs hsp
  by_cases hs0 : s = 0
  · subst hs0
    intro a b _ _
    exact ⟨by rw [hB0, hC0], by rw [hB0]; exact Nat.zero_le _, fun a' b' _ _ _ => by rw [hB0, hB0]; exact Nat.le_refl _⟩
  have hpos : 0 < s := Nat.pos_of_ne_zero hs0
  -- a pair that nobody of the set holds
  obtain ⟨p0, hp0, hp0s, hp0t⟩ : ∃ p, p < 5 ∧ s.testBit p = true ∧ xd_top hd s p := by
    obtain ⟨q0, hq0, hq0s⟩ := xm_some s hs hs0
    have key : ∀ n q, q < 5 → s.testBit q = true → rk q = n → ∃ p, p < 5 ∧ s.testBit p = true ∧ xd_top hd s p := by
      intro n
      induction n using Nat.strongRecOn with
      | ind n ih =>
        intro q hq hqs hr
        by_cases ht : xd_top hd s q
        · exact ⟨q, hq, hqs, ht⟩
        · have : ∃ r, r < 5 ∧ s.testBit r = true ∧ (hd r).testBit q = true := by
            apply Classical.byContradiction
            intro hno
            apply ht
            intro r hr5 hrs
            cases hz : (hd r).testBit q
            · rfl
            · exact absurd ⟨r, hr5, hrs, hz⟩ hno
          obtain ⟨r, hr5, hrs, hz⟩ := this
          have := hrk r q hr5 hq (xm_in s hs ps hps hsp r hr5 hrs) hz
          exact ih (rk r) (by omega) r hr5 hrs rfl
    exact key (rk q0) q0 hq0 hq0s rfl
  have hsub : ∀ o, o < 32 → o &&& s = o → o &&& ps = o := fun o ho hos => (xm_3 ps hps s hs hsp o ho hos).2.2
  have hbit : ∀ p, p < 5 → s.testBit p = true → 2 ^ p < 32 ∧ 0 < 2 ^ p ∧ 2 ^ p ≤ s ∧ (s - 2 ^ p) < s ∧ (s - 2 ^ p) < 32 ∧ (s - 2 ^ p) &&& ps = s - 2 ^ p ∧ xa_pop (s - 2 ^ p) + 1 = xa_pop s := by
    intro p hp hps2
    obtain ⟨b1, b2, b3⟩ := xm_bit s hs p hp hps2
    obtain ⟨c1, c2, -⟩ := xm_two p hp
    exact ⟨c2, c1, b2, by omega, by omega, hsub _ (by omega) (xm_sub s hs _ c2 b1).1, b3⟩
  have htop : ∀ p, xd_top hd s p → p < 5 → s.testBit p = true → xd_top hd (s - 2 ^ p) p := by
    intro p ht hp hps2 q hq hqs
    obtain ⟨b1, b2, b3⟩ := xm_bit s hs p hp hps2
    have := (xm_sub s hs _ (hbit p hp hps2).1 b1).2 q hq
    rw [hqs] at this
    exact ht q hq (by cases h : s.testBit q; rw [h] at this; cases this; rfl)
  have hpart : ∀ o, 0 < o → o < s → o &&& s = o → o < 32 ∧ o &&& ps = o ∧ (s - o) < s ∧ 0 < s - o ∧ (s - o) < 32 ∧ (s - o) &&& ps = s - o := fun o h0 h1 h2 => ⟨by omega, hsub o (by omega) h2, by omega, by omega, by omega, hsub _ (by omega) (xm_sub s hs o (by omega) h2).1⟩
  -- bound
  have hbd : ∀ a b, a ≤ b → b ≤ T → B s a b ≤ xa_pop s * M := by
    intro a b hab hbT
    obtain ⟨-, -, -, b4, b5, b6, b7⟩ := hbit p0 hp0 hp0s
    have h1 := (hB s hpos hs hsp a b hab hbT).2.1 _ (Or.inr ⟨p0, a, a, hp0, hp0s, htop p0 hp0t hp0 hp0s, Nat.le_refl _, Nat.le_refl _, hab, rfl⟩)
    have h2 := (IH _ b4 b5 b6 a a (Nat.le_refl _) (by omega)).2.1
    have h3 := hM p0 a a hp0 (Nat.le_refl _) (by omega)
    rw [← b7, Nat.add_mul, Nat.one_mul]
    omega
  have hlt : ∀ a b, a ≤ b → b ≤ T → B s a b < N2 := by
    intro a b hab hbT
    have h1 := hbd a b hab hbT
    have h2 := Nat.mul_le_mul_right M (hpop5 s hs)
    omega
  have hatt : ∀ a b, a ≤ b → b ≤ T → xd_SB hd code B s a b (B s a b) := by
    intro a b hab hbT
    rcases (hB s hpos hs hsp a b hab hbT).2.2 with h | h
    · have := hlt a b hab hbT; omega
    · exact h
  have hmono : ∀ a b a' b', a ≤ a' → a' ≤ b' → b' ≤ b → b ≤ T → B s a b ≤ B s a' b' := by
    intro a b a' b' h1 h2 h3 h4
    rcases hatt a' b' h2 (by omega) with ⟨o, c, o1, o2, o3, o4, o5, o6, o7⟩ | ⟨p, x, y, p1, p2, p3, p4, p5, p6, p7⟩
    · obtain ⟨q1, q2, q3, q4, q5, q6⟩ := hpart o o1 o2 o3
      have m1 := (IH o o2 q1 q2 a c (by omega) (by omega)).2.2 a' c h1 o5 (Nat.le_refl _)
      have m2 := (IH (s - o) q3 q5 q6 c b (by omega) h4).2.2 c b' (Nat.le_refl _) o6 h3
      have := (hB s hpos hs hsp a b (by omega) h4).2.1 _ (Or.inl ⟨o, c, o1, o2, o3, o4, by omega, by omega, rfl⟩)
      omega
    · have := (hB s hpos hs hsp a b (by omega) h4).2.1 _ (Or.inr ⟨p, x, y, p1, p2, p3, by omega, p5, by omega, rfl⟩)
      omega
  -- the class's is no less
  have hge : ∀ d a b, a + d = b → b ≤ T → B s a b ≤ C s a b := by
    intro d
    induction d with
    | zero =>
      intro a b hab hbT
      rcases (hC s hpos hs hsp a b (by omega) hbT).2.2 with h | ⟨p, p1, p2, p3, p4⟩ | ⟨h, -⟩
      · have := hlt a b (by omega) hbT; omega
      · obtain ⟨-, -, -, b4, b5, b6, b7⟩ := hbit p p1 p2
        have e := (IH _ b4 b5 b6 a b (by omega) hbT).1
        have := (hB s hpos hs hsp a b (by omega) hbT).2.1 _ (Or.inr ⟨p, a, b, p1, p2, p3, Nat.le_refl _, by omega, Nat.le_refl _, rfl⟩)
        omega
      · omega
    | succ d ih =>
      intro a b hab hbT
      rcases (hC s hpos hs hsp a b (by omega) hbT).2.2 with h | ⟨p, p1, p2, p3, p4⟩ | ⟨h, h2 | h2 | ⟨o, c, o1, o2, o3, o4, o5, o6, o7⟩⟩
      · have := hlt a b (by omega) hbT; omega
      · obtain ⟨-, -, -, b4, b5, b6, b7⟩ := hbit p p1 p2
        have e := (IH _ b4 b5 b6 a b (by omega) hbT).1
        have := (hB s hpos hs hsp a b (by omega) hbT).2.1 _ (Or.inr ⟨p, a, b, p1, p2, p3, Nat.le_refl _, by omega, Nat.le_refl _, rfl⟩)
        omega
      · have := ih (a + 1) b (by omega) hbT
        have := hmono a b (a + 1) b (by omega) (by omega) (Nat.le_refl _) hbT
        omega
      · have := ih a (b - 1) (by omega) (by omega)
        have := hmono a b a (b - 1) (Nat.le_refl _) (by omega) (by omega) hbT
        omega
      · obtain ⟨q1, q2, q3, q4, q5, q6⟩ := hpart o o1 o2 o3
        have e1 := (IH o o2 q1 q2 a c o5 (by omega)).1
        have e2 := (IH (s - o) q3 q5 q6 c b (by omega) hbT).1
        have := (hB s hpos hs hsp a b (by omega) hbT).2.1 _ (Or.inl ⟨o, c, o1, o2, o3, o4, o5, by omega, rfl⟩)
        omega
  -- the class's grows no less with the room
  have hCm : ∀ e d a b a' b', a + e = a' → b' + d = b → a' ≤ b' → b ≤ T → C s a b ≤ C s a' b' := by
    intro e
    induction e with
    | zero =>
      intro d
      induction d with
      | zero => intro a b a' b' h1 h2 h3 h4; rw [show a = a' by omega, show b = b' by omega]; exact Nat.le_refl _
      | succ d ih =>
        intro a b a' b' h1 h2 h3 h4
        have h5 := ih a (b - 1) a' b' h1 (by omega) h3 (by omega)
        have h6 := (hC s hpos hs hsp a b (by omega) h4).2.1 _ (Or.inr ⟨by omega, Or.inr (Or.inl rfl)⟩)
        omega
    | succ e ih =>
      intro d a b a' b' h1 h2 h3 h4
      have h5 := ih d (a + 1) b a' b' (by omega) h2 h3 h4
      have h6 := (hC s hpos hs hsp a b (by omega) h4).2.1 _ (Or.inr ⟨by omega, Or.inl rfl⟩)
      omega
  have hCle : ∀ a b a' b', a ≤ a' → a' ≤ b' → b' ≤ b → b ≤ T → C s a b ≤ C s a' b' := fun a b a' b' h1 h2 h3 h4 => hCm (a' - a) (b - b') a b a' b' (by omega) (by omega) h2 h4
  -- all of one part behind the last gap
  have hE : ∀ o, 0 < o → o < s → o &&& s = o → xd_ap hd o (s - o) → ∀ a b, a ≤ b → b ≤ T → C s a b ≤ B o a b + B (s - o) b b := by
    intro o
    induction o using Nat.strongRecOn with
    | ind o ihE =>
    intro o1 o2 o3 o4 a b hab hbT
    obtain ⟨q1, q2, q3, q4, q5, q6⟩ := hpart o o1 o2 o3
    obtain ⟨oe, ob, om⟩ := IH o o2 q1 q2 a b hab hbT
    rcases (hB o o1 q1 q2 a b hab hbT).2.2 with h | ⟨r, c, r1, r2, r3, r4, r5, r6, r7⟩ | ⟨p, x, y, p1, p2, p3, p4, p5, p6, p7⟩
    · have h2 := Nat.mul_le_mul_right M (hpop5 o q1)
      omega
    · -- parts of the part
      obtain ⟨t1, t2, t3⟩ := xm_3 s hs o q1 o3 r (by omega) r3
      have hr32 : r < 32 := by omega
      have hrs : r < s := by omega
      obtain ⟨z1, z2, z3, z4, z5, z6⟩ := hpart r r1 hrs t3
      have hap : xd_ap hd r (s - r) := by
        intro p q hp hq hpr hqr
        rw [(xm_sub s hs r hr32 t3).2 q hq] at hqr
        by_cases hqo : o.testBit q = true
        · refine r4 p q hp hq hpr ?_
          rw [(xm_sub o q1 r hr32 r3).2 q hq, hqo]
          cases hz : r.testBit q
          · rfl
          · rw [hz] at hqr; simp at hqr
        · refine o4 p q hp hq (xm_in r hr32 o q1 r3 p hp hpr) ?_
          rw [(xm_sub s hs o q1 o3).2 q hq]
          cases hz : s.testBit q
          · rw [hz] at hqr; cases hqr
          · cases hz2 : o.testBit q
            · rfl
            · exact absurd hz2 hqo
      have hap2 : xd_ap hd (o - r) ((s - r) - (o - r)) := by
        rw [t2]
        intro p q hp hq hpr hqr
        refine o4 p q hp hq ?_ hqr
        rw [(xm_sub o q1 r hr32 r3).2 p hp] at hpr
        cases hz : o.testBit p
        · rw [hz] at hpr; cases hpr
        · rfl
      have hor : 0 < o - r := by omega
      have hsr : ∀ c', c' ≤ b → B (s - r) c' b ≤ B (o - r) c' b + B (s - o) b b := by
        intro c' hc'
        have := (hB (s - r) z4 z5 z6 c' b hc' hbT).2.1 _ (Or.inl ⟨o - r, b, hor, by omega, t1, hap2, hc', Nat.le_refl _, rfl⟩)
        rw [t2] at this
        exact this
      by_cases hcb : c = b
      · subst hcb
        have h1 := ihE r r2 r1 hrs t3 hap a c hab hbT
        have h2 := hsr c (Nat.le_refl _)
        omega
      · have h1 := (hC s hpos hs hsp a b hab hbT).2.1 _ (Or.inr ⟨by omega, Or.inr (Or.inr ⟨r, c, r1, hrs, t3, hap, r5, by omega, rfl⟩)⟩)
        have e1 := (IH r hrs z1 z2 a c r5 (by omega)).1
        have e2 := (IH (s - r) z3 z5 z6 c b r6 hbT).1
        have h2 := hsr c r6
        omega
    · -- a pair round it
      have hps2 : s.testBit p = true := xm_in o q1 s hs o3 p p1 p2
      obtain ⟨b1, b2, b3, b4, b5, b6, b7⟩ := hbit p p1 hps2
      obtain ⟨a1, a2, a3⟩ := xm_bit o q1 p p1 p2
      obtain ⟨t1, t2, t3⟩ := xm_3 s hs o q1 o3 (2 ^ p) b1 a1
      by_cases hyb : y = b
      · subst hyb
        have htp : xd_top hd (s - 2 ^ p) p := by
          intro q hq hqs
          rw [(xm_sub s hs _ b1 t3).2 q hq, (xm_two p p1).2.2 q hq] at hqs
          by_cases hqo : o.testBit q = true
          · refine p3 q hq ?_
            rw [(xm_sub o q1 _ b1 a1).2 q hq, hqo, (xm_two p p1).2.2 q hq]
            cases hz : decide (p = q)
            · rfl
            · rw [hz] at hqs; simp at hqs
          · have hqs2 : s.testBit q = true := by
              cases hz : s.testBit q
              · rw [hz] at hqs; cases hqs
              · rfl
            refine (o4 p q p1 hq p2 ?_).2
            rw [(xm_sub s hs o q1 o3).2 q hq, hqs2]
            cases hz2 : o.testBit q
            · rfl
            · exact absurd hz2 hqo
        have h1 := (hC s hpos hs hsp x y p5 (by omega)).2.1 _ (Or.inl ⟨p, p1, hps2, htp, rfl⟩)
        have h2 := hCle a y x y p4 p5 (Nat.le_refl _) hbT
        have e1 := (IH (s - 2 ^ p) b4 b5 b6 x y p5 hbT).1
        have h3 : B (s - 2 ^ p) x y ≤ B (o - 2 ^ p) x y + B (s - o) y y := by
          by_cases ho0 : o - 2 ^ p = 0
          · have hoe : o = 2 ^ p := by omega
            rw [ho0, hB0, ← hoe]
            have := (IH (s - o) q3 q5 q6 x y p5 hbT).2.2 y y p5 (Nat.le_refl _) (Nat.le_refl _)
            omega
          · have hap2 : xd_ap hd (o - 2 ^ p) ((s - 2 ^ p) - (o - 2 ^ p)) := by
              rw [t2]
              intro p' q hp hq hpr hqr
              refine o4 p' q hp hq ?_ hqr
              rw [(xm_sub o q1 _ b1 a1).2 p' hp] at hpr
              cases hz : o.testBit p'
              · rw [hz] at hpr; cases hpr
              · rfl
            have := (hB (s - 2 ^ p) (by omega) b5 b6 x y p5 hbT).2.1 _ (Or.inl ⟨o - 2 ^ p, y, by omega, by omega, t1, hap2, p5, Nat.le_refl _, rfl⟩)
            rw [t2] at this
            exact this
        omega
      · have h1 := (hC s hpos hs hsp a b hab hbT).2.1 _ (Or.inr ⟨by omega, Or.inr (Or.inr ⟨o, y, o1, o2, o3, o4, by omega, by omega, rfl⟩)⟩)
        have e1 := (IH o o2 q1 q2 a y (by omega) (by omega)).1
        have e2 := (IH (s - o) q3 q5 q6 y b p6 hbT).1
        have h2 := (hB o o1 q1 q2 a y (by omega) (by omega)).2.1 _ (Or.inr ⟨p, x, y, p1, p2, p3, p4, p5, Nat.le_refl _, rfl⟩)
        have h3 := (IH (s - o) q3 q5 q6 y b p6 hbT).2.2 b b p6 (Nat.le_refl _) (Nat.le_refl _)
        omega
  -- no more
  have hle : ∀ a b, a ≤ b → b ≤ T → C s a b ≤ B s a b := by
    intro a b hab hbT
    rcases hatt a b hab hbT with ⟨o, c, o1, o2, o3, o4, o5, o6, o7⟩ | ⟨p, x, y, p1, p2, p3, p4, p5, p6, p7⟩
    · obtain ⟨q1, q2, q3, q4, q5, q6⟩ := hpart o o1 o2 o3
      by_cases hcb : c = b
      · subst hcb
        have := hE o o1 o2 o3 o4 a c hab hbT
        omega
      · have h1 := (hC s hpos hs hsp a b hab hbT).2.1 _ (Or.inr ⟨by omega, Or.inr (Or.inr ⟨o, c, o1, o2, o3, o4, o5, by omega, rfl⟩)⟩)
        have e1 := (IH o o2 q1 q2 a c o5 (by omega)).1
        have e2 := (IH (s - o) q3 q5 q6 c b o6 hbT).1
        omega
    · obtain ⟨-, -, -, b4, b5, b6, b7⟩ := hbit p p1 p2
      have h1 := (hC s hpos hs hsp x y p5 (by omega)).2.1 _ (Or.inl ⟨p, p1, p2, p3, rfl⟩)
      have h2 := hCle a b x y p4 p5 p6 hbT
      have e1 := (IH _ b4 b5 b6 x y p5 (by omega)).1
      omega
  intro a b hab hbT
  refine ⟨?_, hbd a b hab hbT, fun a' b' h1 h2 h3 => hmono a b a' b' h1 h2 h3 hbT⟩
  have h1 := hge (b - a) a b (by omega) hbT
  have h2 := hle a b hab hbT
  omega
