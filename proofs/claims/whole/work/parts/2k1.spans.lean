/-! ===== the least sum is a sum of spans ===== -/
def xd_sp (s a b w : Nat) : Prop := ∃ (c : Nat) (d : Nat → Nat), w = c * 1099511627776 + d 0 * 4294967296 + d 1 * 16777216 + d 2 * 65536 + d 3 * 256 + d 4 ∧ ∀ p, p < 5 → (s.testBit p = true → ∃ x y, a ≤ x ∧ x ≤ y ∧ y ≤ b ∧ d p = 16 * x + y) ∧ (s.testBit p = false → d p = 0)
theorem xd_sp.wide {s a b a' b' w : Nat} (h : xd_sp s a b w) (ha : a' ≤ a) (hb : b ≤ b') : xd_sp s a' b' w := by
  obtain ⟨c, d, h1, h2⟩ := h
  refine ⟨c, d, h1, fun p hp => ⟨fun e => ?_, (h2 p hp).2⟩⟩
  obtain ⟨x, y, q1, q2, q3, q4⟩ := (h2 p hp).1 e
  exact ⟨x, y, by omega, q2, by omega, q4⟩
theorem xd_sp.two {s o a b w v : Nat} (hs : s < 32) (ho : o < 32) (hos : o &&& s = o) (h1 : xd_sp o a b w) (h2 : xd_sp (s - o) a b v) : xd_sp s a b (w + v) := by
  obtain ⟨c, d, e1, e2⟩ := h1
  obtain ⟨c', d', e3, e4⟩ := h2
  have hb := (xm_sub s hs o ho hos).2
  refine ⟨c + c', fun p => d p + d' p, by dsimp only; omega, fun p hp => ?_⟩
  have hin := xm_in o ho s hs hos p hp
  cases ho2 : o.testBit p
  · have := (e2 p hp).2 ho2
    have hbp := hb p hp
    rw [ho2, Bool.not_false, Bool.and_true] at hbp
    dsimp only
    rw [this, Nat.zero_add, ← hbp]
    exact e4 p hp
  · have hz : (s - o).testBit p = false := by rw [hb p hp, ho2]; simp
    have := (e4 p hp).2 hz
    dsimp only
    rw [this, Nat.add_zero, hin ho2]
    exact ⟨fun _ => (e2 p hp).1 ho2, fun y => by cases y⟩
theorem xd_sp.one {wf wt : Nat → Nat} {p a b : Nat} (hp : p < 5) (hab : a ≤ b) : xd_sp (2 ^ p) a b (xd_code wf wt p a b) := by
  have ht := (xm_two p hp).2.2
  refine ⟨xd_cost p (wf p) (wt p) a b, fun q => if p = q then 16 * a + b else 0, ?_, fun q hq => ?_⟩
  · unfold xd_code
    obtain ⟨X, hX⟩ : ∃ X, X = xd_cost p (wf p) (wt p) a b := ⟨_, rfl⟩
    obtain ⟨Y, hY⟩ : ∃ Y, Y = 16 * a + b := ⟨_, rfl⟩
    rw [← hX, ← hY]
    clear hX hY
    obtain rfl | rfl | rfl | rfl | rfl : p = 0 ∨ p = 1 ∨ p = 2 ∨ p = 3 ∨ p = 4 := by omega
    · rw [show (2 : Nat) ^ (8 * (4 - 0)) = 4294967296 from rfl, show (2 : Nat) ^ 40 = 1099511627776 from rfl]
      dsimp only
      rw [if_pos (rfl : (0 : Nat) = 0), if_neg (show ¬ (0 : Nat) = 1 by omega), if_neg (show ¬ (0 : Nat) = 2 by omega), if_neg (show ¬ (0 : Nat) = 3 by omega), if_neg (show ¬ (0 : Nat) = 4 by omega)]
      omega
    · rw [show (2 : Nat) ^ (8 * (4 - 1)) = 16777216 from rfl, show (2 : Nat) ^ 40 = 1099511627776 from rfl]
      dsimp only
      rw [if_pos (rfl : (1 : Nat) = 1), if_neg (show ¬ (1 : Nat) = 0 by omega), if_neg (show ¬ (1 : Nat) = 2 by omega), if_neg (show ¬ (1 : Nat) = 3 by omega), if_neg (show ¬ (1 : Nat) = 4 by omega)]
      omega
    · rw [show (2 : Nat) ^ (8 * (4 - 2)) = 65536 from rfl, show (2 : Nat) ^ 40 = 1099511627776 from rfl]
      dsimp only
      rw [if_pos (rfl : (2 : Nat) = 2), if_neg (show ¬ (2 : Nat) = 0 by omega), if_neg (show ¬ (2 : Nat) = 1 by omega), if_neg (show ¬ (2 : Nat) = 3 by omega), if_neg (show ¬ (2 : Nat) = 4 by omega)]
      omega
    · rw [show (2 : Nat) ^ (8 * (4 - 3)) = 256 from rfl, show (2 : Nat) ^ 40 = 1099511627776 from rfl]
      dsimp only
      rw [if_pos (rfl : (3 : Nat) = 3), if_neg (show ¬ (3 : Nat) = 0 by omega), if_neg (show ¬ (3 : Nat) = 1 by omega), if_neg (show ¬ (3 : Nat) = 2 by omega), if_neg (show ¬ (3 : Nat) = 4 by omega)]
      omega
    · rw [show (2 : Nat) ^ (8 * (4 - 4)) = 1 from rfl, show (2 : Nat) ^ 40 = 1099511627776 from rfl]
      dsimp only
      rw [if_pos (rfl : (4 : Nat) = 4), if_neg (show ¬ (4 : Nat) = 0 by omega), if_neg (show ¬ (4 : Nat) = 1 by omega), if_neg (show ¬ (4 : Nat) = 2 by omega), if_neg (show ¬ (4 : Nat) = 3 by omega)]
      omega
  · rw [ht q hq]
    by_cases h : p = q
    · dsimp only; rw [if_pos h, decide_eq_true h]
      exact ⟨fun _ => ⟨a, b, Nat.le_refl _, hab, Nat.le_refl _, rfl⟩, fun y => (by cases y)⟩
    · dsimp only; rw [if_neg h, decide_eq_false h]
      exact ⟨fun y => (by cases y), fun _ => rfl⟩
theorem xd_topex {ps : Nat} {hd rk : Nat → Nat} (hps : ps < 32) (hrk : ∀ p q, p < 5 → q < 5 → ps.testBit p = true → (hd p).testBit q = true → rk p < rk q) {s : Nat} (hs : s < 32) (hsp : s &&& ps = s) (hs0 : s ≠ 0) : ∃ p, p < 5 ∧ s.testBit p = true ∧ xd_top hd (s - 2 ^ p) p := by
  obtain ⟨q0, hq0, hq0s⟩ := xm_some s hs hs0
  have key : ∀ n q, q < 5 → s.testBit q = true → rk q = n → ∃ p, p < 5 ∧ s.testBit p = true ∧ xd_top hd s p := by
    intro n
    induction n using Nat.strongRecOn with
    | ind n ih =>
      intro q hq hqs hr
      by_cases ht : xd_top hd s q
      · exact ⟨q, hq, hqs, ht⟩
      · have : ∃ r, r < 5 ∧ s.testBit r = true ∧ (hd r).testBit q = true := by
          apply Classical.byContradiction
          intro hno
          apply ht
          intro r hr5 hrs
          cases hz : (hd r).testBit q
          · rfl
          · exact absurd ⟨r, hr5, hrs, hz⟩ hno
        obtain ⟨r, hr5, hrs, hz⟩ := this
        have := hrk r q hr5 hq (xm_in s hs ps hps hsp r hr5 hrs) hz
        exact ih (rk r) (by omega) r hr5 hrs rfl
  obtain ⟨p, hp, hps2, ht⟩ := key (rk q0) q0 hq0 hq0s rfl
  refine ⟨p, hp, hps2, fun q hq hqs => ?_⟩
  obtain ⟨b1, b2, b3⟩ := xm_bit s hs p hp hps2
  have := (xm_sub s hs _ (xm_two p hp).2.1 b1).2 q hq
  rw [hqs] at this
  exact ht q hq (by cases h : s.testBit q; rw [h] at this; cases this; rfl)
theorem xd_Cle {hd rk : Nat → Nat} {code : Nat → Nat → Nat → Nat} {ps T M N2 : Nat} {C : Nat → Nat → Nat → Nat} (hps : ps < 32) (hrk : ∀ p q, p < 5 → q < 5 → ps.testBit p = true → (hd p).testBit q = true → rk p < rk q) (hC : xd_hC hd code ps T N2 C) (hM : ∀ p a b, p < 5 → a ≤ b → b ≤ T → code p a b ≤ M) : ∀ s, s < 32 → s &&& ps = s → ∀ a b, a ≤ b → b ≤ T → C s a b ≤ xa_pop s * M := by
  obtain ⟨hC0, hC⟩ := hC
  intro s
  induction s using Nat.strongRecOn with
  | ind s IH =>
    intro hs hsp a b hab hb
    by_cases hs0 : s = 0
    · rw [hs0, hC0]; exact Nat.zero_le _
    · obtain ⟨p, hp, hps2, ht⟩ := xd_topex hps hrk hs hsp hs0
      obtain ⟨b1, b2, b3⟩ := xm_bit s hs p hp hps2
      obtain ⟨c1, c2, -⟩ := xm_two p hp
      have hsub := (xm_3 ps hps s hs hsp (s - 2 ^ p) (by omega) (xm_sub s hs _ c2 b1).1).2.2
      have h1 := (hC s (by omega) hs hsp a b hab hb).2.1 _ (Or.inl ⟨p, hp, hps2, ht, rfl⟩)
      have h2 := IH (s - 2 ^ p) (by omega) (by omega) hsub a b hab hb
      have h3 := hM p a b hp hab hb
      rw [← b3, Nat.add_mul]
      omega
theorem xd_span {hd rk wf wt : Nat → Nat} {ps T M N2 : Nat} {C : Nat → Nat → Nat → Nat} (hps : ps < 32) (hrk : ∀ p q, p < 5 → q < 5 → ps.testBit p = true → (hd p).testBit q = true → rk p < rk q) (hC : xd_hC hd (xd_code wf wt) ps T N2 C) (hM : ∀ p a b, p < 5 → a ≤ b → b ≤ T → xd_code wf wt p a b ≤ M) (hN2 : 5 * M < N2) : ∀ s, s < 32 → s &&& ps = s → ∀ n a b, b - a = n → a ≤ b → b ≤ T → xd_sp s a b (C s a b) := by
  have hle := xd_Cle hps hrk hC hM
  obtain ⟨hC0, hC⟩ := hC
  intro s
  induction s using Nat.strongRecOn with
  | ind s IH =>
    intro hs hsp n
    induction n using Nat.strongRecOn with
    | ind n ihn =>
      intro a b hn hab hb
      by_cases hs0 : s = 0
      · rw [hs0, hC0]
        exact ⟨0, fun _ => 0, rfl, fun p hp => ⟨fun y => (by rw [Nat.zero_testBit] at y; cases y), fun _ => rfl⟩⟩
      · have h1 := hC s (by omega) hs hsp a b hab hb
        have h2 := hle s hs hsp a b hab hb
        have h3 : xa_pop s * M ≤ 5 * M := Nat.mul_le_mul_right M (xa_pop5 s hs)
        rcases h1.2.2 with h4 | h4
        · omega
        · rcases h4 with ⟨p, hp, hps2, ht, e⟩ | ⟨hlt, e | e | ⟨o, c, o1, o2, o3, o4, o5, o6, e⟩⟩
          · rw [e]
            obtain ⟨b1, b2, b3⟩ := xm_bit s hs p hp hps2
            obtain ⟨c1, c2, -⟩ := xm_two p hp
            have hsub := (xm_3 ps hps s hs hsp (s - 2 ^ p) (by omega) (xm_sub s hs _ c2 b1).1).2.2
            exact (xd_sp.one hp hab).two hs c2 b1 (IH (s - 2 ^ p) (by omega) (by omega) hsub _ a b rfl hab hb)
          · rw [e]
            exact (ihn (b - (a + 1)) (by omega) (a + 1) b rfl (by omega) hb).wide (by omega) (by omega)
          · rw [e]
            exact (ihn (b - 1 - a) (by omega) a (b - 1) rfl (by omega) (by omega)).wide (by omega) (by omega)
          · rw [e]
            have hsub1 := (xm_3 ps hps s hs hsp o (by omega) o3).2.2
            have hsub2 := (xm_3 ps hps s hs hsp (s - o) (by omega) (xm_sub s hs o (by omega) o3).1).2.2
            exact ((IH o o2 (by omega) hsub1 _ a c rfl o5 (by omega)).wide (by omega) (by omega)).two hs (by omega) o3 ((IH (s - o) (by omega) (by omega) hsub2 _ c b rfl (by omega) hb).wide (by omega) (by omega))
theorem xd_dig {s T w : Nat} (hT : T ≤ 8) (h : xd_sp s 0 T w) {p : Nat} (hp : p < 5) (hps : s.testBit p = true) : xd_fr w p ≤ xd_to w p ∧ xd_to w p ≤ T := by
  obtain ⟨c, d, e, h2⟩ := h
  have hd : ∀ q, q < 5 → d q ≤ 136 := by
    intro q hq
    cases hz : s.testBit q
    · rw [(h2 q hq).2 hz]; omega
    · obtain ⟨x, y, q1, q2, q3, q4⟩ := (h2 q hq).1 hz; omega
  have d0 := hd 0 (by omega)
  have d1 := hd 1 (by omega)
  have d2 := hd 2 (by omega)
  have d3 := hd 3 (by omega)
  have d4 := hd 4 (by omega)
  obtain ⟨x, y, q1, q2, q3, q4⟩ := (h2 p hp).1 hps
  unfold xd_fr xd_to
  obtain rfl | rfl | rfl | rfl | rfl : p = 0 ∨ p = 1 ∨ p = 2 ∨ p = 3 ∨ p = 4 := by omega
  · rw [show (2 : Nat) ^ (8 * (4 - 0)) = 4294967296 from rfl]; omega
  · rw [show (2 : Nat) ^ (8 * (4 - 1)) = 16777216 from rfl]; omega
  · rw [show (2 : Nat) ^ (8 * (4 - 2)) = 65536 from rfl]; omega
  · rw [show (2 : Nat) ^ (8 * (4 - 3)) = 256 from rfl]; omega
  · rw [show (2 : Nat) ^ (8 * (4 - 4)) = 1 from rfl]; omega
theorem xd_big : 5 * (33 * 2 ^ 40) < 2 ^ 60 := by omega
theorem xd_big2 : (2 : Nat) ^ 60 ≤ 2 ^ 62 := by omega
theorem xg_lb8 (s : Nat) : ∀ d k, xg_lb s k d ≤ k + d
  | 0, k => by rw [xg_lb]; omega
  | d + 1, k => by
    rw [xg_lb]; split
    · omega
    · have := xg_lb8 s d (k + 1); omega
theorem xg_w8 (lk : Nat → Nat) (a b : Nat) : xg_wf lk a b ≤ 8 ∧ xg_wt lk a b ≤ 8 := by
  have h1 : xg_an lk a ≤ 8 := xg_bg_le _ 8
  unfold xg_wf xg_wt
  split
  · exact ⟨h1, h1⟩
  · exact ⟨xg_lb8 _ 8 0, xg_bg_le _ 8⟩
