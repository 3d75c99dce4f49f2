/-! ===== the least sum is a sum of spans ===== -/
def xd_sp (s a b w : Nat) : Prop := ∃ (c : Nat) (d : Nat → Nat), w = c * 1099511627776 + d 0 * 4294967296 + d 1 * 16777216 + d 2 * 65536 + d 3 * 256 + d 4 ∧ ∀ p, p < 5 → (s.testBit p = true → ∃ x y, a ≤ x ∧ x ≤ y ∧ y ≤ b ∧ d p = 16 * x + y) ∧ (s.testBit p = false → d p = 0)
theorem xd_sp.wide {s a b a' b' w : Nat} (h : xd_sp s a b w) (ha : a' ≤ a) (hb : b ≤ b') : xd_sp s a' b' w := by
  obtain ⟨c, d, h1, h2⟩ := h
  refine ⟨c, d, h1, fun p hp => ⟨fun e => ?_, (h2 p hp).2⟩⟩
  obtain ⟨x, y, q1, q2, q3, q4⟩ := (h2 p hp).1 e
  exact ⟨x, y, by omega, q2, by omega, q4⟩
theorem xd_sp.two {s o a b w v : Nat} (hs : s < 32) (ho : o < 32) (hos : o &&& s = o) (h1 : xd_sp o a b w) (h2 : xd_sp (s - o) a b v) : xd_sp s a b (w + v) := by
  obtain ⟨c, d, e1, e2⟩ := h1
  obtain ⟨c', d', e3, e4⟩ := h2
  have hb := (xm_sub s hs o ho hos).2
  refine ⟨c + c', fun p => d p + d' p, by dsimp only; omega, fun p hp => ?_⟩
  have hin := xm_in o ho s hs hos p hp
  cases ho2 : o.testBit p
  · have := (e2 p hp).2 ho2
    rw [ho2, Bool.not_false, Bool.and_true] at hb
    have hbp := hb p hp
    dsimp only
    rw [this, Nat.zero_add, ← hbp]
    exact e4 p hp
  · have hz : (s - o).testBit p = false := by rw [hb p hp, ho2]; simp
    have := (e4 p hp).2 hz
    dsimp only
    rw [this, Nat.add_zero, hin ho2]
    exact ⟨fun _ => (e2 p hp).1 ho2, fun y => by cases y⟩
theorem xd_sp.one {wf wt : Nat → Nat} {p a b : Nat} (hp : p < 5) (hab : a ≤ b) : xd_sp (2 ^ p) a b (xd_code wf wt p a b) := by
  have ht := (xm_two p hp).2.2
  refine ⟨xd_cost p (wf p) (wt p) a b, fun q => if p = q then 16 * a + b else 0, ?_, fun q hq => ?_⟩
  · unfold xd_code
    obtain rfl | rfl | rfl | rfl | rfl : p = 0 ∨ p = 1 ∨ p = 2 ∨ p = 3 ∨ p = 4 := by omega
    · rw [show (2 : Nat) ^ (8 * (4 - 0)) = 4294967296 from rfl, show (2 : Nat) ^ 40 = 1099511627776 from rfl]; dsimp only; simp
    · rw [show (2 : Nat) ^ (8 * (4 - 1)) = 16777216 from rfl, show (2 : Nat) ^ 40 = 1099511627776 from rfl]; dsimp only; simp
    · rw [show (2 : Nat) ^ (8 * (4 - 2)) = 65536 from rfl, show (2 : Nat) ^ 40 = 1099511627776 from rfl]; dsimp only; simp
    · rw [show (2 : Nat) ^ (8 * (4 - 3)) = 256 from rfl, show (2 : Nat) ^ 40 = 1099511627776 from rfl]; dsimp only; simp
    · rw [show (2 : Nat) ^ (8 * (4 - 4)) = 1 from rfl, show (2 : Nat) ^ 40 = 1099511627776 from rfl]; dsimp only; simp
  · rw [ht q hq]
    by_cases h : p = q
    · dsimp only; rw [if_pos h, decide_eq_true h]
      exact ⟨fun _ => ⟨a, b, Nat.le_refl _, hab, Nat.le_refl _, rfl⟩, fun y => by cases y⟩
    · dsimp only; rw [if_neg h, decide_eq_false h]
      exact ⟨fun y => (by cases y), fun _ => rfl⟩
theorem xd_topex {ps : Nat} {hd rk : Nat → Nat} (hps : ps < 32) (hrk : ∀ p q, p < 5 → q < 5 → ps.testBit p = true → (hd p).testBit q = true → rk p < rk q) {s : Nat} (hs : s < 32) (hsp : s &&& ps = s) (hs0 : s ≠ 0) : ∃ p, p < 5 ∧ s.testBit p = true ∧ xd_top hd (s - 2 ^ p) p := by
  obtain ⟨q0, hq0, hq0s⟩ := xm_some s hs hs0
  have key : ∀ n q, q < 5 → s.testBit q = true → rk q = n → ∃ p, p < 5 ∧ s.testBit p = true ∧ xd_top hd s p := by
    intro n
    induction n using Nat.strongRecOn with
    | ind n ih =>
      intro q hq hqs hr
      by_cases ht : xd_top hd s q
      · exact ⟨q, hq, hqs, ht⟩
      · have : ∃ r, r < 5 ∧ s.testBit r = true ∧ (hd r).testBit q = true := by
          apply Classical.byContradiction
          intro hno
          apply ht
          intro r hr5 hrs
          cases hz : (hd r).testBit q
          · rfl
          · exact absurd ⟨r, hr5, hrs, hz⟩ hno
        obtain ⟨r, hr5, hrs, hz⟩ := this
        have := hrk r q hr5 hq (xm_in s hs ps hps hsp r hr5 hrs) hz
        exact ih (rk r) (by omega) r hr5 hrs rfl
  obtain ⟨p, hp, hps2, ht⟩ := key (rk q0) q0 hq0 hq0s rfl
  refine ⟨p, hp, hps2, fun q hq hqs => ?_⟩
  obtain ⟨b1, b2, b3⟩ := xm_bit s hs p hp hps2
  have := (xm_sub s hs _ (xm_two p hp).2.1 b1).2 q hq
  rw [hqs] at this
  exact ht q hq (by cases h : s.testBit q; rw [h] at this; cases this; rfl)
theorem xd_Cle {hd rk : Nat → Nat} {code : Nat → Nat → Nat → Nat} {ps T M N2 : Nat} {C : Nat → Nat → Nat → Nat} (hps : ps < 32) (hrk : ∀ p q, p < 5 → q < 5 → ps.testBit p = true → (hd p).testBit q = true → rk p < rk q) (hC : xd_hC hd code ps T N2 C) (hM : ∀ p a b, p < 5 → a ≤ b → b ≤ T → code p a b ≤ M) : ∀ s, s < 32 → s &&& ps = s → ∀ a b, a ≤ b → b ≤ T → C s a b ≤ xa_pop s * M := by
  obtain ⟨hC0, hC⟩ := hC
  intro s
  induction s using Nat.strongRecOn with
  | ind s IH =>
    intro hs hsp a b hab hb
    by_cases hs0 : s = 0
    · rw [hs0, hC0]; exact Nat.zero_le _
    · obtain ⟨p, hp, hps2, ht⟩ := xd_topex hps hrk hs hsp hs0
      obtain ⟨b1, b2, b3⟩ := xm_bit s hs p hp hps2
      obtain ⟨c1, c2, -⟩ := xm_two p hp
      have hsub := (xm_3 ps hps s hs hsp (s - 2 ^ p) (by omega) (xm_sub s hs _ c2 b1).1).2.2
      have h1 := (hC s (by omega) hs hsp a b hab hb).2.1 _ (Or.inl ⟨p, hp, hps2, ht, rfl⟩)
      have h2 := IH (s - 2 ^ p) (by omega) (by omega) hsub a b hab hb
      have h3 := hM p a b hp hab hb
      rw [← b3, Nat.add_mul]
      omega
theorem xd_span {hd rk wf wt : Nat → Nat} {ps T M N2 : Nat} {C : Nat → Nat → Nat → Nat} (hps : ps < 32) (hrk : ∀ p q, p < 5 → q < 5 → ps.testBit p = true → (hd p).testBit q = true → rk p < rk q) (hC : xd_hC hd (xd_code wf wt) ps T N2 C) (hM : ∀ p a b, p < 5 → a ≤ b → b ≤ T → xd_code wf wt p a b ≤ M) (hN2 : 5 * M < N2) : ∀ s, s < 32 → s &&& ps = s → ∀ n a b, b - a = n → a ≤ b → b ≤ T → xd_sp s a b (C s a b) := by
  have hle := xd_Cle hps hrk hC hM
  obtain ⟨hC0, hC⟩ := hC
  intro s
  induction s using Nat.strongRecOn with
  | ind s IH =>
    intro hs hsp n
    induction n using Nat.strongRecOn with
    | ind n ihn =>
      intro a b hn hab hb
      by_cases hs0 : s = 0
      · rw [hs0, hC0]
        exact ⟨0, fun _ => 0, rfl, fun p hp => ⟨fun y => by rw [Nat.zero_testBit] at y; cases y, fun _ => rfl⟩⟩
      · have h1 := hC s (by omega) hs hsp a b hab hb
        have h2 := hle s hs hsp a b hab hb
        have h3 : xa_pop s * M ≤ 5 * M := Nat.mul_le_mul_right M (xa_pop5 s hs)
        rcases h1.2.2 with h4 | h4
        · omega
        · rcases h4 with ⟨p, hp, hps2, ht, e⟩ | ⟨hlt, e | e | ⟨o, c, o1, o2, o3, o4, o5, o6, e⟩⟩
          · rw [e]
            obtain ⟨b1, b2, b3⟩ := xm_bit s hs p hp hps2
            obtain ⟨c1, c2, -⟩ := xm_two p hp
            have hsub := (xm_3 ps hps s hs hsp (s - 2 ^ p) (by omega) (xm_sub s hs _ c2 b1).1).2.2
            exact (xd_sp.one hp hab).two hs c2 b1 (IH (s - 2 ^ p) (by omega) (by omega) hsub _ a b rfl hab hb)
          · rw [e]
            exact (ihn (b - (a + 1)) (by omega) (a + 1) b rfl (by omega) hb).wide (by omega) (by omega)
          · rw [e]
            exact (ihn (b - 1 - a) (by omega) a (b - 1) rfl (by omega) (by omega)).wide (by omega) (by omega)
          · rw [e]
            have hsub1 := (xm_3 ps hps s hs hsp o (by omega) o3).2.2
            have hsub2 := (xm_3 ps hps s hs hsp (s - o) (by omega) (xm_sub s hs o (by omega) o3).1).2.2
            exact ((IH o o2 (by omega) hsub1 _ a c rfl o5 (by omega)).wide (by omega) (by omega)).two hs (by omega) o3 ((IH (s - o) (by omega) (by omega) hsub2 _ c b rfl (by omega) hb).wide (by omega) (by omega))
theorem xd_dig {s T w : Nat} (hT : T ≤ 8) (h : xd_sp s 0 T w) {p : Nat} (hp : p < 5) (hps : s.testBit p = true) : xd_fr w p ≤ xd_to w p ∧ xd_to w p ≤ T := by
  obtain ⟨c, d, e, h2⟩ := h
  have hd : ∀ q, q < 5 → d q ≤ 136 := by
    intro q hq
    cases hz : s.testBit q
    · rw [(h2 q hq).2 hz]; omega
    · obtain ⟨x, y, q1, q2, q3, q4⟩ := (h2 q hq).1 hz; omega
  have d0 := hd 0 (by omega)
  have d1 := hd 1 (by omega)
  have d2 := hd 2 (by omega)
  have d3 := hd 3 (by omega)
  have d4 := hd 4 (by omega)
  obtain ⟨x, y, q1, q2, q3, q4⟩ := (h2 p hp).1 hps
  unfold xd_fr xd_to
  obtain rfl | rfl | rfl | rfl | rfl : p = 0 ∨ p = 1 ∨ p = 2 ∨ p = 3 ∨ p = 4 := by omega
  · rw [show (2 : Nat) ^ (8 * (4 - 0)) = 4294967296 from rfl]; omega
  · rw [show (2 : Nat) ^ (8 * (4 - 1)) = 16777216 from rfl]; omega
  · rw [show (2 : Nat) ^ (8 * (4 - 2)) = 65536 from rfl]; omega
  · rw [show (2 : Nat) ^ (8 * (4 - 3)) = 256 from rfl]; omega
  · rw [show (2 : Nat) ^ (8 * (4 - 4)) = 1 from rfl]; omega
theorem xg_lb8 (s : Nat) : ∀ d k, xg_lb s k d ≤ k + d
  | 0, k => by rw [xg_lb]; omega
  | d + 1, k => by
    rw [xg_lb]; split
    · omega
    · have := xg_lb8 s d (k + 1); omega
theorem xg_w8 (lk : Nat → Nat) (a b : Nat) : xg_wf lk a b ≤ 8 ∧ xg_wt lk a b ≤ 8 := by
  have h1 : xg_an lk a ≤ 8 := xg_bg_le _ 8
  unfold xg_wf xg_wt
  split
  · exact ⟨h1, h1⟩
  · exact ⟨xg_lb8 _ 8 0, xg_bg_le _ 8⟩
/-! ===== what is carried ===== -/
def xc_Q : xc_T := fun I F A T lk => match A with
  | (n, ps, mb, mc, oc, op, cl, hd, hb, mg, mr, st, rk) => xw_found lk I F (n, ps, mb, mc, oc, op, cl, hd, hb, mg, mr, st, rk) ∧
    ∃ C, xd_hC hd (xd_code (fun p => xg_wf lk (op p) (cl p)) (fun p => xg_wt lk (op p) (cl p))) ps T (2 ^ 60) C ∧ xw_placed (fun p => xg_wf lk (op p) (cl p)) (fun p => xg_wt lk (op p) (cl p)) (C ps 0 T) ps I F ∧
    ∃ mv ch, xk_tab (fun i => xg_an lk (mg (mr i))) mc T mv ch ∧ xw_marked mc mr mv ch I F ∧ xt_L (I 17) (F 37) (xt_cat (xt_all ps T mc hd hb (xd_fr (C ps 0 T)) (xd_to (C ps 0 T)) mr (xk_gq ch)) (T + 1))
theorem xc_Q_ok : xc_ok xc_Q := by
  intro I I1 F F1 A T lk hI hF h
  obtain ⟨n, ps, mb, mc, oc, op, cl, hd, hb, mg, mr, st, rk⟩ := A
  obtain ⟨⟨f1, f2, f3⟩, C, c1, ⟨c2, c3⟩, mv, ch, m1, ⟨m2, m3⟩, t⟩ := h
  refine ⟨⟨by rw [hI 13 (by decide)]; exact f1, fun p hp hb => by rw [hF 22 (by decide), hF 23 (by decide)]; exact f2 p hp hb, fun m hm hb => by rw [hF 24 (by decide)]; exact f3 m hm hb⟩, C, c1, ⟨by rw [hI 14 (by decide)]; exact c2, fun p hp hb => by rw [hF 26 (by decide), hF 27 (by decide), hF 28 (by decide)]; exact c3 p hp hb⟩, mv, ch, m1, ⟨by rw [hI 16 (by decide)]; exact m2, fun i hi => by rw [hF 33 (by decide)]; exact m3 i hi⟩, ?_⟩
  rw [hI 17 (by decide), hF 37 (by decide)]; exact t
theorem xa_mc3 {mb mc : Nat} (h : mb < 8) (h2 : mc = xa_pop mb) : mc ≤ 3 := by have := xa_pop_le mb h; omega
/-- all that the writers need, from what is told -/
theorem xc_P {n ps mb mc oc T w : Nat} {op cl hd hb mg mr st rk mt : Nat → Nat} (hok : xa_ok (n, ps, mb, mc, oc, op, cl, hd, hb, mg, mr, st, rk)) (hT : T ≤ 8) (hw : xd_sp ps 0 T w) (hm : ∀ i, i < mc → mt i ≤ T) : xt_P ps T mc hd hb (xd_fr w) (xd_to w) mr mt ∧ xt_HB ps hd hb ∧ xd_K ps hd hb rk := by
  obtain ⟨o1, o2, o3, o4, o5, o6, o7, o8, o9, o10, o11, o12, o13, o14⟩ := hok
  refine ⟨⟨⟨o2, hT, xa_mc3 o3 o4⟩, fun p hp hb => ⟨(o8 p hp hb).2.2.1, (o8 p hp hb).2.2.2.1, xd_dig hT hw hp hb⟩, fun i hi => ⟨(o12 i hi).1, hm i hi⟩⟩, fun p q hp hq hpp => ?_, o2, fun p hp hb => ⟨(o8 p hp hb).2.2.1, (o8 p hp hb).2.2.2.1⟩, o11, fun p q hp hq a b => (o9 p q hp hq a b).2⟩
  cases hz : ps.testBit q
  · rw [Bool.false_and]
    cases hy : (hb p).testBit q
    · rfl
    · have := o10 p q hp hq hpp hy; rw [hz] at this; cases this
  · rw [Bool.true_and, o11 p q hp hq hpp hz]
theorem xs_carry {A : xa_R} {T : Nat} {lk : Nat → Nat} {I : xw_I} {F : xw_F} {G : xw_G} {post : xw_I → xw_F → xw_G → Prop} (hok : xa_ok A) (hT : T ≤ 8) (hlk : xl_ok (xa_n A) T lk) (hN : xe_N I F A) (hI : I 12 = nI T) (hl : ∀ w, w < 12 → F 20 w = nI (lk w)) (hG : ∀ i, i < 81 → G 30 i = 0) (hQ : I 0 = 0 → xc_Q I F A T lk)
    (h : ∀ I1 F1 G1, xc_Q I1 F1 A T lk → (∀ j, j ≠ 0 → j < 13 → I1 j = I j) → (∀ j, j < 22 → F1 j = F j) → (∀ i, i < 81 → G1 30 i = 0) → post I1 F1 G1) : sm_X7_carry I F G post := by
  unfold sm_X7_carry
  refine ⟨fun _ => ?_, fun z => h I F G (hQ z) (fun _ _ _ => rfl) (fun _ _ => rfl) hG⟩
  have hlt : ∀ w, w < 12 → lk w < 2 ^ T := fun w hw => (hlk w hw).1
  refine xs_find hok hN hl hT hlt (fun I3 F3 hf i3 f3 => ?_)
  obtain ⟨n, ps, mb, mc, oc, op, cl, hd, hb, mg, mr, st, rk⟩ := A
  have hok0 := hok
  obtain ⟨o1, o2, o3, o4, o5, o6, o7, o8, o9, o10, o11, o12, o13, o14⟩ := hok
  obtain ⟨n1, n2, n3, n4, n5, n6, n7⟩ := hN
  obtain ⟨w1, w2, w3⟩ := hf
  have hmc3 := xa_mc3 o3 o4
  rw [i3 12 (by decide), hI]
  have hW : ∀ p, p < 5 → ps.testBit p = true → xg_wf lk (op p) (cl p) ≤ xg_wt lk (op p) (cl p) ∧ xg_wt lk (op p) (cl p) ≤ T := fun p hp hb => xg_w_le hlt hT (by have := o8 p hp hb; omega) (by have := o8 p hp hb; omega)
  refine xs_place (ps := ps) (T := T) (hd := hd) (hb := hb) (rk := rk) (wf := fun p => xg_wf lk (op p) (cl p)) (wt := fun p => xg_wt lk (op p) (cl p)) ⟨o2, fun p hp hb => ⟨(o8 p hp hb).2.2.1, (o8 p hp hb).2.2.2.1⟩, o11, fun p q hp hq a b => (o9 p q hp hq a b).2⟩ (by rw [i3 8 (by decide)]; exact n2) (fun p hp hb => by rw [f3 15 (by decide), f3 16 (by decide)]; exact (n5 p hp hb).2.2) hT (fun p hp hb => ⟨(w2 p hp hb).1, (w2 p hp hb).2, hW p hp hb⟩) hG (fun C I4 F4 G4 hC hpl i4 f4 g4 => ?_)
  have hM : ∀ p a b, p < 5 → a ≤ b → b ≤ T → xd_code (fun p => xg_wf lk (op p) (cl p)) (fun p => xg_wt lk (op p) (cl p)) p a b ≤ 33 * 2 ^ 40 := fun p a b hp hab hb => (xd_code_le hp (xg_w8 _ _ _).1 (xg_w8 _ _ _).2 (by omega) (by omega)).2
  have hsp := xd_span o2 (fun p q hp hq a b => (o9 p q hp hq a b).2) hC hM (by decide) ps o2 (Nat.and_self ps) _ 0 T rfl (by omega) (Nat.le_refl _)
  rw [i4 12 (by decide) (by decide), i3 12 (by decide), hI]
  refine xs_cmarks (mc := mc) (T := T) (mr := mr) (wn := fun i => xg_an lk (mg (mr i))) hmc3 hT (by rw [i4 10 (by decide) (by decide), i3 10 (by decide)]; exact n4) (fun i hi => ⟨by rw [f4 18 (by decide), f3 18 (by decide)]; exact n7 i hi, (o12 i hi).1, by rw [f4 24 (by decide)]; exact w3 _ (o12 i hi).1 (o12 i hi).2, xg_bg_le _ 8⟩) o13 (fun mv ch I5 F5 hk hm i5 f5 => ?_)
  have hrise := xk_gq_rise hk
  obtain ⟨hP, hH, hK⟩ := xc_P hok0 hT hsp hrise.1
  have hX : xt_X ps T mc hd hb (xd_fr (C ps 0 T)) (xd_to (C ps 0 T)) mr (xk_gq ch) I5 F5 := by
    refine ⟨⟨?_, ?_, ?_⟩, fun p hp hb => ⟨?_, ?_, ?_, ?_⟩, fun i hi => ⟨?_, hm.2 i hi⟩⟩
    · rw [i5 8 (by decide), i4 8 (by decide) (by decide), i3 8 (by decide)]; exact n2
    · rw [i5 10 (by decide), i4 10 (by decide) (by decide), i3 10 (by decide)]; exact n4
    · rw [i5 12 (by decide), i4 12 (by decide) (by decide), i3 12 (by decide)]; exact hI
    · rw [f5 15 (by decide), f4 15 (by decide), f3 15 (by decide)]; exact (n5 p hp hb).2.2.1
    · rw [f5 16 (by decide), f4 16 (by decide), f3 16 (by decide)]; exact (n5 p hp hb).2.2.2
    · rw [f5 26 (by decide)]; exact (hpl.2 p hp hb).1
    · rw [f5 27 (by decide)]; exact (hpl.2 p hp hb).2.1
    · rw [f5 18 (by decide), f4 18 (by decide), f3 18 (by decide)]; exact n7 i hi
  refine xs_write hP hX (xt_len hT hmc3) (fun I6 F6 ht f6 I7 e7 => ?_)
  have hI7 : ∀ j, j ≠ 0 → I7 j = I6 j := fun j hj => by rw [e7, xw_upn hj]
  refine h I7 F6 G4 ⟨⟨?_, fun p hp hb => ?_, fun m hmm hb => ?_⟩, C, hC, ⟨?_, fun p hp hb => ?_⟩, mv, ch, hk, ⟨?_, fun i hi => ?_⟩, ?_⟩ (fun j hj hj2 => ?_) (fun j hj => ?_) g4
  · rw [hI7 13 (by decide), f6.1 13 (by decide), i5 13 (by decide), i4 13 (by decide) (by decide)]; exact w1
  · rw [f6.2 22 (by decide), f6.2 23 (by decide), f5 22 (by decide), f5 23 (by decide), f4 22 (by decide), f4 23 (by decide)]; exact w2 p hp hb
  · rw [f6.2 24 (by decide), f5 24 (by decide), f4 24 (by decide)]; exact w3 m hmm hb
  · rw [hI7 14 (by decide), f6.1 14 (by decide), i5 14 (by decide)]; exact hpl.1
  · rw [f6.2 26 (by decide), f6.2 27 (by decide), f6.2 28 (by decide), f5 26 (by decide), f5 27 (by decide), f5 28 (by decide)]; exact hpl.2 p hp hb
  · rw [hI7 16 (by decide), f6.1 16 (by decide)]; exact hm.1
  · rw [f6.2 33 (by decide)]; exact hm.2 i hi
  · rw [hI7 17 (by decide)]; exact ht
  · rw [hI7 j hj, f6.1 j (by omega), i5 j (by omega), i4 j (by omega) (by omega), i3 j (by omega)]
  · rw [f6.2 j (by omega), f5 j (by omega), f4 j (by omega), f3 j (by omega)]
/-- the reference places, and finds the same -/
theorem xs_mall {n ps mb mc oc T : Nat} {op cl hd hb mg mr st rk lk : Nat → Nat} {C : Nat → Nat → Nat → Nat} {mv ch : Nat → Nat → Nat} {J : xw_I} {K : xw_F} {L : xw_G} {post : xw_I → xw_F → xw_G → Prop} (hok : xa_ok (n, ps, mb, mc, oc, op, cl, hd, hb, mg, mr, st, rk)) (hT : T ≤ 8) (hlt : ∀ w, w < 12 → lk w < 2 ^ T) (hM : xe_M J K (n, ps, mb, mc, oc, op, cl, hd, hb, mg, mr, st, rk)) (hI : J 2 = nI T) (hl : ∀ w, w < 12 → K 6 w = nI (lk w))
    (hC : xd_hC hd (xd_code (fun p => xg_wf lk (op p) (cl p)) (fun p => xg_wt lk (op p) (cl p))) ps T (2 ^ 60) C) (hk : xk_tab (fun i => xg_an lk (mg (mr i))) mc T mv ch)
    (h : ∀ J1 K1 L1, L1 0 0 = lN (C ps 0 T) → C ps 0 T < 2 ^ 62 → J1 4 = nI (mv 0 0) → (∀ p, p < 5 → K1 10 p = nI (xd_fr (C ps 0 T) p) ∧ K1 11 p = nI (xd_to (C ps 0 T) p)) → (∀ i, i < mc → K1 12 (mr i) = nI (xk_gq ch i)) → (∀ j, j ≠ 4 → J1 j = J j) → (∀ j, j < 10 ∨ 12 < j → K1 j = K j) → post J1 K1 L1) : sm_X8_place J K L post := by
  obtain ⟨o1, o2, o3, o4, o5, o6, o7, o8, o9, o10, o11, o12, o13, o14⟩ := hok
  obtain ⟨m1, m2, m3, m4, m5, m6, m7⟩ := hM
  have hcode : ∀ p a b, p < 5 → a ≤ b → b ≤ T → xd_code (fun p => xg_wf lk (op p) (cl p)) (fun p => xg_wt lk (op p) (cl p)) p a b ≤ 33 * 2 ^ 40 := fun p a b hp hab hb => (xd_code_le hp (xg_w8 _ _ _).1 (xg_w8 _ _ _).2 (by omega) (by omega)).2
  refine xs_mplace (ps := ps) (op := op) (cl := cl) (hd := hd) (wf := fun p => xg_wf lk (op p) (cl p)) (wt := fun p => xg_wt lk (op p) (cl p)) o2 (fun p hp hb => (o8 p hp hb).2.2.1) ⟨fun p hp hb => ⟨(m3 p hp hb).1, (m3 p hp hb).2.1, (m3 p hp hb).2.2, (o8 p hp hb).1, by have := (o8 p hp hb).2.1; omega⟩, m4⟩ hI hl hT hlt (fun p hp hb => ⟨rfl, rfl⟩) (fun B K1 L1 hB e1 e2 e3 e4 => ?_)
  obtain ⟨q1, q2, -⟩ := xd_eq o2 (fun p q hp hq a b => (o9 p q hp hq a b).2) hB hC hcode (by decide) (by decide) ps o2 (Nat.and_self ps) 0 T (by omega) (Nat.le_refl _)
  have q3 : xa_pop ps * (33 * 2 ^ 40) ≤ 5 * (33 * 2 ^ 40) := Nat.mul_le_mul_right _ (xa_pop5 ps o2)
  have q4 : B ps 0 T < 2 ^ 62 := by omega
  have e3 := e3 q4
  rw [q1] at e1 e3 q4
  refine xs_mmarks (lk := lk) (mc := mc) (T := T) (mr := mr) (mg := mg) (xa_mc3 o3 o4) hT hI m2 (fun w hw => by rw [e4 6 (by decide) (by decide)]; exact hl w hw) hlt (fun i hi => ⟨by rw [e4 5 (by decide) (by decide)]; exact m7 i hi, (o12 i hi).1, by rw [e4 4 (by decide) (by decide)]; exact m5 _ (o12 i hi).1 (o12 i hi).2, by have := (o14 _ (o12 i hi).1 (o12 i hi).2).1; omega⟩) o13 (fun w J2 K2 hf u1 u2 u3 u4 => ?_)
  obtain ⟨s1, s2⟩ := xk_same hk hf
  refine h J2 K2 L1 e1 q4 (by rw [u1, s2]) (fun p hp => by rw [u4 10 (by decide), u4 11 (by decide)]; exact e3 p hp) (fun i hi => by rw [u2 i hi, s1 i hi]) u3 (fun j hj => by rw [u4 j (by omega), e4 j (by omega) (by omega)])
