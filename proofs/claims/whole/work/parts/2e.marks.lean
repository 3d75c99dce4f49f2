/-! ===== marks: the class's row by row, the reference's way by way ===== -/
/-- of the gaps from g to T the least that is nearest: how far, which -/
def xk_best (far : Nat → Nat) (T g m c : Nat) : Prop := g ≤ c ∧ c ≤ T ∧ m = far c ∧ ∀ x, g ≤ x → x ≤ T → m ≤ far x ∧ (far x = m → c ≤ x)
/-- how far in all, from mark i on (d of them) -/
def xk_S (wn x : Nat → Nat) : Nat → Nat → Nat
  | _, 0 => 0
  | i, d + 1 => xd_ab (x i) (wn i) + xk_S wn x (i + 1) d
def xk_rise (mc T : Nat) (x : Nat → Nat) : Prop := (∀ i, i < mc → x i ≤ T) ∧ ∀ i, i + 1 < mc → x i ≤ x (i + 1)
/-- the class's choice, mark by mark -/
def xk_gq (ch : Nat → Nat → Nat) : Nat → Nat
  | 0 => ch 0 0
  | i + 1 => ch (i + 1) (xk_gq ch i)
def xk_bd (x : Nat → Nat) : Nat → Nat
  | 0 => 0
  | i + 1 => x i
def xk_tab (wn : Nat → Nat) (mc T : Nat) (mv ch : Nat → Nat → Nat) : Prop := (∀ g, g ≤ T → mv mc g = 0) ∧ ∀ i, i < mc → ∀ g, g ≤ T → xk_best (fun x => xd_ab x (wn i) + mv (i + 1) x) T g (mv i g) (ch i g)
theorem xk_ge {wn : Nat → Nat} {mc T : Nat} {mv ch : Nat → Nat → Nat} (h : xk_tab wn mc T mv ch) {x : Nat → Nat} (hx : xk_rise mc T x) : ∀ d i, i + d = mc → ∀ b, b ≤ T → (i < mc → b ≤ x i) → mv i b ≤ xk_S wn x i d := by
  intro d
  induction d with
  | zero => intro i hi b hb _; rw [show i = mc by omega, h.1 b hb]; exact Nat.zero_le _
  | succ d ih =>
    intro i hi b hb hbx
    have h1 := (h.2 i (by omega) b hb).2.2.2 (x i) (hbx (by omega)) (hx.1 i (by omega))
    dsimp only at h1
    have h2 := ih (i + 1) (by omega) (x i) (hx.1 i (by omega)) (fun hlt => hx.2 i hlt)
    rw [xk_S]
    have h3 := h1.1
    omega
theorem xk_gq_ok {wn : Nat → Nat} {mc T : Nat} {mv ch : Nat → Nat → Nat} (h : xk_tab wn mc T mv ch) : ∀ i, i < mc → xk_bd (xk_gq ch) i ≤ T ∧ xk_best (fun x => xd_ab x (wn i) + mv (i + 1) x) T (xk_bd (xk_gq ch) i) (mv i (xk_bd (xk_gq ch) i)) (xk_gq ch i) := by
  intro i
  induction i with
  | zero => intro hi; exact ⟨Nat.zero_le _, h.2 0 hi 0 (Nat.zero_le _)⟩
  | succ i ih =>
    intro hi
    have h1 := ih (by omega)
    have h2 : xk_gq ch i ≤ T := h1.2.2.1
    exact ⟨h2, h.2 (i + 1) hi _ h2⟩
theorem xk_gq_rise {wn : Nat → Nat} {mc T : Nat} {mv ch : Nat → Nat → Nat} (h : xk_tab wn mc T mv ch) : xk_rise mc T (xk_gq ch) := ⟨fun i hi => (xk_gq_ok h i hi).2.2.1, fun i hi => (xk_gq_ok h (i + 1) hi).2.1⟩
theorem xk_gq_S {wn : Nat → Nat} {mc T : Nat} {mv ch : Nat → Nat → Nat} (h : xk_tab wn mc T mv ch) : ∀ d i, i + d = mc → 0 < mc → xk_S wn (xk_gq ch) i d = mv i (xk_bd (xk_gq ch) i) := by
  intro d
  induction d with
  | zero =>
    intro i hi hmc
    have : i = mc := by omega
    subst this
    obtain ⟨j, rfl⟩ : ∃ j, i = j + 1 := ⟨i - 1, by omega⟩
    show 0 = mv (j + 1) (xk_gq ch j)
    rw [h.1 _ ((xk_gq_ok h j (by omega)).2.2.1)]
  | succ d ih =>
    intro i hi hmc
    rw [xk_S, ih (i + 1) (by omega) hmc]
    exact (xk_gq_ok h i (by omega)).2.2.2.1.symm
/-- a sequence as far as the class's, and the same before i, has no lesser gap there -/
theorem xk_lex {wn : Nat → Nat} {mc T : Nat} {mv ch : Nat → Nat → Nat} (h : xk_tab wn mc T mv ch) {x : Nat → Nat} (hx : xk_rise mc T x) : ∀ i d, i + d = mc → 0 < d → (∀ j, j < i → x j = xk_gq ch j) → xk_S wn x i d = xk_S wn (xk_gq ch) i d → xk_gq ch i ≤ x i := by
  intro i d hi hd hj hS
  obtain ⟨e, rfl⟩ : ∃ e, d = e + 1 := ⟨d - 1, by omega⟩
  have hok := xk_gq_ok h i (by omega)
  have hb : xk_bd (xk_gq ch) i ≤ x i := by
    cases i with
    | zero => exact Nat.zero_le _
    | succ i => show xk_gq ch i ≤ x (i + 1); rw [← hj i (by omega)]; exact hx.2 i (by omega)
  have h1 := hok.2.2.2.2 (x i) hb (hx.1 i (by omega))
  dsimp only at h1
  have h2 := xk_ge h hx e (i + 1) (by omega) (x i) (hx.1 i (by omega)) (fun hlt => hx.2 i hlt)
  have h3 := xk_gq_S h (e + 1) i hi (by omega)
  rw [h3, xk_S] at hS
  have h4 := h1.1
  exact h1.2 (by omega)
theorem xk_S_pre {wn x y : Nat → Nat} : ∀ k d i, i + k = d → (∀ j, j < k → x j = y j) → (∀ a b, a + b = d → a = k → (xk_S wn x 0 d = xk_S wn y 0 d ↔ xk_S wn x a b = xk_S wn y a b)) := by
  intro k
  induction k with
  | zero => intro d i hi hj a b hab ha; subst ha; rw [show b = d by omega]
  | succ k ih =>
    intro d i hi hj a b hab ha
    have h1 := ih d (i + 1) (by omega) (fun j hjk => hj j (by omega)) k (b + 1) (by omega) rfl
    rw [h1, xk_S, xk_S, hj k (by omega), show a = k + 1 from ha]
    omega
/-- ways by number -/
def xk_wy (n : Nat) (x : Nat → Nat) : Nat → Nat
  | 0 => 0
  | i + 1 => xk_wy n x i * n + x i
def xk_dg (n mc w i : Nat) : Nat := w / n ^ (mc - 1 - i) % n
theorem xk_wy_lt {n : Nat} {x : Nat → Nat} (hn : 0 < n) : ∀ k, (∀ i, i < k → x i < n) → xk_wy n x k < n ^ k
  | 0, _ => by simp [xk_wy]
  | k + 1, h => by
    have h1 := xk_wy_lt hn k (fun i hi => h i (by omega))
    have h2 := h k (by omega)
    rw [xk_wy, Nat.pow_succ]
    have : (xk_wy n x k + 1) * n ≤ n ^ k * n := Nat.mul_le_mul_right n h1
    rw [Nat.add_mul, Nat.one_mul] at this
    omega
theorem xk_wy_dg {n mc w : Nat} (hn : 0 < n) (hw : w < n ^ mc) : ∀ k, k ≤ mc → xk_wy n (xk_dg n mc w) k = w / n ^ (mc - k)
  | 0, _ => by rw [xk_wy, Nat.sub_zero, Nat.div_eq_of_lt hw]
  | k + 1, hk => by
    rw [xk_wy, xk_wy_dg hn hw k (by omega), xk_dg, show mc - (k + 1) = mc - 1 - k by omega]
    have h1 : n ^ (mc - k) = n ^ (mc - 1 - k) * n := by rw [← Nat.pow_succ]; congr 1; omega
    rw [h1, ← Nat.div_div_eq_div_mul]
    have := Nat.div_add_mod (w / n ^ (mc - 1 - k)) n
    rw [Nat.mul_comm] at this
    exact this
theorem xk_wy_div {n : Nat} {x : Nat → Nat} (hn : 0 < n) : ∀ d k, (∀ i, i < k + d → x i < n) → xk_wy n x (k + d) / n ^ d = xk_wy n x k
  | 0, k, _ => by rw [Nat.pow_zero, Nat.div_one]; rfl
  | d + 1, k, h => by
    rw [Nat.pow_succ, Nat.mul_comm, ← Nat.div_div_eq_div_mul, show k + (d + 1) = (k + d) + 1 by omega, xk_wy]
    have h2 := h (k + d) (by omega)
    rw [Nat.mul_comm (xk_wy n x (k + d)) n, Nat.mul_add_div hn, Nat.div_eq_of_lt h2, Nat.add_zero]
    exact xk_wy_div hn d k (fun i hi => h i (by omega))
theorem xk_dg_wy {n mc : Nat} {x : Nat → Nat} (hn : 0 < n) (hx : ∀ i, i < mc → x i < n) {i : Nat} (hi : i < mc) : xk_dg n mc (xk_wy n x mc) i = x i := by
  unfold xk_dg
  have h1 := xk_wy_div (x := x) hn (mc - 1 - i) (i + 1) (fun j hj => hx j (by omega))
  rw [show i + 1 + (mc - 1 - i) = mc by omega] at h1
  rw [h1, xk_wy, Nat.mul_comm, Nat.mul_add_mod, Nat.mod_eq_of_lt (hx i hi)]
theorem xk_wy_mono {n : Nat} {x y : Nat → Nat} {i : Nat} (hj : ∀ j, j < i → x j = y j) (hlt : x i < y i) (hx : ∀ j, x j < n ∨ True) : ∀ k, i < k → (∀ j, j < k → x j < n) → xk_wy n x k < xk_wy n y k
  | 0, h, _ => by omega
  | k + 1, h, hn => by
    by_cases hik : i = k
    · subst hik
      have he : ∀ q, q ≤ i → xk_wy n x q = xk_wy n y q := by
        intro q
        induction q with
        | zero => intro _; rfl
        | succ q ih => intro hq; rw [xk_wy, xk_wy, ih (by omega), hj q (by omega)]
      rw [xk_wy, xk_wy, he i (Nat.le_refl _)]
      omega
    · have h1 := xk_wy_mono hj hlt hx k (by omega) (fun j hjk => hn j (by omega))
      have h2 := hn k (by omega)
      rw [xk_wy, xk_wy]
      have h3 : (xk_wy n x k + 1) * n ≤ xk_wy n y k * n := Nat.mul_le_mul_right n h1
      rw [Nat.add_mul, Nat.one_mul] at h3
      omega
/-- the least way among the nearest -/
def xk_first (wn : Nat → Nat) (mc T w : Nat) : Prop := w < (T + 1) ^ mc ∧ xk_rise mc T (xk_dg (T + 1) mc w) ∧ ∀ w2, w2 < (T + 1) ^ mc → xk_rise mc T (xk_dg (T + 1) mc w2) → xk_S wn (xk_dg (T + 1) mc w) 0 mc ≤ xk_S wn (xk_dg (T + 1) mc w2) 0 mc ∧ (xk_S wn (xk_dg (T + 1) mc w2) 0 mc = xk_S wn (xk_dg (T + 1) mc w) 0 mc → w ≤ w2)
theorem xk_S_congr {wn x y : Nat → Nat} : ∀ d i, (∀ j, i ≤ j → j < i + d → x j = y j) → xk_S wn x i d = xk_S wn y i d
  | 0, _, _ => rfl
  | d + 1, i, h => by rw [xk_S, xk_S, h i (by omega) (by omega), xk_S_congr d (i + 1) (fun j a b => h j (by omega) (by omega))]
theorem xk_same {wn : Nat → Nat} {mc T w : Nat} {mv ch : Nat → Nat → Nat} (h : xk_tab wn mc T mv ch) (hw : xk_first wn mc T w) : (∀ i, i < mc → xk_dg (T + 1) mc w i = xk_gq ch i) ∧ xk_S wn (xk_dg (T + 1) mc w) 0 mc = mv 0 0 := by
  by_cases hmc0 : mc = 0
  · subst hmc0
    exact ⟨fun i hi => by omega, by rw [h.1 0 (Nat.zero_le _)]; rfl⟩
  have hmc : 0 < mc := by omega
  obtain ⟨w1, w2, w3⟩ := hw
  have hgr := xk_gq_rise h
  have hglt : ∀ i, i < mc → xk_gq ch i < T + 1 := fun i hi => by have := hgr.1 i hi; omega
  obtain ⟨u, hu⟩ : ∃ u, u = xk_wy (T + 1) (xk_gq ch) mc := ⟨_, rfl⟩
  have hud : ∀ i, i < mc → xk_dg (T + 1) mc u i = xk_gq ch i := fun i hi => by rw [hu]; exact xk_dg_wy (by omega) hglt hi
  have hult : u < (T + 1) ^ mc := by rw [hu]; exact xk_wy_lt (by omega) mc hglt
  have hur : xk_rise mc T (xk_dg (T + 1) mc u) := ⟨fun i hi => by rw [hud i hi]; exact hgr.1 i hi, fun i hi => by rw [hud i (by omega), hud (i + 1) hi]; exact hgr.2 i hi⟩
  have hSu : xk_S wn (xk_dg (T + 1) mc u) 0 mc = xk_S wn (xk_gq ch) 0 mc := xk_S_congr mc 0 (fun j _ hj => hud j (by omega))
  have h4 := xk_gq_S h mc 0 (by omega) hmc
  have h5 := xk_ge h w2 mc 0 (by omega) 0 (Nat.zero_le _) (fun _ => Nat.zero_le _)
  have h6 := (w3 u hult hur).1
  have h4' : xk_S wn (xk_gq ch) 0 mc = mv 0 0 := h4
  have hSe : xk_S wn (xk_dg (T + 1) mc w) 0 mc = mv 0 0 := by omega
  have hwu : w ≤ u := (w3 u hult hur).2 (by omega)
  have hwe : xk_wy (T + 1) (xk_dg (T + 1) mc w) mc = w := by rw [xk_wy_dg (by omega) w1 mc (Nat.le_refl _), Nat.sub_self, Nat.pow_zero, Nat.div_one]
  refine ⟨?_, hSe⟩
  intro i
  induction i using Nat.strongRecOn with
  | ind i ih =>
    intro hi
    have hle : xk_gq ch i ≤ xk_dg (T + 1) mc w i := by
      refine xk_lex h w2 i (mc - i) (by omega) (by omega) (fun j hj => ih j hj (by omega)) ?_
      exact (xk_S_pre i mc (mc - i) (by omega) (fun j hj => ih j hj (by omega)) i (mc - i) (by omega) rfl).mp (by omega)
    by_cases he : xk_dg (T + 1) mc w i = xk_gq ch i
    · exact he
    · exfalso
      have := xk_wy_mono (n := T + 1) (x := xk_gq ch) (y := xk_dg (T + 1) mc w) (i := i) (fun j hj => (ih j hj (by omega)).symm) (by omega) (fun _ => Or.inr trivial) mc hi hglt
      rw [hwe, ← hu] at this
      omega
-- the class
theorem xs_moves {i T wn : Nat} {mvn : Nat → Nat} {I : xw_I} {F : xw_F} {G : xw_G} {post : xw_I → xw_F → xw_G → Prop} (hi : i < 3) (hT : T ≤ 8) (hwn : wn ≤ 8) (hF : ∀ g, g ≤ T → F 34 ((i + 1) * 9 + g) = nI (mvn g) ∧ mvn g ≤ 100)
    (h : ∀ F1 (mv ch : Nat → Nat), (∀ g, g ≤ T → F1 34 (i * 9 + g) = nI (mv g) ∧ F1 35 (i * 9 + g) = nI (ch g) ∧ xk_best (fun x => xd_ab x wn + mvn x) T g (mv g) (ch g)) → (∀ q, q < i * 9 ∨ i * 9 + 9 ≤ q → F1 34 q = F 34 q ∧ F1 35 q = F 35 q) → (∀ j, j ≠ 34 → j ≠ 35 → F1 j = F j) → post I F1 G) : sm_X0_findMoves (nI i) (nI wn) (nI T) I F G post := by
  intro k10 k54 r10 r54
  unfold bd_X0_findMoves_0
  -- down to g
  have key : ∀ g m c F1 (mv ch : Nat → Nat), g ≤ T + 1 → (g = T + 1 → m = 1048576 ∧ c = T) → (g ≤ T → xk_best (fun x => xd_ab x wn + mvn x) T g m c) → (∀ x, g ≤ x → x ≤ T → F1 34 (i * 9 + x) = nI (mv x) ∧ F1 35 (i * 9 + x) = nI (ch x) ∧ xk_best (fun x => xd_ab x wn + mvn x) T x (mv x) (ch x)) → (∀ q, q < i * 9 ∨ i * 9 + 9 ≤ q → F1 34 q = F 34 q ∧ F1 35 q = F 35 q) → (∀ j, j ≠ 34 → j ≠ 35 → F1 j = F j) → (match g with | 0 => k10 (nI m) (nI c) (-1) I F1 G | x + 1 => k10 (nI m) (nI c) (nI x) I F1 G) := by
    intro g
    induction g with
    | zero =>
      intro m c F1 mv ch _ _ _ v1 v2 v3
      apply r10
      unfold bd_X0_findMoves_10
      exact ⟨fun _ => h F1 mv ch (fun x hx => v1 x (Nat.zero_le _) hx) v2 v3, fun z => absurd (by decide) z⟩
    | succ x ih =>
      intro m c F1 mv ch hg h0 hb v1 v2 v3
      have hm : m ≤ 1048576 := by
        by_cases hgT : x + 1 = T + 1
        · have := (h0 hgT).1; omega
        · obtain ⟨b1, b2, b3, b4⟩ := hb (by omega)
          have : m = xd_ab c wn + mvn c := b3
          have := (hF c b2).2
          unfold xd_ab at *
          omega
      have hc : c ≤ T := by
        by_cases hgT : x + 1 = T + 1
        · have := (h0 hgT).2; omega
        · exact (hb (by omega)).2.1
      apply r10
      unfold bd_X0_findMoves_10
      refine ⟨fun z => absurd z (nI_pos (by omega)), fun _ v ev => ?_⟩
      rw [xc_abs x (by omega) wn (by omega)] at ev
      rw [show (1 : Int32) = nI 1 from rfl, nI_add, show (9 : Int32) = nI 9 from rfl, xn_mul, nI_add]
      refine ⟨vp_in_nI (by omega) (by omega), fun w ew u eu => ?_⟩
      obtain ⟨f1, f2⟩ := hF x (by omega)
      rw [nI_clamp (by omega), (v2 _ (by omega)).1, f1] at ew
      rw [ev, ew, nI_add] at eu
      have hab : xd_ab x wn ≤ 8 := by unfold xd_ab; omega
      -- the store
      have hstore : ∀ m' c', xk_best (fun x => xd_ab x wn + mvn x) T x m' c' → k54 (nI m') (nI c') (nI x) I F1 G := by
        intro m' c' hb'
        apply r54
        unfold bd_X0_findMoves_54
        rw [show (9 : Int32) = nI 9 from rfl, xn_mul, nI_add]
        refine ⟨vp_in_nI (by omega) (by omega), fun F2 e2 => ⟨vp_in_nI (by omega) (by omega), fun F3 e3 t et => ?_⟩⟩
        rw [nI_clamp (by omega)] at e2 e3
        obtain ⟨mv3, hmv3, hmv3n⟩ : ∃ f : Nat → Nat, f x = m' ∧ ∀ y, y ≠ x → f y = mv y := ⟨fun y => if y = x then m' else mv y, if_pos rfl, fun y h => if_neg h⟩
        obtain ⟨ch3, hch3, hch3n⟩ : ∃ f : Nat → Nat, f x = c' ∧ ∀ y, y ≠ x → f y = ch y := ⟨fun y => if y = x then c' else ch y, if_pos rfl, fun y h => if_neg h⟩
        have := ih m' c' F3 mv3 ch3 (by omega) (fun z => by omega) (fun _ => hb') (fun y hy hyT => ?_) (fun q hq => ?_) (fun j a b => ?_)
        · cases x with
          | zero => rw [et]; exact this
          | succ x => rw [et, xn_dec (by omega)]; exact this
        · rw [e3, xw_upn (by decide), xw_ups, e2, xw_ups, xw_upn (by decide)]
          simp only [xb_updi]
          by_cases hyx : y = x
          · subst hyx; rw [if_pos rfl, if_pos rfl, hmv3, hch3]; exact ⟨rfl, rfl, hb'⟩
          · rw [if_neg (by omega), if_neg (by omega), hmv3n y hyx, hch3n y hyx]; exact v1 y (by omega) hyT
        · rw [e3, xw_upn (by decide), xw_ups, e2, xw_ups, xw_upn (by decide)]
          simp only [xb_updi]
          rw [if_neg (by omega), if_neg (by omega)]; exact v2 q hq
        · rw [e3, xw_upn b, e2, xw_upn a]; exact v3 j a b
      rw [eu]
      refine ⟨fun z => ?_, fun z => ?_⟩
      · have z : m < xd_ab x wn + mvn x := (xn_lt (by omega) (by omega)).mp z
        refine hstore m c ?_
        have hgT : x + 1 ≤ T := by
          apply Nat.le_of_not_lt
          intro y
          have := (h0 (by omega)).1
          omega
        obtain ⟨b1, b2, b3, b4⟩ := hb hgT
        refine ⟨by omega, b2, b3, fun y hy hyT => ?_⟩
        by_cases hyx : y = x
        · subst hyx; exact ⟨Nat.le_of_lt z, fun e => by dsimp only at e; omega⟩
        · exact b4 y (by omega) hyT
      · have z : ¬ m < xd_ab x wn + mvn x := fun y => z ((xn_lt (by omega) (by omega)).mpr y)
        refine hstore _ x ?_
        refine ⟨Nat.le_refl _, by omega, rfl, fun y hy hyT => ?_⟩
        by_cases hyx : y = x
        · subst hyx; exact ⟨Nat.le_refl _, fun _ => Nat.le_refl _⟩
        · have b4 := (hb (by omega)).2.2.2 y (by omega) hyT
          exact ⟨by have := b4.1; omega, fun _ => hy⟩
  exact key (T + 1) 1048576 T F (fun _ => 0) (fun _ => 0) (Nat.le_refl _) (fun _ => ⟨rfl, rfl⟩) (fun z => by omega) (fun x hx hxT => by omega) (fun _ _ => ⟨rfl, rfl⟩) (fun _ _ _ => rfl)
def xw_marked (mc : Nat) (mr : Nat → Nat) (mv ch : Nat → Nat → Nat) (I : xw_I) (F : xw_F) : Prop := I 16 = nI (mv 0 0) ∧ ∀ i, i < mc → F 33 (mr i) = nI (xk_gq ch i)
theorem xs_cmarks {mc T : Nat} {mr wn : Nat → Nat} {I : xw_I} {F : xw_F} {G : xw_G} {post : xw_I → xw_F → xw_G → Prop} (hmc : mc ≤ 3) (hT : T ≤ 8) (hI : I 10 = nI mc) (hr : ∀ i, i < mc → F 18 i = nI (mr i) ∧ mr i < 3 ∧ F 24 (mr i) = nI (wn i) ∧ wn i ≤ 8) (hinj : ∀ i j, i < mc → j < mc → mr i = mr j → i = j)
    (h : ∀ mv ch I1 F1, xk_tab wn mc T mv ch → xw_marked mc mr mv ch I1 F1 → (∀ j, j ≠ 16 → I1 j = I j) → (∀ j, j < 33 ∨ 35 < j → F1 j = F j) → post I1 F1 G) : sm_X0_place (nI T) I F G post := by
  intro k3 k40 k86 r3 r40 r86
  unfold bd_X0_place_0
  refine xl_up (fun q Fs => k3 (nI q) I Fs G) 9 (fun q Fs => (∀ g, g < q → Fs 34 (mc * 9 + g) = 0) ∧ ∀ j, j ≠ 34 → Fs j = F j) ?_ ?_ 0 F (by omega) ⟨fun g hg => by omega, fun _ _ => rfl⟩
  · intro q Fs hq hv ih
    apply r3
    unfold bd_X0_place_3
    refine ⟨fun z => absurd ((xn_le (a := 9) (by omega) (by omega)).mp z) (by omega), fun _ => ?_⟩
    rw [hI, show (9 : Int32) = nI 9 from rfl, xn_mul, nI_add]
    refine ⟨vp_in_nI (by omega) (by omega), fun F2 e2 u eu => ?_⟩
    rw [nI_clamp (by omega)] at e2
    rw [eu, nI_1]
    refine ih F2 ⟨fun g hg => ?_, fun j hj => by rw [e2, xw_upn hj]; exact hv.2 j hj⟩
    rw [e2, xw_ups, xb_updi]
    by_cases hgq : g = q
    · rw [if_pos (by omega)]
    · rw [if_neg (by omega)]; exact hv.1 g (by omega)
  · intro Fs hv
    apply r3
    unfold bd_X0_place_3
    refine ⟨fun _ v ev => ?_, fun z => absurd ((xn_le (a := 9) (b := 9) (by omega) (by omega)).mpr (by omega)) z⟩
    rw [hI] at ev
    -- rows from the last mark on
    have key : ∀ (i : Nat) (mv ch : Nat → Nat → Nat) (F1 : xw_F), i ≤ mc → (∀ g, g ≤ T → mv mc g = 0) → (∀ q, i ≤ q → q < mc → ∀ g, g ≤ T → xk_best (fun x => xd_ab x (wn q) + mv (q + 1) x) T g (mv q g) (ch q g)) → (∀ q g, i ≤ q → q ≤ mc → g ≤ T → F1 34 (q * 9 + g) = nI (mv q g) ∧ mv q g ≤ 16 * (mc - q)) → (∀ q g, i ≤ q → q < mc → g ≤ T → F1 35 (q * 9 + g) = nI (ch q g)) → (∀ j, j ≠ 34 → j ≠ 35 → F1 j = F j) → (match i with | 0 => k40 (-1) I F1 G | x + 1 => k40 (nI x) I F1 G) := by
      intro i
      induction i with
      | zero =>
        intro mv ch F1 _ t1 t2 t3 t4 t5
        apply r40
        unfold bd_X0_place_40
        refine ⟨fun _ => ⟨vp_in_nI (n := 0) (by omega) (by omega), fun w ew I1 eI1 => ?_⟩, fun z => absurd (by decide) z⟩
        have hw0 : w = nI (mv 0 0) := by rw [ew]; exact (t3 0 0 (Nat.le_refl _) (Nat.zero_le _) (Nat.zero_le _)).1
        have htab : xk_tab wn mc T mv ch := ⟨t1, fun q hq => t2 q (Nat.zero_le _) hq⟩
        have hI1 : I1 10 = nI mc := by rw [eI1, xw_upn (by decide)]; exact hI
        refine xl_up (fun q F2 => k86 (nI (xk_bd (xk_gq ch) q)) (nI q) I1 F2 G) mc (fun q F2 => (∀ y, y < q → F2 33 (mr y) = nI (xk_gq ch y)) ∧ ∀ j, j ≠ 33 → F2 j = F1 j) ?_ ?_ 0 F1 (Nat.zero_le _) ⟨fun y hy => by omega, fun _ _ => rfl⟩
        · intro q F2 hq hv2 ih2
          apply r86
          unfold bd_X0_place_86
          rw [hI1]
          refine ⟨fun z => absurd ((xn_le (by omega) (by omega)).mp z) (by omega), fun _ => ?_⟩
          have hbd := (xk_gq_ok htab q hq).1
          obtain ⟨r1, r2, r3, r4⟩ := hr q hq
          rw [show (9 : Int32) = nI 9 from rfl, xn_mul, nI_add]
          refine ⟨vp_in_nI (by omega) (by omega), fun w2 ew2 => ⟨vp_in_nI (by omega) (by omega), fun w3 ew3 => ?_⟩⟩
          have hch : w2 = nI (xk_gq ch q) := by
            rw [ew2, nI_clamp (by omega), hv2.2 35 (by decide), t4 q _ (Nat.zero_le _) hq hbd]
            cases q <;> rfl
          rw [nI_clamp (by omega), hv2.2 18 (by decide), t5 18 (by decide) (by decide), r1] at ew3
          subst ew3
          refine ⟨vp_in_nI r2 (by omega), fun F3 e3 u eu => ?_⟩
          rw [nI_clamp (by omega)] at e3
          rw [eu, nI_1, hch]
          refine ih2 F3 ⟨fun y hy => ?_, fun j hj => by rw [e3, xw_upn hj]; exact hv2.2 j hj⟩
          rw [e3, xw_ups, xb_updi]
          by_cases hyq : y = q
          · subst hyq; rw [if_pos rfl, hch]
          · rw [if_neg (fun z => hyq (hinj y q (by omega) hq z))]; exact hv2.1 y (by omega)
        · intro F2 hv2
          apply r86
          unfold bd_X0_place_86
          rw [hI1]
          refine ⟨fun _ => h mv ch I1 F2 htab ⟨by rw [eI1, xw_ups]; exact hw0, hv2.1⟩ (fun j hj => by rw [eI1, xw_upn hj]) (fun j hj => by rw [hv2.2 j (by omega)]; exact t5 j (by omega) (by omega)), fun z => absurd ((xn_le (by omega) (by omega)).mpr (Nat.le_refl _)) z⟩
      | succ x ih =>
        intro mv ch F1 hx t1 t2 t3 t4 t5
        apply r40
        unfold bd_X0_place_40
        refine ⟨fun z => absurd z (nI_pos (by omega)), fun _ => ⟨vp_in_nI (by omega) (by omega), fun w ew => ?_⟩⟩
        obtain ⟨r1, r2, r3, r4⟩ := hr x (by omega)
        rw [nI_clamp (by omega), t5 18 (by decide) (by decide), r1] at ew
        subst ew
        refine ⟨vp_in_nI r2 (by omega), fun w2 ew2 => ?_⟩
        rw [nI_clamp (by omega), t5 24 (by decide) (by decide), r3] at ew2
        subst ew2
        refine xs_moves (mvn := mv (x + 1)) (by omega) hT r4 (fun g hg => ⟨(t3 (x + 1) g (Nat.le_refl _) (by omega) hg).1, by have := (t3 (x + 1) g (Nat.le_refl _) (by omega) hg).2; omega⟩) (fun F2 m2 c2 g1 g2 g3 => ?_)
        intro u eu
        obtain ⟨mv3, hmv3, hmv3n⟩ : ∃ f : Nat → Nat → Nat, (∀ g, f x g = m2 g) ∧ ∀ y, y ≠ x → f y = mv y := ⟨fun y => if y = x then m2 else mv y, fun g => by simp, fun y h => by simp [h]⟩
        obtain ⟨ch3, hch3, hch3n⟩ : ∃ f : Nat → Nat → Nat, (∀ g, f x g = c2 g) ∧ ∀ y, y ≠ x → f y = ch y := ⟨fun y => if y = x then c2 else ch y, fun g => by simp, fun y h => by simp [h]⟩
        have := ih mv3 ch3 F2 (by omega) (fun g hg => by rw [hmv3n mc (by omega)]; exact t1 g hg) (fun q hq hqm g hg => ?_) (fun q g hq hqm hg => ?_) (fun q g hq hqm hg => ?_) (fun j a b => (g3 j a b).trans (t5 j a b))
        · cases x with
          | zero => rw [eu]; exact this
          | succ x => rw [eu, xn_dec (by omega)]; exact this
        · by_cases hqx : q = x
          · subst hqx; rw [hmv3, hch3, hmv3n (q + 1) (by omega)]; exact (g1 g hg).2.2
          · rw [hmv3n q hqx, hch3n q hqx, hmv3n (q + 1) (by omega)]; exact t2 q (by omega) hqm g hg
        · by_cases hqx : q = x
          · subst hqx
            rw [hmv3]
            obtain ⟨z1, z2, z3⟩ := g1 g hg
            refine ⟨z1, ?_⟩
            have e1 : m2 g = xd_ab (c2 g) (wn q) + mv (q + 1) (c2 g) := z3.2.2.1
            have e2 := (t3 (q + 1) (c2 g) (Nat.le_refl _) (by omega) z3.2.1).2
            have e3 := z3.2.1
            have e4 : xd_ab (c2 g) (wn q) ≤ 16 := by unfold xd_ab; omega
            rw [e1, show mc - q = (mc - (q + 1)) + 1 by omega]
            omega
          · rw [hmv3n q hqx, (g2 _ (by omega)).1]; exact t3 q g (by omega) hqm hg
        · by_cases hqx : q = x
          · subst hqx; rw [hch3]; exact (g1 g hg).2.1
          · rw [hch3n q hqx, (g2 _ (by omega)).2]; exact t4 q g (by omega) hqm hg
    have := key mc (fun _ _ => 0) (fun _ _ => 0) Fs (Nat.le_refl _) (fun _ _ => rfl) (fun q h1 h2 => by omega) (fun q g h1 h2 hg => ⟨by rw [show q = mc by omega, hv.1 g (by omega)]; rfl, Nat.zero_le _⟩) (fun q g h1 h2 => by omega) (fun j a b => hv.2 j a)
    cases mc with
    | zero => rw [ev]; exact this
    | succ mc => rw [ev, nI_pred]; exact this
