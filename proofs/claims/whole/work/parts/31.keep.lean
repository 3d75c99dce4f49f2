/-! ===== joining worlds; images, on the machine's side ===== -/
def xj_A (wc : va_W) : Nat → Prop := fun q => ∃ (k : Nat) (e : va_E), wc[k]? = some (q, e)
theorem xj_right {wc wr : va_W} {k : Nat} {q : Nat × va_E} (h : wr[k]? = some q) : (wc ++ wr)[wc.length + k]? = some q := by
  rw [List.getElem?_append_right (by omega), show wc.length + k - wc.length = k by omega]; exact h
theorem xj_left {wc wr : va_W} {k : Nat} {q : Nat × va_E} (h : wc[k]? = some q) : (wc ++ wr)[k]? = some q := by
  have hk : k < wc.length := (List.getElem?_eq_some_iff.mp h).1
  rw [List.getElem?_append_left hk]; exact h
theorem xj_Pl {D : va_G} {cl : List vw_C} {wc wr : va_W} {H : Heap} (h : va_P D cl (wc ++ wr) H) : va_P D cl wc H := fun k q hk => h k q (xj_left hk)
theorem xj_Pr {D : va_G} {cl : List vw_C} {wc wr : va_W} {H : Heap} (h : va_P D cl (wc ++ wr) H) : va_P D cl wr H := fun k q hk => h _ q (xj_right hk)
theorem xj_Dl {A : Nat → Prop} {wc wr : va_W} (h : va_D A (wc ++ wr)) : va_D A wc := ⟨fun i j p q hi hj e => h.1 i j p q (xj_left hi) (xj_left hj) e, fun k q hk => h.2 k q (xj_left hk)⟩
theorem xj_Dr {A : Nat → Prop} {wc wr : va_W} (h : va_D A (wc ++ wr)) : va_D A wr := ⟨fun i j p q hi hj e => by have := h.1 _ _ p q (xj_right hi) (xj_right hj) e; omega, fun k q hk => h.2 _ q (xj_right hk)⟩
theorem xj_self {A : Nat → Prop} {wc : va_W} (h : va_D A wc) : va_D (xj_A wc) wc := ⟨h.1, fun k q hk => ⟨k, q.2, hk⟩⟩
theorem xj_Fr {A : Nat → Prop} {wc wr : va_W} (h : va_D A (wc ++ wr)) : ∀ q, xj_A wc q → A q := fun q hq => by
  obtain ⟨k, e, hk⟩ := hq
  exact h.2 k (q, e) (xj_left hk)
theorem xj_apart {A : Nat → Prop} {wc wr : va_W} (hD : va_D A (wc ++ wr)) {k : Nat} {q : Nat × va_E} (hq : wr[k]? = some q) : ¬ xj_A wc q.1 := by
  rintro ⟨k2, e, hk⟩
  have h1 : k2 < wc.length := (List.getElem?_eq_some_iff.mp hk).1
  have := hD.1 k2 (wc.length + k) (q.1, e) q (xj_left hk) (xj_right hq) rfl
  omega
theorem xj_join {A0 A1 : Nat → Prop} {D : va_G} {cl : List vw_C} {wc wr w1 : va_W} {H H1 : Heap} (hP : va_P D cl (wc ++ wr) H) (hD : va_D A0 (wc ++ wr)) (hA1 : ∀ q, A1 q → q < H.size → xj_A wc q) (hF : ∀ q, A1 q → A0 q) (hk : ∀ q : Nat, q < H.size → ¬ A1 q → H1[q]? = H[q]?) (hP1 : va_P D cl w1 H1) (hD1 : va_D A1 w1) : va_P D cl (w1 ++ wr) H1 ∧ va_D A0 (w1 ++ wr) := by
  have hPr := xj_Pr hP
  have hap : ∀ (k : Nat) (q : Nat × va_E), wr[k]? = some q → ¬ A1 q.1 := fun k q hq h => xj_apart hD hq (hA1 q.1 h ((hPr k q hq).lt))
  exact ⟨hP1.app (hPr.kept (fun k q hq => hk q.1 ((hPr k q hq).lt) (hap k q hq))), va_D.app (hD1.weaken (fun k q _ h => hF q.1 h)) (xj_Dr hD) (fun i j x y hx hy hxy => hap j y hy (by rw [← hxy]; exact hD1.2 i x hx))⟩
theorem xj_Psw {D : va_G} {cl : List vw_C} {w1 w2 : va_W} {H : Heap} (h : va_P D cl (w1 ++ w2) H) : va_P D cl (w2 ++ w1) H := (xj_Pr h).app (xj_Pl h)
theorem xj_Dsw {A : Nat → Prop} {w1 w2 : va_W} (h : va_D A (w1 ++ w2)) : va_D A (w2 ++ w1) := va_D.app (xj_Dr h) (xj_Dl h) (fun i j x y hx hy hxy => xj_apart h hx (by rw [hxy]; exact ⟨j, y.2, hy⟩))
section XJC
variable {p : Program} {l : Launch} {e : Env} {R : Room} {s : State} {m : MethodId} {args : Array Value} {below : List Frame} {meth : Method} {c : Code} {H : Heap} {locs : List Loc} {cells slots : Nat} {Q : State → Prop}
variable {pc : Nat} {ls : Array Slot} {rest st0 : List Value} {a : Array Value} {A0 : Nat → Prop} {H0 : Heap} {D : va_G} {wc wr : va_W}
/-- a call on a part of the world -/
theorem xj_wi {post : Int32 → xw_I → xw_F → xw_G → Prop} {wf : xw_I → xw_F → xw_G → va_W} (hP : va_P D vwCl (wc ++ wr) H) (hD : va_D A0 (wc ++ wr)) (hr : va_Run p l e R s m args below meth c H locs cells slots 0 0 (F0 m pc ls st0) rest (xw_Qi D wf post (xj_A wc) a) (xj_A wc)) (hS : va_S A0 H0 H locs)
    (kk : ∀ (r : Int32) (I1 : xw_I) (F1 : xw_F) (G1 : xw_G) (H1 : Heap) (locs1 : List Loc), post r I1 F1 G1 → va_P D vwCl (wf I1 F1 G1 ++ wr) H1 → va_D A0 (wf I1 F1 G1 ++ wr) → va_S A0 H0 H1 locs1 → W p l e R s m args below meth c H1 locs1 cells slots Q (F0 m (pc + 3) ls (.int r :: rest))) : W p l e R s m args below meth c H locs cells slots Q (F0 m pc ls st0) :=
  va_calli (S := xw_S) (post := fun r u => post r u.1 u.2.1 u.2.2) (B := fun u t => va_P D vwCl (wf u.1 u.2.1 u.2.2) t.heap ∧ va_D (xj_A wc) (wf u.1 u.2.1 u.2.2)) (A1 := xj_A wc) (a := a) hr hS (fun q _ h => xj_Fr hD q h) (fun q h => xj_Fr hD q h) (fun r u t H1 locs1 ht hvm hw hB hz1 hk1 hS1 => by
    obtain ⟨g1, g2⟩ := xj_join hP hD (fun q h _ => h) (xj_Fr hD) hk1 (by rw [← ht]; exact hB.1) hB.2
    exact kk r u.1 u.2.1 u.2.2 H1 locs1 hw g1 g2 hS1)
theorem xj_wv {post : xw_I → xw_F → xw_G → Prop} {wf : xw_I → xw_F → xw_G → va_W} (hP : va_P D vwCl (wc ++ wr) H) (hD : va_D A0 (wc ++ wr)) (hr : va_Run p l e R s m args below meth c H locs cells slots 0 0 (F0 m pc ls st0) rest (xw_Qv D wf post (xj_A wc) a) (xj_A wc)) (hS : va_S A0 H0 H locs)
    (kk : ∀ (I1 : xw_I) (F1 : xw_F) (G1 : xw_G) (H1 : Heap) (locs1 : List Loc), post I1 F1 G1 → va_P D vwCl (wf I1 F1 G1 ++ wr) H1 → va_D A0 (wf I1 F1 G1 ++ wr) → va_S A0 H0 H1 locs1 → W p l e R s m args below meth c H1 locs1 cells slots Q (F0 m (pc + 3) ls rest)) : W p l e R s m args below meth c H locs cells slots Q (F0 m pc ls st0) :=
  va_callv (S := xw_S) (post := fun u => post u.1 u.2.1 u.2.2) (B := fun u t => va_P D vwCl (wf u.1 u.2.1 u.2.2) t.heap ∧ va_D (xj_A wc) (wf u.1 u.2.1 u.2.2)) (A1 := xj_A wc) (a := a) hr hS (fun q _ h => xj_Fr hD q h) (fun q h => xj_Fr hD q h) (fun u t H1 locs1 ht hvm hw hB hz1 hk1 hS1 => by
    obtain ⟨g1, g2⟩ := xj_join hP hD (fun q h _ => h) (xj_Fr hD) hk1 (by rw [← ht]; exact hB.1) hB.2
    exact kk u.1 u.2.1 u.2.2 H1 locs1 hw g1 g2 hS1)
end XJC
/-- one Sentences -/
def xK_w (cy : Nat → ClassId) (b : Nat → Nat) (i : xw_I) (r : xw_F) : va_W := [(b 0, .inr (3, [.ref (b 1), .ref (b 9), .int (i 5)])), (b 1, .inr (4, [.int (i 0), .int (i 1), .int (i 2), .int (i 3), .int (i 4), .ref (b 2), .ref (b 3), .ref (b 4), .ref (b 5), .ref (b 6), .ref (b 7), .ref (b 8)])), (b 2, .inl (cy 0, 5, .inl (r 0))), (b 3, .inl (cy 0, 5, .inl (r 1))), (b 4, .inl (cy 0, 5, .inl (r 2))), (b 5, .inl (cy 0, 5, .inl (r 3))), (b 6, .inl (cy 0, 3, .inl (r 4))), (b 7, .inl (cy 0, 3, .inl (r 5))), (b 8, .inl (cy 0, 5, .inl (r 6))), (b 9, .inl (cy 0, 12, .inl (r 7)))]
theorem xK_cg {cy : Nat → ClassId} {b b1 : Nat → Nat} {i i1 : xw_I} {r r1 : xw_F} (hb : ∀ k, k < 10 → b1 k = b k) (hi : ∀ k, k < 6 → i1 k = i k) (hr : ∀ k, k < 8 → r1 k = r k) : xK_w cy b1 i1 r1 = xK_w cy b i r := by
  unfold xK_w
  rw [hb 0 (by decide), hb 1 (by decide), hb 2 (by decide), hb 3 (by decide), hb 4 (by decide), hb 5 (by decide), hb 6 (by decide), hb 7 (by decide), hb 8 (by decide), hb 9 (by decide), hi 0 (by decide), hi 1 (by decide), hi 2 (by decide), hi 3 (by decide), hi 4 (by decide), hi 5 (by decide), hr 0 (by decide), hr 1 (by decide), hr 2 (by decide), hr 3 (by decide), hr 4 (by decide), hr 5 (by decide), hr 6 (by decide), hr 7 (by decide)]
theorem xj_ap {a b c d : va_W} (h1 : a = b) (h2 : c = d) : a ++ c = b ++ d := by rw [h1, h2]
theorem xT_cut {cy : Nat → ClassId} {a : Nat → Nat} {I : xw_I} {F : xw_F} {G : xw_G} : xT_w cy a I F G = xK_w cy a I (fun k => F (2 + k)) ++ xK_w cy (fun k => a (10 + k)) (fun k => I (6 + k)) (fun k => F (12 + k)) := rfl
/-- the class's cells, without those of 'now', and the row of images -/
def xR_w (cy : Nat → ClassId) (a : Nat → Nat) (I : xw_I) (F : xw_F) (G : xw_G) (f : Nat → Option Nat) : va_W := [(a 0, .inr (7, [.ref (a 1), .ref (a 11), .ref (a 39), .ref (a 21), .ref (a 25), .ref (a 32), .ref (a 36), .int (I 0)])), (a 1, .inr (1, [.ref (a 2), .int (I 1), .ref (a 10)])), (a 2, .inr (4, [.int (I 2), .int (I 3), .int (I 4), .int (I 5), .int (I 6), .ref (a 3), .ref (a 4), .ref (a 5), .ref (a 6), .ref (a 7), .ref (a 8), .ref (a 9)])), (a 3, .inl (cy 0, 5, .inl (F 3))), (a 4, .inl (cy 0, 5, .inl (F 4))), (a 5, .inl (cy 0, 5, .inl (F 5))), (a 6, .inl (cy 0, 5, .inl (F 6))), (a 7, .inl (cy 0, 3, .inl (F 7))), (a 8, .inl (cy 0, 3, .inl (F 8))), (a 9, .inl (cy 0, 5, .inl (F 9))), (a 10, .inl (cy 0, 30, .inl (F 10))), (a 21, .inr (5, [.ref (a 22), .ref (a 23), .ref (a 24), .int (I 13)])), (a 22, .inl (cy 0, 5, .inl (F 22))), (a 23, .inl (cy 0, 5, .inl (F 23))), (a 24, .inl (cy 0, 3, .inl (F 24))), (a 25, .inr (2, [.ref (a 26), .ref (a 27), .ref (a 28), .int (I 14), .ref (a 29), .ref (a 30), .ref (a 31), .int (I 15)])), (a 26, .inl (cy 0, 5, .inl (F 26))), (a 27, .inl (cy 0, 5, .inl (F 27))), (a 28, .inl (cy 0, 5, .inl (F 28))), (a 29, .inl (cy 1, 405, .inr (.inl (G 29)))), (a 30, .inl (cy 1, 2592, .inr (.inl (G 30)))), (a 31, .inl (cy 0, 32, .inl (F 31))), (a 32, .inr (0, [.ref (a 33), .int (I 16), .ref (a 34), .ref (a 35)])), (a 33, .inl (cy 0, 3, .inl (F 33))), (a 34, .inl (cy 0, 36, .inl (F 34))), (a 35, .inl (cy 0, 27, .inl (F 35))), (a 36, .inr (6, [.ref (a 37), .int (I 17), .ref (a 38)])), (a 37, .inl (cy 0, 21, .inl (F 37))), (a 38, .inl (cy 0, 5, .inl (F 38))), xC_im cy a f]
theorem xi_eq.to2 {i i1 i2 : xw_I} {r r1 r2 : xw_F} (h : xi_eq i i1 r r1) (hi : ∀ k, k < 6 → i2 k = i1 k) (hr : ∀ k, k < 8 → r2 k = r1 k) : xi_eq i i2 r r2 := by
  obtain ⟨h1, h2, h3, h4⟩ := h
  exact ⟨fun k hk => (hi k hk).trans (h1 k hk), fun k hk q hq => by rw [hr k (by omega)]; exact h2 k hk q hq, fun q hq => by rw [hr 4 (by omega), hr 5 (by omega)]; exact h3 q hq, fun q hq => by rw [hr 7 (by omega)]; exact h4 q hq⟩
def x2_a (b c : Nat → Nat) : Nat → Nat := fun k => if k < 10 then b k else c (k - 10)
def x2_I (i j : xw_I) : xw_I := fun k => if k < 6 then i k else j (k - 6)
def x2_F (r q : xw_F) : xw_F := fun k => if k < 10 then r (k - 2) else q (k - 12)
theorem x2_w {cy : Nat → ClassId} {b c : Nat → Nat} {i j : xw_I} {r q : xw_F} {G : xw_G} : xT_w cy (x2_a b c) (x2_I i j) (x2_F r q) G = xK_w cy b i r ++ xK_w cy c j q := by
  rw [xT_cut]
  refine xj_ap ?_ ?_
  · refine xK_cg (fun k hk => if_pos hk) (fun k hk => if_pos hk) (fun k hk => ?_)
    show (if 2 + k < 10 then r (2 + k - 2) else _) = r k
    rw [if_pos (by omega), show 2 + k - 2 = k by omega]
  · refine xK_cg (fun k hk => ?_) (fun k hk => ?_) (fun k hk => ?_)
    · show (if 10 + k < 10 then _ else c (10 + k - 10)) = c k
      rw [if_neg (by omega), show 10 + k - 10 = k by omega]
    · show (if 6 + k < 6 then _ else j (6 + k - 6)) = j k
      rw [if_neg (by omega), show 6 + k - 6 = k by omega]
    · show (if 12 + k < 10 then _ else q (12 + k - 12)) = q k
      rw [if_neg (by omega), show 12 + k - 12 = k by omega]
theorem x2_j {i j : xw_I} : (fun k => x2_I i j (6 + k)) = j := funext (fun k => by
  show (if 6 + k < 6 then _ else j (6 + k - 6)) = j k
  rw [if_neg (by omega), show 6 + k - 6 = k by omega])
theorem x2_q {r q : xw_F} : (fun k => x2_F r q (12 + k)) = q := funext (fun k => by
  show (if 12 + k < 10 then _ else q (12 + k - 12)) = q k
  rw [if_neg (by omega), show 12 + k - 12 = k by omega])
theorem x2_back {cy : Nat → ClassId} {b c : Nat → Nat} {i j I1 : xw_I} {r q F1 : xw_F} {G : xw_G} (h2 : ∀ k, 6 ≤ k → I1 k = x2_I i j k) (h3 : ∀ k, 10 ≤ k → F1 k = x2_F r q k) : xT_w cy (x2_a b c) I1 F1 G = xK_w cy b I1 (fun k => F1 (2 + k)) ++ xK_w cy c j q := by
  rw [xT_cut]
  refine xj_ap ?_ ?_
  · exact xK_cg (fun k hk => if_pos hk) (fun k hk => rfl) (fun k hk => rfl)
  · refine xK_cg (fun k hk => ?_) (fun k hk => ?_) (fun k hk => ?_)
    · show (if 10 + k < 10 then _ else c (10 + k - 10)) = c k
      rw [if_neg (by omega), show 10 + k - 10 = k by omega]
    · exact (h2 (6 + k) (by omega)).trans (congrFun (x2_j (i := i) (j := j)) k)
    · exact (h3 (12 + k) (by omega)).trans (congrFun (x2_q (r := r) (q := q)) k)
/-- the copy, of two Sentences by themselves -/
theorem x2_copy (l : Launch) (D : va_G) (cy : Nat → ClassId) (b c : Nat → Nat) (i j : xw_I) (r q : xw_F) (A : Nat → Prop) : Met l yX3_copy wsX3_copy ({ frames := 1, cells := 0, slots := 0, locals := 22 }) (va_Pc [.ref (b 0), .ref (c 0)] (xw_P D cy A (xK_w cy b i r ++ xK_w cy c j q))) (xw_Qv D (xT_w cy (x2_a b c)) (fun I1 F1 _ => xi_eq j I1 q (fun k => F1 (2 + k)) ∧ (∀ k, 6 ≤ k → I1 k = x2_I i j k) ∧ ∀ k, 10 ≤ k → F1 k = x2_F r q k) A) 0 0 A := by
  have h := c_X3_copyT l D cy (x2_a b c) (x2_I i j) (x2_F r q) (fun _ _ => 0) (fun I1 F1 _ => xi_eq j I1 q (fun k => F1 (2 + k)) ∧ (∀ k, 6 ≤ k → I1 k = x2_I i j k) ∧ ∀ k, 10 ≤ k → F1 k = x2_F r q k) (xs_copyT (fun I1 F1 h1 h2 h3 => ⟨by rw [x2_j, x2_q] at h1; exact h1, h2, h3⟩)) A
  rw [x2_w] at h
  exact h
theorem mX7_image_1 : Cond.fieldLink RX7 23 "TagCarrier" "images" "[LTagCarrier$Sentences;" ∈ wsX7_image := List.mem_of_getElem? (i := 1) rfl
theorem mX7_image_2 : Cond.classLink RX7 16 RX3 ∈ wsX7_image := List.mem_of_getElem? (i := 2) rfl
theorem mX7_image_3 : Cond.instantiable RX3 3 ∈ wsX7_image := List.mem_of_getElem? (i := 3) rfl
theorem mX7_image_4 : Cond.initialized RX3 ∈ wsX7_image := List.mem_of_getElem? (i := 4) rfl
theorem mX7_image_5 : Cond.fieldLink RX7 19 "TagCarrier" "now" "LTagCarrier$Sentences;" ∈ wsX7_image := List.mem_of_getElem? (i := 5) rfl
theorem mX7_image_6 : Cond.instanceMethod yX3_init ∈ wsX7_image := List.mem_of_getElem? (i := 6) rfl
theorem mX7_image_inX7 : ∀ w ∈ u_ws RX7 TX7 8, w ∈ wsX7_image := by decide +kernel
theorem mX7_image_inX3 : ∀ w ∈ u_ws RX3 TX3 3, w ∈ wsX7_image := by decide +kernel
theorem mX7_restore_1 : Cond.fieldLink RX7 23 "TagCarrier" "images" "[LTagCarrier$Sentences;" ∈ wsX7_restore := List.mem_of_getElem? (i := 1) rfl
theorem mX7_restore_2 : Cond.fieldLink RX7 19 "TagCarrier" "now" "LTagCarrier$Sentences;" ∈ wsX7_restore := List.mem_of_getElem? (i := 2) rfl
theorem mX7_restore_3 : Cond.fieldLink RX7 55 "TagCarrier" "stale" "Z" ∈ wsX7_restore := List.mem_of_getElem? (i := 3) rfl
theorem mX7_restore_inX7 : ∀ w ∈ u_ws RX7 TX7 8, w ∈ wsX7_restore := by decide +kernel
theorem c_X7_imageX (l : Launch) (D : va_G) (cy : Nat → ClassId) (a : Nat → Nat) (x : Int32) (I : xw_I) (F : xw_F) (G : xw_G) (hxx : ∀ w, w ≤ 1 → x ≠ nI w) : xw_Ri l yX7_image wsX7_image ({ frames := 0, cells := 0, slots := 0, locals := 0 }) D cy [.ref (a 0), .int x] (xC_w cy a I F G) (fun v => v = -2) := by
  intro A
  refine Met.ofW (cc := cX7_image) (maxL := 3) (ret := (some .int)) (by decide) rfl ?_
  intro p e s m args below meth c s₁ B hml hv
  obtain ⟨rfl, hP, hB, hD⟩ := hv
  have hx := B.exec
  have hb := B.bytes
  have hr := B.returns
  have hts := atoms_spec (ws := wsX7_image) B.pre
  have hown : s.vm.findClass RX7 = some m.cls := findClass_of_methodNamed B.named
  have hlocks := B.notSynchronized
  have hl := lv_entry ([.ref (a 0), .int x]) (n := 3) (Nat.le_of_ble_eq_true rfl)
  rw [lg_entry_eq]
  generalize (lg_sl ([.ref (a 0), .int x]) ++ List.replicate (3 - (lg_sl ([.ref (a 0), .int x])).length) Slot.unset).toArray = ls at hl ⊢
  have hl : lv_has ls 3 [(0, .ref (a 0)), (1, .int x)] := hl
  refine lv_iload_n hx hb dX7_image_0 rfl (lv_at hl 1 rfl) ?_
  refine lv_if_lt (tgt := 9) hx hb dX7_image_1 (by decide) (fun _ => ?_) (fun c1 => ?_)
  · refine lv_bipush (v := -2) hx hb dX7_image_9 (by decide) ?_
    exact xw_ireti hx hb hr hlocks rfl dX7_image_11
  · refine lv_iload_n hx hb dX7_image_4 rfl (lv_at hl 1 rfl) ?_
    refine lv_iconst (v := 2) hx hb dX7_image_5 (by decide) ?_
    refine lv_icmp_lt (tgt := 12) hx hb dX7_image_6 (by decide) (fun c2 => ?_) (fun _ => ?_)
    · obtain ⟨k, hk, rfl⟩ := nI_of c1
      exact absurd rfl (hxx k (by have := (xn_lt (a := k) (b := 2) hk (by omega)).mp c2; omega))
    · refine lv_bipush (v := -2) hx hb dX7_image_9 (by decide) ?_
      exact xw_ireti hx hb hr hlocks rfl dX7_image_11
theorem c_X7_restoreX (l : Launch) (D : va_G) (cy : Nat → ClassId) (a : Nat → Nat) (x : Int32) (I : xw_I) (F : xw_F) (G : xw_G) (hxx : ∀ w, w ≤ 1 → x ≠ nI w) : xw_Ri l yX7_restore wsX7_restore ({ frames := 0, cells := 0, slots := 0, locals := 0 }) D cy [.ref (a 0), .int x] (xC_w cy a I F G) (fun v => v = -2) := by
  intro A
  refine Met.ofW (cc := cX7_restore) (maxL := 3) (ret := (some .int)) (by decide) rfl ?_
  intro p e s m args below meth c s₁ B hml hv
  obtain ⟨rfl, hP, hB, hD⟩ := hv
  have hx := B.exec
  have hb := B.bytes
  have hr := B.returns
  have hts := atoms_spec (ws := wsX7_restore) B.pre
  have hown : s.vm.findClass RX7 = some m.cls := findClass_of_methodNamed B.named
  have hlocks := B.notSynchronized
  have hl := lv_entry ([.ref (a 0), .int x]) (n := 3) (Nat.le_of_ble_eq_true rfl)
  rw [lg_entry_eq]
  generalize (lg_sl ([.ref (a 0), .int x]) ++ List.replicate (3 - (lg_sl ([.ref (a 0), .int x])).length) Slot.unset).toArray = ls at hl ⊢
  have hl : lv_has ls 3 [(0, .ref (a 0)), (1, .int x)] := hl
  refine lv_iload_n hx hb dX7_restore_0 rfl (lv_at hl 1 rfl) ?_
  refine lv_if_lt (tgt := 9) hx hb dX7_restore_1 (by decide) (fun _ => ?_) (fun c1 => ?_)
  · refine lv_bipush (v := -2) hx hb dX7_restore_9 (by decide) ?_
    exact xw_ireti hx hb hr hlocks rfl dX7_restore_11
  · refine lv_iload_n hx hb dX7_restore_4 rfl (lv_at hl 1 rfl) ?_
    refine lv_iconst (v := 2) hx hb dX7_restore_5 (by decide) ?_
    refine lv_icmp_lt (tgt := 12) hx hb dX7_restore_6 (by decide) (fun c2 => ?_) (fun _ => ?_)
    · obtain ⟨k, hk, rfl⟩ := nI_of c1
      exact absurd rfl (hxx k (by have := (xn_lt (a := k) (b := 2) hk (by omega)).mp c2; omega))
    · refine lv_bipush (v := -2) hx hb dX7_restore_9 (by decide) ?_
      exact xw_ireti hx hb hr hlocks rfl dX7_restore_11

set_option maxHeartbeats 4000000 in
set_option maxRecDepth 100000 in
theorem xi_tail {p : Program} {l : Launch} {e : Env} {R : Room} {s : State} {m : MethodId} {args : Array Value} {below : List Frame} {meth : Method} {c : Code} {H H0 : Heap} {locs : List Loc} {cells slots : Nat} {Q : State → Prop} {ls : Array Slot} {A : Nat → Prop} {D : va_G} {cy : Nat → ClassId} {a b : Nat → Nat} {I : xw_I} {F : xw_F} {G : xw_G} {f : Nat → Option Nat} {i : xw_I} {r : xw_F} {v : Int32} (hR1 : 2 ≤ R.frames) (hR2 : 60 ≤ R.locals) (hR3 : cells + 0 ≤ R.cells ∧ slots + 0 ≤ R.slots) (hx : p.tables.exec = Jvm.exec) (hb : c.code = cX7_image) (hml : c.maxLocals = 3) (hown : s.vm.findClass RX7 = some m.cls) (hts : ∀ w ∈ wsX7_image, w.before args s = true) (hB : xw_B D cy s) (hl : lv_has ls 3 [(2, .ref (b 0)), (0, .ref (a 0)), (1, .int v)])
    (hP : va_P D vwCl (xC_w cy a I F G ++ (xC_im cy a f :: xK_w cy b i r)) H) (hD : va_D A (xC_w cy a I F G ++ (xC_im cy a f :: xK_w cy b i r))) (hS : va_S A H0 H locs)
    (kk : ∀ (i1 : xw_I) (r1 : xw_F) (H1 : Heap) (locs1 : List Loc), xi_eq (fun k => I (7 + k)) i1 (fun k => F (13 + k)) r1 → va_P D vwCl (xC_w cy a I F G ++ (xC_im cy a f :: xK_w cy b i1 r1)) H1 → va_D A (xC_w cy a I F G ++ (xC_im cy a f :: xK_w cy b i1 r1)) → va_S A H0 H1 locs1 → W p l e R s m args below meth c H1 locs1 cells slots Q (F0 m 46 ls [])) : W p l e R s m args below meth c H locs cells slots Q (F0 m 38 ls []) := by
  refine lv_aload_n hx hb dX7_image_38 rfl (lv_at hl 0 rfl) ?_
  refine lv_aload_n hx hb dX7_image_39 rfl (lv_at hl 1 rfl) ?_
  refine va_get (D := D) (ci := 7) (v := .ref (a 11)) (C := RX7) (T := TX7) (N := 8) hx hb hts mX7_image_inX7 hown hB.1 hP 0 rfl rfl 1 (by decide) (hts _ mX7_image_5) (fun _ h9 => h9) rfl dX7_image_40 ?_
  have hP := hP.sub (ws' := (xK_w cy b i r ++ xK_w cy (fun k => a (11 + k)) (fun k => I (7 + k)) (fun k => F (13 + k))) ++ xR_w cy a I F G f) [40, 41, 42, 43, 44, 45, 46, 47, 48, 49, 11, 12, 13, 14, 15, 16, 17, 18, 19, 20, 0, 1, 2, 3, 4, 5, 6, 7, 8, 9, 10, 21, 22, 23, 24, 25, 26, 27, 28, 29, 30, 31, 32, 33, 34, 35, 36, 37, 38, 39] rfl
  have hD := hD.sub (ws' := (xK_w cy b i r ++ xK_w cy (fun k => a (11 + k)) (fun k => I (7 + k)) (fun k => F (13 + k))) ++ xR_w cy a I F G f) [40, 41, 42, 43, 44, 45, 46, 47, 48, 49, 11, 12, 13, 14, 15, 16, 17, 18, 19, 20, 0, 1, 2, 3, 4, 5, 6, 7, 8, 9, 10, 21, 22, 23, 24, 25, 26, 27, 28, 29, 30, 31, 32, 33, 34, 35, 36, 37, 38, 39] (by decide) rfl
  refine xj_wv hP hD (va_runV (rm := { frames := 1, cells := 0, slots := 0, locals := 22 }) (As := [.ref (a 11)]) (rest := []) ⟨hx, hb, hml, hown, hts⟩ (x2_copy l D cy b (fun k => a (11 + k)) i (fun k => I (7 + k)) r (fun k => F (13 + k)) (xj_A (xK_w cy b i r ++ xK_w cy (fun k => a (11 + k)) (fun k => I (7 + k)) (fun k => F (13 + k))))) (cwV 1 hts gX7_image_X3_copy rfl rfl rfl (by decide +kernel) ⟨by show 1 + 1 ≤ R.frames; omega, by show 8 + (3 + 11) + 22 ≤ R.locals; omega⟩) (xw_preV (b := b 0) hB (xj_Pl hP) (xj_self (xj_Dl hD)) (ci := 3) (q0 := 0) rfl rfl) rfl rfl hl.1 rfl (lv_room (Nat.le_of_ble_eq_true rfl)) dX7_image_43 hR3) hS (fun I1 F1 G1 H locs h hP hD hS => ?_)
  obtain ⟨h1, h2, h3⟩ := h
  rw [x2_back h2 h3] at hP hD
  exact kk I1 (fun k => F1 (2 + k)) H locs h1 (hP.sub [20, 21, 22, 23, 24, 25, 26, 27, 28, 29, 30, 10, 11, 12, 13, 14, 15, 16, 17, 18, 19, 31, 32, 33, 34, 35, 36, 37, 38, 39, 40, 41, 42, 43, 44, 45, 46, 47, 48, 49, 0, 1, 2, 3, 4, 5, 6, 7, 8, 9] rfl) (hD.sub [20, 21, 22, 23, 24, 25, 26, 27, 28, 29, 30, 10, 11, 12, 13, 14, 15, 16, 17, 18, 19, 31, 32, 33, 34, 35, 36, 37, 38, 39, 40, 41, 42, 43, 44, 45, 46, 47, 48, 49, 0, 1, 2, 3, 4, 5, 6, 7, 8, 9] (by decide) rfl) hS
set_option maxHeartbeats 4000000 in
set_option maxRecDepth 100000 in
theorem c_X7_imageS (l : Launch) (D : va_G) (cy : Nat → ClassId) (a b : Nat → Nat) {n : Nat} (hn : n < 2) (I : xw_I) (F : xw_F) (G : xw_G) (f : Nat → Option Nat) (i : xw_I) (r : xw_F) (hf : f n = some (b 0)) : xw_Wi l yX7_image wsX7_image ({ frames := 2, cells := 0, slots := 0, locals := 60 }) D cy [.ref (a 0), .int (nI n)] (xC_w cy a I F G ++ (xC_im cy a f :: xK_w cy b i r)) (fun i1 r1 _ => xC_w cy a I F G ++ (xC_im cy a f :: xK_w cy b i1 r1)) (fun v i1 r1 _ => v = 1 ∧ xi_eq (fun k => I (7 + k)) i1 (fun k => F (13 + k)) r1) := by
  intro A
  refine Met.ofW (cc := cX7_image) (maxL := 3) (ret := (some .int)) (by decide) rfl ?_
  intro p e s m args below meth c s₁ B hml hv
  obtain ⟨rfl, hP, hB, hD⟩ := hv
  have hx := B.exec
  have hb := B.bytes
  have hr := B.returns
  have hts := atoms_spec (ws := wsX7_image) B.pre
  have hown : s.vm.findClass RX7 = some m.cls := findClass_of_methodNamed B.named
  have hlocks := B.notSynchronized
  have hl := lv_entry ([.ref (a 0), .int (nI n)]) (n := 3) (Nat.le_of_ble_eq_true rfl)
  rw [lg_entry_eq]
  generalize (lg_sl ([.ref (a 0), .int (nI n)]) ++ List.replicate (3 - (lg_sl ([.ref (a 0), .int (nI n)])).length) Slot.unset).toArray = ls at hl ⊢
  have hl : lv_has ls 3 [(0, .ref (a 0)), (1, .int (nI n))] := hl
  have hS : va_S A s.heap s.heap [] := va_S.rf
  refine lv_iload_n hx hb dX7_image_0 rfl (lv_at hl 1 rfl) ?_
  refine lv_if_lt (tgt := 9) hx hb dX7_image_1 (by decide) (fun z => absurd z (nI_pos (by omega))) (fun _ => ?_)
  refine lv_iload_n hx hb dX7_image_4 rfl (lv_at hl 1 rfl) ?_
  refine lv_iconst (v := 2) hx hb dX7_image_5 (by decide) ?_
  refine lv_icmp_lt (tgt := 12) hx hb dX7_image_6 (by decide) (fun _ => ?_) (fun z => absurd ((xn_lt (a := n) (b := 2) (by omega) (by omega)).mpr hn) z)
  refine lv_aload_n hx hb dX7_image_12 rfl (lv_at hl 0 rfl) ?_
  refine va_get (D := D) (ci := 7) (v := .ref (a 39)) (C := RX7) (T := TX7) (N := 8) hx hb hts mX7_image_inX7 hown hB.1 hP 0 rfl rfl 2 (by decide) (hts _ mX7_image_1) (fun _ h9 => h9) rfl dX7_image_13 ?_
  refine lv_iload_n hx hb dX7_image_16 rfl (lv_at hl 1 rfl) ?_
  refine va_aldq (a := a 39) hx hb hB.1 hP 39 3 rfl rfl (vp_in_nI hn (by omega)) dX7_image_17 ?_
  rw [nI_clamp (by omega), hf]
  refine lv_astore_n (x := b 0) (lv' := [(2, .ref (b 0)), (0, .ref (a 0)), (1, .int (nI n))]) hx hb dX7_image_18 rfl hl (by decide) rfl (fun ls hl => ?_)
  refine lv_aload_n hx hb dX7_image_19 rfl (lv_at hl 0 rfl) ?_
  refine lv_ifnonnull (tgt := 38) hx hb dX7_image_20 (by decide) ?_
  refine xi_tail (by decide) (by decide) ⟨Nat.le_of_ble_eq_true rfl, Nat.le_of_ble_eq_true rfl⟩ hx hb hml hown hts hB hl hP hD hS (fun i1 r1 H locs h hP hD hS => ?_)
  refine lv_iconst (v := 1) hx hb dX7_image_46 (by decide) ?_
  exact xw_wreti (wf := fun i1 r1 _ => xC_w cy a I F G ++ (xC_im cy a f :: xK_w cy b i1 r1)) (G1 := fun _ _ => 0) hx hb hr hlocks hP hD hS ⟨rfl, h⟩ dX7_image_47
set_option maxHeartbeats 4000000 in
set_option maxRecDepth 100000 in
theorem c_X7_imageN (l : Launch) (D : va_G) (cy : Nat → ClassId) (a : Nat → Nat) (sz : Nat) {n : Nat} (hn : n < 2) (I : xw_I) (F : xw_F) (G : xw_G) (f : Nat → Option Nat) (hf : f n = none) : Met l yX7_image wsX7_image ({ frames := 4, cells := 10, slots := 58, locals := 100 }) (va_Pc [.ref (a 0), .int (nI n)] (xw_PC D cy sz (xC_w cy a I F G ++ [xC_im cy a f]))) (va_Qi (S := (Nat → Nat) × xw_I × xw_F) (fun v u => v = 1 ∧ xi_eq (fun k => I (7 + k)) u.2.1 (fun k => F (13 + k)) u.2.2) (fun u t => va_P D vwCl (xC_w cy a I F G ++ (xC_im cy a (va_up f n (some (u.1 0))) :: xK_w cy u.1 u.2.1 u.2.2)) t.heap ∧ va_D (va_A (xC_w cy a I F G ++ [xC_im cy a f]) sz) (xC_w cy a I F G ++ (xC_im cy a (va_up f n (some (u.1 0))) :: xK_w cy u.1 u.2.1 u.2.2))) (va_A (xC_w cy a I F G ++ [xC_im cy a f]) sz)) 10 58 (va_A (xC_w cy a I F G ++ [xC_im cy a f]) sz) := by
  refine Met.ofW (cc := cX7_image) (maxL := 3) (ret := (some .int)) (by decide) rfl ?_
  intro p e s m args below meth c s₁ B hml hv
  obtain ⟨rfl, hsz, hP, hB, hD0⟩ := hv
  have hx := B.exec
  have hb := B.bytes
  have hr := B.returns
  have hts := atoms_spec (ws := wsX7_image) B.pre
  have hown : s.vm.findClass RX7 = some m.cls := findClass_of_methodNamed B.named
  have hlocks := B.notSynchronized
  subst hsz
  have hD := hD0.self (sz := s.heap.size)
  generalize hAe : va_A (xC_w cy a I F G ++ [xC_im cy a f]) s.heap.size = A at hD ⊢
  have hA : ∀ q : Nat, s.heap.size ≤ q → A q := fun q h => by rw [← hAe]; exact Or.inr h
  have hS : va_S A s.heap s.heap [] := va_S.rf
  have hl := lv_entry ([.ref (a 0), .int (nI n)]) (n := 3) (Nat.le_of_ble_eq_true rfl)
  rw [lg_entry_eq]
  generalize (lg_sl ([.ref (a 0), .int (nI n)]) ++ List.replicate (3 - (lg_sl ([.ref (a 0), .int (nI n)])).length) Slot.unset).toArray = ls at hl ⊢
  have hl : lv_has ls 3 [(0, .ref (a 0)), (1, .int (nI n))] := hl
  refine lv_iload_n hx hb dX7_image_0 rfl (lv_at hl 1 rfl) ?_
  refine lv_if_lt (tgt := 9) hx hb dX7_image_1 (by decide) (fun z => absurd z (nI_pos (by omega))) (fun _ => ?_)
  refine lv_iload_n hx hb dX7_image_4 rfl (lv_at hl 1 rfl) ?_
  refine lv_iconst (v := 2) hx hb dX7_image_5 (by decide) ?_
  refine lv_icmp_lt (tgt := 12) hx hb dX7_image_6 (by decide) (fun _ => ?_) (fun z => absurd ((xn_lt (a := n) (b := 2) (by omega) (by omega)).mpr hn) z)
  refine lv_aload_n hx hb dX7_image_12 rfl (lv_at hl 0 rfl) ?_
  refine va_get (D := D) (ci := 7) (v := .ref (a 39)) (C := RX7) (T := TX7) (N := 8) hx hb hts mX7_image_inX7 hown hB.1 hP 0 rfl rfl 2 (by decide) (hts _ mX7_image_1) (fun _ h9 => h9) rfl dX7_image_13 ?_
  refine lv_iload_n hx hb dX7_image_16 rfl (lv_at hl 1 rfl) ?_
  refine va_aldq (a := a 39) hx hb hB.1 hP 39 3 rfl rfl (vp_in_nI hn (by omega)) dX7_image_17 ?_
  rw [nI_clamp (by omega), hf]
  refine lv_astore_nN (lv' := [(2, .null), (0, .ref (a 0)), (1, .int (nI n))]) hx hb dX7_image_18 rfl hl (by decide) rfl (fun ls hl => ?_)
  refine lv_aload_nN hx hb dX7_image_19 rfl (lv_at hl 0 rfl) ?_
  refine lv_ifnonnullN hx hb dX7_image_20 ?_
  refine va_new (ci := 3) (fs := [.null, .null, .int 0]) (C := RX3) (T := TX3) (N := 3) hx hb hts mX7_image_inX3 tyX3 tyX3_ok hown (hts _ mX7_image_2) (hts _ mX7_image_3) (hts _ mX7_image_4) hB.1 hP hD hS hA rfl (by decide +kernel) (Nat.le_of_ble_eq_true rfl) (Nat.le_of_ble_eq_true rfl) dX7_image_23 (fun q16 H hP hD hS => ?_)
  refine lv_dup hx hb dX7_image_26 rfl ?_
  have hPc := hP.sub (ws' := [(q16, .inr (3, [.null, .null, .int 0]))]) [40] rfl
  have hDc := hD.sub (ws' := [(q16, .inr (3, [.null, .null, .int 0]))]) [40] (by decide) rfl
  have hFc := va_free (wc := [(q16, .inr (3, [.null, .null, .int 0]))]) hD hS hA [40] rfl
  refine va_callv (va_runIN (rm := { frames := 2, cells := 9, slots := 55, locals := 32 }) (As := []) (rest := [.ref q16]) ⟨hx, hb, hml, hown, hts⟩ (c_X3_init l D cy q16 H.size) ⟨va_cnB 0 hts gX7_image_X3_init_n18 rfl rfl rfl (hB.2 2 _ rfl) (hts _ mX7_image_4) (by decide +kernel) ⟨Nat.le_of_ble_eq_true rfl, Nat.le_of_ble_eq_true rfl⟩, rfl, hts _ mX7_image_6⟩ ⟨xw_blindC _, fun U hU hW => ⟨rfl, by rw [hU], by rw [hU]; exact hPc, hB.warm hW, hDc.weaken (fun _ _ _ _ => trivial)⟩⟩ rfl rfl hl.1 rfl (lv_room (Nat.le_of_ble_eq_true rfl)) dX7_image_27 ⟨Nat.le_of_ble_eq_true rfl, Nat.le_of_ble_eq_true rfl⟩) hS (fun q _ h => hFc q h) hFc (fun u t H1 locs ht hvm hw hB1 hz1 hk1 hS => ?_)
  obtain ⟨hP1, hD1⟩ := hB1
  rw [ht] at hP1
  obtain ⟨hPj, hDj⟩ := va_join (wr := xC_w cy a I F G ++ [xC_im cy a f]) (w1 := xN_X3 cy u) hP hD [40] [0, 1, 2, 3, 4, 5, 6, 7, 8, 9, 10, 11, 12, 13, 14, 15, 16, 17, 18, 19, 20, 21, 22, 23, 24, 25, 26, 27, 28, 29, 30, 31, 32, 33, 34, 35, 36, 37, 38, 39] rfl rfl (by decide) (by decide) hk1 hFc hP1 hD1
  clear hPc hDc hFc hP1 hD1 hk1 hz1 ht hvm hP hD
  generalize H1 = H at hPj hS ⊢
  subst hw
  have hP : va_P D vwCl ((xC_w cy a I F G ++ [xC_im cy a f]) ++ xK_w cy u (fun _ => 0) (fun _ _ => 0)) H := hPj
  have hD : va_D A ((xC_w cy a I F G ++ [xC_im cy a f]) ++ xK_w cy u (fun _ => 0) (fun _ _ => 0)) := hDj
  refine lv_astore_n (x := u 0) (lv' := [(2, .ref (u 0)), (0, .ref (a 0)), (1, .int (nI n))]) hx hb dX7_image_30 rfl hl (by decide) rfl (fun ls hl => ?_)
  refine lv_aload_n hx hb dX7_image_31 rfl (lv_at hl 1 rfl) ?_
  refine va_get (D := D) (ci := 7) (v := .ref (a 39)) (C := RX7) (T := TX7) (N := 8) hx hb hts mX7_image_inX7 hown hB.1 hP 0 rfl rfl 2 (by decide) (hts _ mX7_image_1) (fun _ h9 => h9) rfl dX7_image_32 ?_
  refine lv_iload_n hx hb dX7_image_35 rfl (lv_at hl 2 rfl) ?_
  refine lv_aload_n hx hb dX7_image_36 rfl (lv_at hl 0 rfl) ?_
  refine va_astq (r := (RX3, TX3, 3)) (a := a 39) hx hb hB.1 hP hD hS 39 3 40 3 rfl rfl rfl rfl (vp_in_nI hn (by omega)) dX7_image_37 (fun H locs hP hD hS => ?_)
  rw [nI_clamp (by omega)] at hP hD
  have hP : va_P D vwCl (xC_w cy a I F G ++ (xC_im cy a (va_up f n (some (u 0))) :: xK_w cy u (fun _ => 0) (fun _ _ => 0))) H := hP
  have hD : va_D A (xC_w cy a I F G ++ (xC_im cy a (va_up f n (some (u 0))) :: xK_w cy u (fun _ => 0) (fun _ _ => 0))) := hD
  refine xi_tail (by decide) (by decide) ⟨Nat.le_of_ble_eq_true rfl, Nat.le_of_ble_eq_true rfl⟩ hx hb hml hown hts hB hl hP hD hS (fun i1 r1 H locs h hP hD hS => ?_)
  refine lv_iconst (v := 1) hx hb dX7_image_46 (by decide) ?_
  exact W.iret hx hb hr (fun t ht hW => ⟨⟨1, (u, i1, r1), rfl, ⟨rfl, h⟩, by rw [ht]; exact hP, hD⟩, hS.F ht⟩) hS.2.2 dX7_image_47 hlocks
set_option maxHeartbeats 4000000 in
set_option maxRecDepth 100000 in
theorem c_X7_restoreN (l : Launch) (D : va_G) (cy : Nat → ClassId) (a : Nat → Nat) {n : Nat} (hn : n < 2) (I : xw_I) (F : xw_F) (G : xw_G) (f : Nat → Option Nat) (hf : f n = none) : xw_Ri l yX7_restore wsX7_restore ({ frames := 0, cells := 0, slots := 0, locals := 0 }) D cy [.ref (a 0), .int (nI n)] (xC_w cy a I F G ++ [xC_im cy a f]) (fun v => v = -3) := by
  intro A
  refine Met.ofW (cc := cX7_restore) (maxL := 3) (ret := (some .int)) (by decide) rfl ?_
  intro p e s m args below meth c s₁ B hml hv
  obtain ⟨rfl, hP, hB, hD⟩ := hv
  have hx := B.exec
  have hb := B.bytes
  have hr := B.returns
  have hts := atoms_spec (ws := wsX7_restore) B.pre
  have hown : s.vm.findClass RX7 = some m.cls := findClass_of_methodNamed B.named
  have hlocks := B.notSynchronized
  have hl := lv_entry ([.ref (a 0), .int (nI n)]) (n := 3) (Nat.le_of_ble_eq_true rfl)
  rw [lg_entry_eq]
  generalize (lg_sl ([.ref (a 0), .int (nI n)]) ++ List.replicate (3 - (lg_sl ([.ref (a 0), .int (nI n)])).length) Slot.unset).toArray = ls at hl ⊢
  have hl : lv_has ls 3 [(0, .ref (a 0)), (1, .int (nI n))] := hl
  refine lv_iload_n hx hb dX7_restore_0 rfl (lv_at hl 1 rfl) ?_
  refine lv_if_lt (tgt := 9) hx hb dX7_restore_1 (by decide) (fun z => absurd z (nI_pos (by omega))) (fun _ => ?_)
  refine lv_iload_n hx hb dX7_restore_4 rfl (lv_at hl 1 rfl) ?_
  refine lv_iconst (v := 2) hx hb dX7_restore_5 (by decide) ?_
  refine lv_icmp_lt (tgt := 12) hx hb dX7_restore_6 (by decide) (fun _ => ?_) (fun z => absurd ((xn_lt (a := n) (b := 2) (by omega) (by omega)).mpr hn) z)
  refine lv_aload_n hx hb dX7_restore_12 rfl (lv_at hl 0 rfl) ?_
  refine va_get (D := D) (ci := 7) (v := .ref (a 39)) (C := RX7) (T := TX7) (N := 8) hx hb hts mX7_restore_inX7 hown hB.1 hP 0 rfl rfl 2 (by decide) (hts _ mX7_restore_1) (fun _ h9 => h9) rfl dX7_restore_13 ?_
  refine lv_iload_n hx hb dX7_restore_16 rfl (lv_at hl 1 rfl) ?_
  refine va_aldq (a := a 39) hx hb hB.1 hP 39 3 rfl rfl (vp_in_nI hn (by omega)) dX7_restore_17 ?_
  rw [nI_clamp (by omega), hf]
  refine lv_astore_nN (lv' := [(2, .null), (0, .ref (a 0)), (1, .int (nI n))]) hx hb dX7_restore_18 rfl hl (by decide) rfl (fun ls hl => ?_)
  refine lv_aload_nN hx hb dX7_restore_19 rfl (lv_at hl 0 rfl) ?_
  refine lv_ifnonnullN hx hb dX7_restore_20 ?_
  refine lv_bipush (v := -3) hx hb dX7_restore_23 (by decide) ?_
  exact xw_ireti hx hb hr hlocks rfl dX7_restore_25
def x3_I (I I1 : xw_I) : xw_I := fun j => cond (Nat.ble 7 j && Nat.ble j 12) (I1 (j - 7)) (I j)
def x3_F (F F1 : xw_F) : xw_F := fun j => cond (Nat.ble 13 j && Nat.ble j 20) (F1 (j - 11)) (F j)
theorem x3_Ik {I I1 : xw_I} (k : Nat) (hk : k < 6) : xw_up (x3_I I I1) 0 1 (7 + k) = I1 k := by
  rw [xw_upn (by omega)]
  show cond (Nat.ble 7 (7 + k) && Nat.ble (7 + k) 12) (I1 (7 + k - 7)) _ = I1 k
  rw [Nat.ble_eq_true_of_le (by omega), Nat.ble_eq_true_of_le (by omega), show 7 + k - 7 = k by omega]; rfl
theorem x3_Fk {F F1 : xw_F} (k : Nat) (hk : k < 8) : x3_F F F1 (13 + k) = F1 (2 + k) := by
  show cond (Nat.ble 13 (13 + k) && Nat.ble (13 + k) 20) (F1 (13 + k - 11)) _ = F1 (2 + k)
  rw [Nat.ble_eq_true_of_le (by omega), Nat.ble_eq_true_of_le (by omega), show 13 + k - 11 = 2 + k by omega]; rfl
set_option maxHeartbeats 4000000 in
set_option maxRecDepth 100000 in
theorem c_X7_restoreS (l : Launch) (D : va_G) (cy : Nat → ClassId) (a b : Nat → Nat) {n : Nat} (hn : n < 2) (I : xw_I) (F : xw_F) (G : xw_G) (f : Nat → Option Nat) (i : xw_I) (r : xw_F) (hf : f n = some (b 0)) : xw_Wi l yX7_restore wsX7_restore ({ frames := 2, cells := 0, slots := 0, locals := 60 }) D cy [.ref (a 0), .int (nI n)] (xC_w cy a I F G ++ (xC_im cy a f :: xK_w cy b i r)) (fun I1 F1 _ => xC_w cy a I1 F1 G ++ (xC_im cy a f :: xK_w cy b i r)) (fun v I1 F1 _ => v = 1 ∧ I1 0 = 1 ∧ I1 1 = I 1 ∧ F1 10 = F 10 ∧ xi_eq i (fun k => I1 (7 + k)) r (fun k => F1 (13 + k))) := by
  intro A
  refine Met.ofW (cc := cX7_restore) (maxL := 3) (ret := (some .int)) (by decide) rfl ?_
  intro p e s m args below meth c s₁ B hml hv
  obtain ⟨rfl, hP, hB, hD⟩ := hv
  have hx := B.exec
  have hb := B.bytes
  have hr := B.returns
  have hts := atoms_spec (ws := wsX7_restore) B.pre
  have hown : s.vm.findClass RX7 = some m.cls := findClass_of_methodNamed B.named
  have hlocks := B.notSynchronized
  have hl := lv_entry ([.ref (a 0), .int (nI n)]) (n := 3) (Nat.le_of_ble_eq_true rfl)
  rw [lg_entry_eq]
  generalize (lg_sl ([.ref (a 0), .int (nI n)]) ++ List.replicate (3 - (lg_sl ([.ref (a 0), .int (nI n)])).length) Slot.unset).toArray = ls at hl ⊢
  have hl : lv_has ls 3 [(0, .ref (a 0)), (1, .int (nI n))] := hl
  have hS : va_S A s.heap s.heap [] := va_S.rf
  refine lv_iload_n hx hb dX7_restore_0 rfl (lv_at hl 1 rfl) ?_
  refine lv_if_lt (tgt := 9) hx hb dX7_restore_1 (by decide) (fun z => absurd z (nI_pos (by omega))) (fun _ => ?_)
  refine lv_iload_n hx hb dX7_restore_4 rfl (lv_at hl 1 rfl) ?_
  refine lv_iconst (v := 2) hx hb dX7_restore_5 (by decide) ?_
  refine lv_icmp_lt (tgt := 12) hx hb dX7_restore_6 (by decide) (fun _ => ?_) (fun z => absurd ((xn_lt (a := n) (b := 2) (by omega) (by omega)).mpr hn) z)
  refine lv_aload_n hx hb dX7_restore_12 rfl (lv_at hl 0 rfl) ?_
  refine va_get (D := D) (ci := 7) (v := .ref (a 39)) (C := RX7) (T := TX7) (N := 8) hx hb hts mX7_restore_inX7 hown hB.1 hP 0 rfl rfl 2 (by decide) (hts _ mX7_restore_1) (fun _ h9 => h9) rfl dX7_restore_13 ?_
  refine lv_iload_n hx hb dX7_restore_16 rfl (lv_at hl 1 rfl) ?_
  refine va_aldq (a := a 39) hx hb hB.1 hP 39 3 rfl rfl (vp_in_nI hn (by omega)) dX7_restore_17 ?_
  rw [nI_clamp (by omega), hf]
  refine lv_astore_n (x := b 0) (lv' := [(2, .ref (b 0)), (0, .ref (a 0)), (1, .int (nI n))]) hx hb dX7_restore_18 rfl hl (by decide) rfl (fun ls hl => ?_)
  refine lv_aload_n hx hb dX7_restore_19 rfl (lv_at hl 0 rfl) ?_
  refine lv_ifnonnull (tgt := 26) hx hb dX7_restore_20 (by decide) ?_
  refine lv_aload_n hx hb dX7_restore_26 rfl (lv_at hl 1 rfl) ?_
  refine va_get (D := D) (ci := 7) (v := .ref (a 11)) (C := RX7) (T := TX7) (N := 8) hx hb hts mX7_restore_inX7 hown hB.1 hP 0 rfl rfl 1 (by decide) (hts _ mX7_restore_2) (fun _ h9 => h9) rfl dX7_restore_27 ?_
  refine lv_aload_n hx hb dX7_restore_30 rfl (lv_at hl 0 rfl) ?_
  have hP := hP.sub (ws' := (xK_w cy (fun k => a (11 + k)) (fun k => I (7 + k)) (fun k => F (13 + k)) ++ xK_w cy b i r) ++ xR_w cy a I F G f) [11, 12, 13, 14, 15, 16, 17, 18, 19, 20, 40, 41, 42, 43, 44, 45, 46, 47, 48, 49, 0, 1, 2, 3, 4, 5, 6, 7, 8, 9, 10, 21, 22, 23, 24, 25, 26, 27, 28, 29, 30, 31, 32, 33, 34, 35, 36, 37, 38, 39] rfl
  have hD := hD.sub (ws' := (xK_w cy (fun k => a (11 + k)) (fun k => I (7 + k)) (fun k => F (13 + k)) ++ xK_w cy b i r) ++ xR_w cy a I F G f) [11, 12, 13, 14, 15, 16, 17, 18, 19, 20, 40, 41, 42, 43, 44, 45, 46, 47, 48, 49, 0, 1, 2, 3, 4, 5, 6, 7, 8, 9, 10, 21, 22, 23, 24, 25, 26, 27, 28, 29, 30, 31, 32, 33, 34, 35, 36, 37, 38, 39] (by decide) rfl
  refine xj_wv hP hD (va_runV (rm := { frames := 1, cells := 0, slots := 0, locals := 22 }) (As := [.ref (b 0)]) (rest := []) ⟨hx, hb, hml, hown, hts⟩ (x2_copy l D cy (fun k => a (11 + k)) b (fun k => I (7 + k)) i (fun k => F (13 + k)) r (xj_A (xK_w cy (fun k => a (11 + k)) (fun k => I (7 + k)) (fun k => F (13 + k)) ++ xK_w cy b i r))) (cwV 1 hts gX7_restore_X3_copy rfl rfl rfl (by decide +kernel) ⟨Nat.le_of_ble_eq_true rfl, Nat.le_of_ble_eq_true rfl⟩) (xw_preV (b := a 11) hB (xj_Pl hP) (xj_self (xj_Dl hD)) (ci := 3) (q0 := 0) rfl rfl) rfl rfl hl.1 rfl (lv_room (Nat.le_of_ble_eq_true rfl)) dX7_restore_31 ⟨Nat.zero_le _, Nat.zero_le _⟩) hS (fun I1 F1 G1 H locs h hP hD hS => ?_)
  obtain ⟨h1, h2, h3⟩ := h
  rw [x2_back h2 h3] at hP hD
  have hP := hP.sub (ws' := xC_w cy a (x3_I I I1) (x3_F F F1) G ++ (xC_im cy a f :: xK_w cy b i r)) [20, 21, 22, 23, 24, 25, 26, 27, 28, 29, 30, 0, 1, 2, 3, 4, 5, 6, 7, 8, 9, 31, 32, 33, 34, 35, 36, 37, 38, 39, 40, 41, 42, 43, 44, 45, 46, 47, 48, 49, 10, 11, 12, 13, 14, 15, 16, 17, 18, 19] rfl
  have hD := hD.sub (ws' := xC_w cy a (x3_I I I1) (x3_F F F1) G ++ (xC_im cy a f :: xK_w cy b i r)) [20, 21, 22, 23, 24, 25, 26, 27, 28, 29, 30, 0, 1, 2, 3, 4, 5, 6, 7, 8, 9, 31, 32, 33, 34, 35, 36, 37, 38, 39, 40, 41, 42, 43, 44, 45, 46, 47, 48, 49, 10, 11, 12, 13, 14, 15, 16, 17, 18, 19] (by decide) rfl
  refine lv_aload_n hx hb dX7_restore_34 rfl (lv_at hl 1 rfl) ?_
  refine lv_iconst (v := 1) hx hb dX7_restore_35 (by decide) ?_
  refine xw_put (D := D) (ci := 7) (v := .int (1 : Int32)) (ty := .boolean) (C := RX7) (T := TX7) (N := 8) (ws' := xC_w cy a (xw_up (x3_I I I1) 0 1) (x3_F F F1) G ++ (xC_im cy a f :: xK_w cy b i r)) hx hb hts mX7_restore_inX7 tyX7 tyX7_ok nmX7 hown hB hP hD hS 0 rfl rfl 7 (by decide) (hts _ mX7_restore_3) (fun _ h9 => h9) rfl (by decide +kernel) rfl rfl (Nat.le_of_ble_eq_true rfl) rfl dX7_restore_36 (fun H locs hP hD hS => ?_)
  refine lv_iconst (v := 1) hx hb dX7_restore_39 (by decide) ?_
  exact xw_wreti (wf := fun I1 F1 _ => xC_w cy a I1 F1 G ++ (xC_im cy a f :: xK_w cy b i r)) (G1 := fun _ _ => 0) hx hb hr hlocks hP hD hS ⟨rfl, rfl, rfl, rfl, h1.to2 x3_Ik x3_Fk⟩ dX7_restore_40
