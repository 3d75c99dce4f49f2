/-! ===== my layer: one world a side, contracts over pure states ===== -/
def xw_ty (cy : Nat → ClassId) : List (ClassId × FieldType) := [(cy 0, .int), (cy 1, .long), (cy 2, .boolean), (cy 3, .object "TagCarrier$Sentences")]
/-- the private methods of nest mates that are called -/
def xw_nest : List (String × Nat × MethodName) := [(RX7, 11, yX1_init), (RX1, 11, yX4_init), (RX7, 18, yX3_init), (RX3, 11, yX4_init), (RX7, 29, yX5_init), (RX7, 36, yX2_init), (RX7, 43, yX0_init), (RX7, 50, yX6_init), (RX4, 63, yX7_has), (RX5, 36, yX7_has), (RX3, 39, yX7_has), (RX2, 37, yX7_has), (RX6, 44, yX7_has)]
def xw_N (U : State) : Prop := ∀ (k : Nat) (q : String × Nat × MethodName), xw_nest[k]? = some q → va_Nw (.methodLinkNest q.1 q.2.1 q.2.2 "TagCarrier") U
def xw_B (D : va_G) (cy : Nat → ClassId) (U : State) : Prop := va_K D vwCl (xw_ty cy) U ∧ xw_N U
theorem xw_B.warm {D : va_G} {cy : Nat → ClassId} {s U : State} (h : xw_B D cy s) (hW : s.WarmedH U.vm) : xw_B D cy U := ⟨va_K.moved hW.alike h.1, fun k q hq => va_Nw.warmM hW (h.2 k q hq)⟩
def xw_P (D : va_G) (cy : Nat → ClassId) (A : Nat → Prop) (ws : va_W) (U : State) : Prop := va_P D vwCl ws U.heap ∧ xw_B D cy U ∧ va_D A ws
theorem xw_blind {D : va_G} {cy : Nat → ClassId} {A : Nat → Prop} {ws : va_W} (av : List Value) : FrameBlind (va_Pc av (xw_P D cy A ws)) := by
  intro a U g mk q
  obtain ⟨q1, qP, qB, qD⟩ := q
  exact ⟨q1, qP, ⟨va_K.moved (u := U) (U := U.calling g mk a) (Vm.Alike.refl U.vm) qB.1, fun k x hx => va_Nw.same (u := U) (U := U.calling g mk a) rfl rfl (qB.2 k x hx)⟩, qD⟩
theorem xw_P0 {D : va_G} {H : Heap} : va_P D vwCl [] H := fun k q h => by simp at h
theorem xw_D0 {A : Nat → Prop} : va_D A [] := ⟨fun i j p q h => by simp at h, fun k q h => by simp at h⟩
def xw_Qi (D : va_G) (wf : xw_I → xw_F → xw_G → va_W) (post : Int32 → xw_I → xw_F → xw_G → Prop) (A : Nat → Prop) : Array Value → State → Outcome → State → Prop := va_Qi (S := xw_S) (fun r u => post r u.1 u.2.1 u.2.2) (fun u t => va_P D vwCl (wf u.1 u.2.1 u.2.2) t.heap ∧ va_D A (wf u.1 u.2.1 u.2.2)) A
def xw_Qv (D : va_G) (wf : xw_I → xw_F → xw_G → va_W) (post : xw_I → xw_F → xw_G → Prop) (A : Nat → Prop) : Array Value → State → Outcome → State → Prop := va_Qv (S := xw_S) (fun u => post u.1 u.2.1 u.2.2) (fun u t => va_P D vwCl (wf u.1 u.2.1 u.2.2) t.heap ∧ va_D A (wf u.1 u.2.1 u.2.2)) A
/-- read only: an int, a long; writing: an int, nothing -/
def xw_Ri (l : Launch) (y : MethodName) (w : List Cond) (rm : Room) (D : va_G) (cy : Nat → ClassId) (av : List Value) (ws : va_W) (post : Int32 → Prop) : Prop := ∀ A : Nat → Prop, Met l y w rm (va_Pc av (xw_P D cy A ws)) (vp_Si post) 0 0 (fun _ => False)
def xw_Rl (l : Launch) (y : MethodName) (w : List Cond) (rm : Room) (D : va_G) (cy : Nat → ClassId) (av : List Value) (ws : va_W) (post : Int64 → Prop) : Prop := ∀ A : Nat → Prop, Met l y w rm (va_Pc av (xw_P D cy A ws)) (vp_Sl post) 0 0 (fun _ => False)
def xw_Wi (l : Launch) (y : MethodName) (w : List Cond) (rm : Room) (D : va_G) (cy : Nat → ClassId) (av : List Value) (ws : va_W) (wf : xw_I → xw_F → xw_G → va_W) (post : Int32 → xw_I → xw_F → xw_G → Prop) : Prop := ∀ A : Nat → Prop, Met l y w rm (va_Pc av (xw_P D cy A ws)) (xw_Qi D wf post A) 0 0 A
def xw_Wv (l : Launch) (y : MethodName) (w : List Cond) (rm : Room) (D : va_G) (cy : Nat → ClassId) (av : List Value) (ws : va_W) (wf : xw_I → xw_F → xw_G → va_W) (post : xw_I → xw_F → xw_G → Prop) : Prop := ∀ A : Nat → Prop, Met l y w rm (va_Pc av (xw_P D cy A ws)) (xw_Qv D wf post A) 0 0 A
section XWC
variable {p : Program} {l : Launch} {e : Env} {R : Room} {s : State} {m : MethodId} {args : Array Value} {below : List Frame} {meth : Method} {c : Code} {H : Heap} {locs : List Loc} {cells slots : Nat} {Q : State → Prop}
variable {pc : Nat} {ls : Array Slot} {rest st0 : List Value} {a : Array Value} {A0 : Nat → Prop} {H0 : Heap} {D : va_G} {cy : Nat → ClassId} {ws : va_W} {cc : ByteArray}
theorem xw_preV {b ci q0 : Nat} {q : vw_C} {fs As : List Value} (hB : xw_B D cy s) (hP : va_P D vwCl ws H) (hD : va_D A0 ws) (hc : vwCl[ci]? = some q) (he : ws[q0]? = some (b, .inr (ci, fs))) : PreV s H q.1 b (va_Pc (.ref b :: As) (xw_P D cy A0 ws)) As := ⟨xw_blind _, va_recv hB.1 hP hc he, fun U hU hW => ⟨rfl, by rw [hU]; exact hP, hB.warm hW, hD⟩⟩
theorem xw_preS {As : List Value} (hB : xw_B D cy s) (hP : va_P D vwCl ws H) (hD : va_D A0 ws) : PreS s H (va_Pc As (xw_P D cy A0 ws)) As := ⟨xw_blind _, fun U hU hW => ⟨rfl, by rw [hU]; exact hP, hB.warm hW, hD⟩⟩
theorem xw_ri {post : Int32 → Prop} (hr : va_Run p l e R s m args below meth c H locs cells slots 0 0 (F0 m pc ls st0) rest (vp_Si post a) (fun _ => False)) (kk : ∀ r : Int32, post r → W p l e R s m args below meth c H locs cells slots Q (F0 m (pc + 3) ls (.int r :: rest))) : W p l e R s m args below meth c H locs cells slots Q (F0 m pc ls st0) := by
  intro T hT X
  obtain ⟨v, st₀, t, T', L, h0, X', hL, e1, e2, ⟨r, hv, hp, hh⟩, st⟩ := hr T hT X
  cases hv
  obtain ⟨t2, a1, b1⟩ := kk r hp T' (by rw [e1, hh, h0]) (Stand.forget X' (fun q h => (hL q h).elim))
  exact ⟨t2, st t2 a1, b1⟩
theorem xw_rl {post : Int64 → Prop} (hr : va_Run p l e R s m args below meth c H locs cells slots 0 0 (F0 m pc ls st0) rest (vp_Sl post a) (fun _ => False)) (kk : ∀ r : Int64, post r → W p l e R s m args below meth c H locs cells slots Q (F0 m (pc + 3) ls (.long r :: rest))) : W p l e R s m args below meth c H locs cells slots Q (F0 m pc ls st0) := by
  intro T hT X
  obtain ⟨v, st₀, t, T', L, h0, X', hL, e1, e2, ⟨r, hv, hp, hh⟩, st⟩ := hr T hT X
  cases hv
  obtain ⟨t2, a1, b1⟩ := kk r hp T' (by rw [e1, hh, h0]) (Stand.forget X' (fun q h => (hL q h).elim))
  exact ⟨t2, st t2 a1, b1⟩
theorem xw_wi {post : Int32 → xw_I → xw_F → xw_G → Prop} {wf : xw_I → xw_F → xw_G → va_W} (hr : va_Run p l e R s m args below meth c H locs cells slots 0 0 (F0 m pc ls st0) rest (xw_Qi D wf post A0 a) A0) (hS : va_S A0 H0 H locs)
    (kk : ∀ (r : Int32) (I1 : xw_I) (F1 : xw_F) (G1 : xw_G) (H1 : Heap) (locs1 : List Loc), post r I1 F1 G1 → va_P D vwCl (wf I1 F1 G1) H1 → va_D A0 (wf I1 F1 G1) → va_S A0 H0 H1 locs1 → W p l e R s m args below meth c H1 locs1 cells slots Q (F0 m (pc + 3) ls (.int r :: rest))) : W p l e R s m args below meth c H locs cells slots Q (F0 m pc ls st0) :=
  va_calli (S := xw_S) (post := fun r u => post r u.1 u.2.1 u.2.2) (B := fun u t => va_P D vwCl (wf u.1 u.2.1 u.2.2) t.heap ∧ va_D A0 (wf u.1 u.2.1 u.2.2)) (A1 := A0) (a := a) hr hS (fun _ _ h => h) (fun _ h => h) (fun r u t H1 locs1 ht hvm hw hB hz1 hk1 hS1 => kk r u.1 u.2.1 u.2.2 H1 locs1 hw (by rw [← ht]; exact hB.1) hB.2 hS1)
theorem xw_wv {post : xw_I → xw_F → xw_G → Prop} {wf : xw_I → xw_F → xw_G → va_W} (hr : va_Run p l e R s m args below meth c H locs cells slots 0 0 (F0 m pc ls st0) rest (xw_Qv D wf post A0 a) A0) (hS : va_S A0 H0 H locs)
    (kk : ∀ (I1 : xw_I) (F1 : xw_F) (G1 : xw_G) (H1 : Heap) (locs1 : List Loc), post I1 F1 G1 → va_P D vwCl (wf I1 F1 G1) H1 → va_D A0 (wf I1 F1 G1) → va_S A0 H0 H1 locs1 → W p l e R s m args below meth c H1 locs1 cells slots Q (F0 m (pc + 3) ls rest)) : W p l e R s m args below meth c H locs cells slots Q (F0 m pc ls st0) :=
  va_callv (S := xw_S) (post := fun u => post u.1 u.2.1 u.2.2) (B := fun u t => va_P D vwCl (wf u.1 u.2.1 u.2.2) t.heap ∧ va_D A0 (wf u.1 u.2.1 u.2.2)) (A1 := A0) (a := a) hr hS (fun _ _ h => h) (fun _ h => h) (fun u t H1 locs1 ht hvm hw hB hz1 hk1 hS1 => kk u.1 u.2.1 u.2.2 H1 locs1 hw (by rw [← ht]; exact hB.1) hB.2 hS1)
theorem xw_put (hexec : p.tables.exec = Jvm.exec) (hb : c.code = cc) {own ref C : String} {T : u_T} {N ci index b : Nat} {Ts : List Cond} (hts : ∀ w ∈ Ts, w.before args s = true) (hin : ∀ w ∈ u_ws C T N, w ∈ Ts) (ty0 : Nat → FieldType) (hty : ∀ k, k < N → parseFieldDescriptor (T k).2.2.1 = some (ty0 k)) (hnm : ∀ a, a < N → ∀ b, b < N → a ≠ b → (T a).2.1 ≠ (T b).2.1) (hown : s.vm.findClass own = some m.cls) (hB : xw_B D cy s) (hP : va_P D vwCl ws H) (hD : va_D A0 ws) (hS0 : va_S A0 H0 H locs) (q0 : Nat) {fs : List Value} (he : ws[q0]? = some (b, .inr (ci, fs))) (hc : vwCl[ci]? = some (C, T, N)) (k : Nat) (hk : k < N) (hlink : (Cond.fieldLink own index ref (T k).2.1 (T k).2.2.1).before args s = true) (hsame : ∀ x, s.fieldFound? (T k).1 (T k).2.1 (T k).2.2.1 = some x → s.fieldFound? ref (T k).2.1 (T k).2.2.1 = some x) (hfin : (T k).2.2.2 = false) {ty : FieldType} {v : Value} (hd : parseFieldDescriptor (T k).2.2.1 = some ty) (hn : narrow ty v = v) (hfit : fits ty v = true) (hl : k < fs.length) {ws' : va_W} (hset : ws.set q0 (b, .inr (ci, fs.set k v)) = ws')
    (hdg : decode cc pc = .ok (.putfield index, 3)) (kk : ∀ (H1 : Heap) (locs1 : List Loc), va_P D vwCl ws' H1 → va_D A0 ws' → va_S A0 H0 H1 locs1 → W p l e R s m args below meth c H1 locs1 cells slots Q (F0 m (pc + 3) ls rest)) : W p l e R s m args below meth c H locs cells slots Q (F0 m pc ls (v :: .ref b :: rest)) := by
  subst hset
  exact va_put hexec hb hts hin ty0 hty hnm hown hB.1 hP hD hS0 q0 he hc k hk hlink hsame hfin hd hn hfit hl hdg kk
theorem xw_iald (hexec : p.tables.exec = Jvm.exec) (hb : c.code = cc) (hB : xw_B D cy s) (hP : va_P D vwCl ws H) (q0 : Nat) {b n : Nat} {f : Nat → Int32} (ha : ws[q0]? = some (b, .inl (cy 0, n, .inl f))) {i : Int32} (hin : vp_in i n) (hdg : decode cc pc = .ok (.iaload, 1))
    (kk : ∀ v : Int32, v = f i.toNatClampNeg → W p l e R s m args below meth c H locs cells slots Q (F0 m (pc + 1) ls (.int v :: rest))) : W p l e R s m args below meth c H locs cells slots Q (F0 m pc ls (.int i :: .ref b :: rest)) :=
  va_iald hexec hb hB.1 hP q0 0 ha rfl hin hdg (kk _ rfl)
theorem xw_zald (hexec : p.tables.exec = Jvm.exec) (hb : c.code = cc) (hB : xw_B D cy s) (hP : va_P D vwCl ws H) (q0 : Nat) {b n : Nat} {f : Nat → Int32} (ha : ws[q0]? = some (b, .inl (cy 2, n, .inl f))) {i : Int32} (hin : vp_in i n) (hdg : decode cc pc = .ok (.baload, 1))
    (kk : ∀ v : Int32, v = f i.toNatClampNeg → W p l e R s m args below meth c H locs cells slots Q (F0 m (pc + 1) ls (.int v :: rest))) : W p l e R s m args below meth c H locs cells slots Q (F0 m pc ls (.int i :: .ref b :: rest)) :=
  va_zald hexec hb hB.1 hP q0 2 ha rfl hin hdg (kk _ rfl)
theorem xw_lald (hexec : p.tables.exec = Jvm.exec) (hb : c.code = cc) (hB : xw_B D cy s) (hP : va_P D vwCl ws H) (q0 : Nat) {b n : Nat} {f : Nat → Int64} (ha : ws[q0]? = some (b, .inl (cy 1, n, .inr (.inl f)))) {i : Int32} (hin : vp_in i n) (hdg : decode cc pc = .ok (.laload, 1))
    (kk : ∀ v : Int64, v = f i.toNatClampNeg → W p l e R s m args below meth c H locs cells slots Q (F0 m (pc + 1) ls (.long v :: rest))) : W p l e R s m args below meth c H locs cells slots Q (F0 m pc ls (.int i :: .ref b :: rest)) :=
  va_lald hexec hb hB.1 hP q0 1 ha rfl hin hdg (kk _ rfl)
theorem xw_iast (hexec : p.tables.exec = Jvm.exec) (hb : c.code = cc) (hB : xw_B D cy s) (hP : va_P D vwCl ws H) (hD : va_D A0 ws) (hS : va_S A0 H0 H locs) (q0 : Nat) {b n : Nat} {f : Nat → Int32} (ha : ws[q0]? = some (b, .inl (cy 0, n, .inl f))) {i x : Int32} (hin : vp_in i n) {ws' : va_W} (hset : ws.set q0 (b, .inl (cy 0, n, .inl (upd f i.toNatClampNeg x))) = ws') (hdg : decode cc pc = .ok (.iastore, 1))
    (kk : ∀ (H1 : Heap) (locs1 : List Loc), va_P D vwCl ws' H1 → va_D A0 ws' → va_S A0 H0 H1 locs1 → W p l e R s m args below meth c H1 locs1 cells slots Q (F0 m (pc + 1) ls rest)) : W p l e R s m args below meth c H locs cells slots Q (F0 m pc ls (.int x :: .int i :: .ref b :: rest)) := by
  subst hset
  exact va_iast hexec hb hB.1 hP hD hS q0 0 ha rfl hin hdg kk
theorem xw_last (hexec : p.tables.exec = Jvm.exec) (hb : c.code = cc) (hB : xw_B D cy s) (hP : va_P D vwCl ws H) (hD : va_D A0 ws) (hS : va_S A0 H0 H locs) (q0 : Nat) {b n : Nat} {f : Nat → Int64} (ha : ws[q0]? = some (b, .inl (cy 1, n, .inr (.inl f)))) {i : Int32} {x : Int64} (hin : vp_in i n) {ws' : va_W} (hset : ws.set q0 (b, .inl (cy 1, n, .inr (.inl (vp_updL f i.toNatClampNeg x)))) = ws') (hdg : decode cc pc = .ok (.lastore, 1))
    (kk : ∀ (H1 : Heap) (locs1 : List Loc), va_P D vwCl ws' H1 → va_D A0 ws' → va_S A0 H0 H1 locs1 → W p l e R s m args below meth c H1 locs1 cells slots Q (F0 m (pc + 1) ls rest)) : W p l e R s m args below meth c H locs cells slots Q (F0 m pc ls (.long x :: .int i :: .ref b :: rest)) := by
  subst hset
  exact va_last hexec hb hB.1 hP hD hS q0 1 ha rfl hin hdg kk
/-- the ends -/
theorem xw_ireti {post : Int32 → Prop} (hexec : p.tables.exec = Jvm.exec) (hb : c.code = cc) (hr : meth.sig.returnType = some .int) (hlocks : meth.locks = false) {v : Int32} (hp : post v) (hdg : decode cc pc = .ok (.ireturn, 1)) : W p l e R s m args below meth c s.heap [] 0 0 (MQ below (vp_Si post) args s 0 0 (fun _ => False)) (F0 m pc ls [.int v]) :=
  W.iret hexec hb hr (fun t ht hW => ⟨v, rfl, hp, ht⟩) (fun q h => by cases h) hdg hlocks
theorem xw_iretz {post : Int32 → Prop} (hexec : p.tables.exec = Jvm.exec) (hb : c.code = cc) (hr : meth.sig.returnType = some .boolean) (hlocks : meth.locks = false) {v : Int32} (hn : narrow .boolean (.int v) = .int v) (hp : post v) (hdg : decode cc pc = .ok (.ireturn, 1)) : W p l e R s m args below meth c s.heap [] 0 0 (MQ below (vp_Si post) args s 0 0 (fun _ => False)) (F0 m pc ls [.int v]) :=
  W.zret hexec hb hr hn (fun t ht hW => ⟨v, rfl, hp, ht⟩) (fun q h => by cases h) hdg hlocks
theorem xw_iretl {post : Int64 → Prop} (hexec : p.tables.exec = Jvm.exec) (hb : c.code = cc) (hr : meth.sig.returnType = some .long) (hlocks : meth.locks = false) {v : Int64} (hp : post v) (hdg : decode cc pc = .ok (.lreturn, 1)) : W p l e R s m args below meth c s.heap [] 0 0 (MQ below (vp_Sl post) args s 0 0 (fun _ => False)) (F0 m pc ls [.long v]) :=
  W.lret hexec hb hr (fun t ht hW => ⟨v, rfl, hp, ht⟩) (fun q h => by cases h) hdg (hlocks := hlocks)
theorem xw_wreti {post : Int32 → xw_I → xw_F → xw_G → Prop} {wf : xw_I → xw_F → xw_G → va_W} (hexec : p.tables.exec = Jvm.exec) (hb : c.code = cc) (hr : meth.sig.returnType = some .int) (hlocks : meth.locks = false) {I1 : xw_I} {F1 : xw_F} {G1 : xw_G} (hP : va_P D vwCl (wf I1 F1 G1) H) (hD : va_D A0 (wf I1 F1 G1)) (hS : va_S A0 s.heap H locs) {v : Int32} (hp : post v I1 F1 G1) (hdg : decode cc pc = .ok (.ireturn, 1)) : W p l e R s m args below meth c H locs cells slots (MQ below (xw_Qi D wf post A0) args s cells slots A0) (F0 m pc ls [.int v]) :=
  W.iret hexec hb hr (fun t ht hW => ⟨⟨v, (I1, F1, G1), rfl, hp, by rw [ht]; exact hP, hD⟩, hS.F ht⟩) hS.2.2 hdg hlocks
theorem xw_wretz {post : Int32 → xw_I → xw_F → xw_G → Prop} {wf : xw_I → xw_F → xw_G → va_W} (hexec : p.tables.exec = Jvm.exec) (hb : c.code = cc) (hr : meth.sig.returnType = some .boolean) (hlocks : meth.locks = false) {I1 : xw_I} {F1 : xw_F} {G1 : xw_G} (hP : va_P D vwCl (wf I1 F1 G1) H) (hD : va_D A0 (wf I1 F1 G1)) (hS : va_S A0 s.heap H locs) {v : Int32} (hn : narrow .boolean (.int v) = .int v) (hp : post v I1 F1 G1) (hdg : decode cc pc = .ok (.ireturn, 1)) : W p l e R s m args below meth c H locs cells slots (MQ below (xw_Qi D wf post A0) args s cells slots A0) (F0 m pc ls [.int v]) :=
  W.zret hexec hb hr hn (fun t ht hW => ⟨⟨v, (I1, F1, G1), rfl, hp, by rw [ht]; exact hP, hD⟩, hS.F ht⟩) hS.2.2 hdg hlocks
theorem xw_wretv {post : xw_I → xw_F → xw_G → Prop} {wf : xw_I → xw_F → xw_G → va_W} (hexec : p.tables.exec = Jvm.exec) (hb : c.code = cc) (hr : meth.sig.returnType = none) (hlocks : meth.locks = false) {I1 : xw_I} {F1 : xw_F} {G1 : xw_G} (hP : va_P D vwCl (wf I1 F1 G1) H) (hD : va_D A0 (wf I1 F1 G1)) (hS : va_S A0 s.heap H locs) (hp : post I1 F1 G1) (hdg : decode cc pc = .ok (.return_, 1)) : W p l e R s m args below meth c H locs cells slots (MQ below (xw_Qv D wf post A0) args s cells slots A0) (F0 m pc ls []) :=
  W.vret hexec hb hr (fun t ht hW => ⟨⟨(I1, F1, G1), rfl, hp, by rw [ht]; exact hP, hD⟩, hS.F ht⟩) hS.2.2 hdg (hlocks := hlocks)
theorem xw_zast (hexec : p.tables.exec = Jvm.exec) (hb : c.code = cc) (hB : xw_B D cy s) (hP : va_P D vwCl ws H) (hD : va_D A0 ws) (hS : va_S A0 H0 H locs) (q0 : Nat) {b n : Nat} {f : Nat → Int32} (ha : ws[q0]? = some (b, .inl (cy 2, n, .inl f))) {i : Int32} (hin : vp_in i n) {ws' : va_W} (hset : ws.set q0 (b, .inl (cy 2, n, .inl (upd f i.toNatClampNeg 1))) = ws') (hdg : decode cc pc = .ok (.bastore, 1))
    (kk : ∀ (H1 : Heap) (locs1 : List Loc), va_P D vwCl ws' H1 → va_D A0 ws' → va_S A0 H0 H1 locs1 → W p l e R s m args below meth c H1 locs1 cells slots Q (F0 m (pc + 1) ls rest)) : W p l e R s m args below meth c H locs cells slots Q (F0 m pc ls (.int 1 :: .int i :: .ref b :: rest)) := by
  subst hset
  exact va_zast hexec hb hB.1 hP hD hS q0 2 ha rfl hin hdg kk
/-- the walk's goal, by a short name -/
theorem xw_go {g : JFrame} (k : ∀ WW : Heap → List Loc → JFrame → Prop, (∀ H locs g, WW H locs g ↔ W p l e R s m args below meth c H locs 0 0 Q g) → W p l e R s m args below meth c H locs 0 0 Q g) : W p l e R s m args below meth c H locs 0 0 Q g := k _ (fun _ _ _ => Iff.rfl)
end XWC
theorem xw_ne {x k : Int32} {a : Int} (h : ¬ x = k) (hk : k.toInt = a) : x.toInt ≠ a := fun q => h (Int32.toInt_inj.mp (by rw [hk]; exact q))
theorem xw_tab2 {x : Int32} (h0 : ¬ x = 0) (h1 : ¬ x = 1) (h2 : ¬ x = 2) : x.toInt < 0 ∨ 2 < x.toInt := by
  have g0 := xw_ne (a := 0) h0 (by decide)
  have g1 := xw_ne (a := 1) h1 (by decide)
  have g2 := xw_ne (a := 2) h2 (by decide)
  omega
theorem xw_tab7 {x : Int32} (h0 : ¬ x = 0) (h1 : ¬ x = 1) (h2 : ¬ x = 2) (h3 : ¬ x = 3) (h4 : ¬ x = 4) (h5 : ¬ x = 5) (h6 : ¬ x = 6) (h7 : ¬ x = 7) : x.toInt < 0 ∨ 7 < x.toInt := by
  have g0 := xw_ne (a := 0) h0 (by decide)
  have g1 := xw_ne (a := 1) h1 (by decide)
  have g2 := xw_ne (a := 2) h2 (by decide)
  have g3 := xw_ne (a := 3) h3 (by decide)
  have g4 := xw_ne (a := 4) h4 (by decide)
  have g5 := xw_ne (a := 5) h5 (by decide)
  have g6 := xw_ne (a := 6) h6 (by decide)
  have g7 := xw_ne (a := 7) h7 (by decide)
  omega
theorem xw_tab9 {x : Int32} (h0 : ¬ x = 0) (h1 : ¬ x = 1) (h2 : ¬ x = 2) (h3 : ¬ x = 3) (h4 : ¬ x = 4) (h5 : ¬ x = 5) (h6 : ¬ x = 6) (h7 : ¬ x = 7) (h8 : ¬ x = 8) (h9 : ¬ x = 9) : x.toInt < 0 ∨ 9 < x.toInt := by
  have g0 := xw_ne (a := 0) h0 (by decide)
  have g1 := xw_ne (a := 1) h1 (by decide)
  have g2 := xw_ne (a := 2) h2 (by decide)
  have g3 := xw_ne (a := 3) h3 (by decide)
  have g4 := xw_ne (a := 4) h4 (by decide)
  have g5 := xw_ne (a := 5) h5 (by decide)
  have g6 := xw_ne (a := 6) h6 (by decide)
  have g7 := xw_ne (a := 7) h7 (by decide)
  have g8 := xw_ne (a := 8) h8 (by decide)
  have g9 := xw_ne (a := 9) h9 (by decide)
  omega
theorem xw_tab12 {x : Int32} (h0 : ¬ x = 0) (h1 : ¬ x = 1) (h2 : ¬ x = 2) (h3 : ¬ x = 3) (h4 : ¬ x = 4) (h5 : ¬ x = 5) (h6 : ¬ x = 6) (h7 : ¬ x = 7) (h8 : ¬ x = 8) (h9 : ¬ x = 9) (h10 : ¬ x = 10) (h11 : ¬ x = 11) (h12 : ¬ x = 12) : x.toInt < 0 ∨ 12 < x.toInt := by
  have g0 := xw_ne (a := 0) h0 (by decide)
  have g1 := xw_ne (a := 1) h1 (by decide)
  have g2 := xw_ne (a := 2) h2 (by decide)
  have g3 := xw_ne (a := 3) h3 (by decide)
  have g4 := xw_ne (a := 4) h4 (by decide)
  have g5 := xw_ne (a := 5) h5 (by decide)
  have g6 := xw_ne (a := 6) h6 (by decide)
  have g7 := xw_ne (a := 7) h7 (by decide)
  have g8 := xw_ne (a := 8) h8 (by decide)
  have g9 := xw_ne (a := 9) h9 (by decide)
  have g10 := xw_ne (a := 10) h10 (by decide)
  have g11 := xw_ne (a := 11) h11 (by decide)
  have g12 := xw_ne (a := 12) h12 (by decide)
  omega
def xC_w (cy : Nat → ClassId) (a : Nat → Nat) (I : xw_I) (F : xw_F) (G : xw_G) : va_W := [(a 0, .inr (7, [.ref (a 1), .ref (a 11), .ref (a 39), .ref (a 21), .ref (a 25), .ref (a 32), .ref (a 36), .int (I 0)])), (a 1, .inr (1, [.ref (a 2), .int (I 1), .ref (a 10)])), (a 2, .inr (4, [.int (I 2), .int (I 3), .int (I 4), .int (I 5), .int (I 6), .ref (a 3), .ref (a 4), .ref (a 5), .ref (a 6), .ref (a 7), .ref (a 8), .ref (a 9)])), (a 3, .inl (cy 0, 5, .inl (F 3))), (a 4, .inl (cy 0, 5, .inl (F 4))), (a 5, .inl (cy 0, 5, .inl (F 5))), (a 6, .inl (cy 0, 5, .inl (F 6))), (a 7, .inl (cy 0, 3, .inl (F 7))), (a 8, .inl (cy 0, 3, .inl (F 8))), (a 9, .inl (cy 0, 5, .inl (F 9))), (a 10, .inl (cy 0, 30, .inl (F 10))), (a 11, .inr (3, [.ref (a 12), .ref (a 20), .int (I 12)])), (a 12, .inr (4, [.int (I 7), .int (I 8), .int (I 9), .int (I 10), .int (I 11), .ref (a 13), .ref (a 14), .ref (a 15), .ref (a 16), .ref (a 17), .ref (a 18), .ref (a 19)])), (a 13, .inl (cy 0, 5, .inl (F 13))), (a 14, .inl (cy 0, 5, .inl (F 14))), (a 15, .inl (cy 0, 5, .inl (F 15))), (a 16, .inl (cy 0, 5, .inl (F 16))), (a 17, .inl (cy 0, 3, .inl (F 17))), (a 18, .inl (cy 0, 3, .inl (F 18))), (a 19, .inl (cy 0, 5, .inl (F 19))), (a 20, .inl (cy 0, 12, .inl (F 20))), (a 21, .inr (5, [.ref (a 22), .ref (a 23), .ref (a 24), .int (I 13)])), (a 22, .inl (cy 0, 5, .inl (F 22))), (a 23, .inl (cy 0, 5, .inl (F 23))), (a 24, .inl (cy 0, 3, .inl (F 24))), (a 25, .inr (2, [.ref (a 26), .ref (a 27), .ref (a 28), .int (I 14), .ref (a 29), .ref (a 30), .ref (a 31), .int (I 15)])), (a 26, .inl (cy 0, 5, .inl (F 26))), (a 27, .inl (cy 0, 5, .inl (F 27))), (a 28, .inl (cy 0, 5, .inl (F 28))), (a 29, .inl (cy 1, 405, .inr (.inl (G 29)))), (a 30, .inl (cy 1, 2592, .inr (.inl (G 30)))), (a 31, .inl (cy 0, 32, .inl (F 31))), (a 32, .inr (0, [.ref (a 33), .int (I 16), .ref (a 34), .ref (a 35)])), (a 33, .inl (cy 0, 3, .inl (F 33))), (a 34, .inl (cy 0, 36, .inl (F 34))), (a 35, .inl (cy 0, 27, .inl (F 35))), (a 36, .inr (6, [.ref (a 37), .int (I 17), .ref (a 38)])), (a 37, .inl (cy 0, 21, .inl (F 37))), (a 38, .inl (cy 0, 5, .inl (F 38)))]
theorem xC_c0 {cy : Nat → ClassId} {a : Nat → Nat} {I : xw_I} {F : xw_F} {G : xw_G} : (xC_w cy a I F G)[0]? = some (a 0, .inr (7, [.ref (a 1), .ref (a 11), .ref (a 39), .ref (a 21), .ref (a 25), .ref (a 32), .ref (a 36), .int (I 0)])) := rfl
theorem xC_c1 {cy : Nat → ClassId} {a : Nat → Nat} {I : xw_I} {F : xw_F} {G : xw_G} : (xC_w cy a I F G)[1]? = some (a 1, .inr (1, [.ref (a 2), .int (I 1), .ref (a 10)])) := rfl
theorem xC_c2 {cy : Nat → ClassId} {a : Nat → Nat} {I : xw_I} {F : xw_F} {G : xw_G} : (xC_w cy a I F G)[2]? = some (a 2, .inr (4, [.int (I 2), .int (I 3), .int (I 4), .int (I 5), .int (I 6), .ref (a 3), .ref (a 4), .ref (a 5), .ref (a 6), .ref (a 7), .ref (a 8), .ref (a 9)])) := rfl
theorem xC_c3 {cy : Nat → ClassId} {a : Nat → Nat} {I : xw_I} {F : xw_F} {G : xw_G} : (xC_w cy a I F G)[3]? = some (a 3, .inl (cy 0, 5, .inl (F 3))) := rfl
theorem xC_c4 {cy : Nat → ClassId} {a : Nat → Nat} {I : xw_I} {F : xw_F} {G : xw_G} : (xC_w cy a I F G)[4]? = some (a 4, .inl (cy 0, 5, .inl (F 4))) := rfl
theorem xC_c5 {cy : Nat → ClassId} {a : Nat → Nat} {I : xw_I} {F : xw_F} {G : xw_G} : (xC_w cy a I F G)[5]? = some (a 5, .inl (cy 0, 5, .inl (F 5))) := rfl
theorem xC_c6 {cy : Nat → ClassId} {a : Nat → Nat} {I : xw_I} {F : xw_F} {G : xw_G} : (xC_w cy a I F G)[6]? = some (a 6, .inl (cy 0, 5, .inl (F 6))) := rfl
theorem xC_c7 {cy : Nat → ClassId} {a : Nat → Nat} {I : xw_I} {F : xw_F} {G : xw_G} : (xC_w cy a I F G)[7]? = some (a 7, .inl (cy 0, 3, .inl (F 7))) := rfl
theorem xC_c8 {cy : Nat → ClassId} {a : Nat → Nat} {I : xw_I} {F : xw_F} {G : xw_G} : (xC_w cy a I F G)[8]? = some (a 8, .inl (cy 0, 3, .inl (F 8))) := rfl
theorem xC_c9 {cy : Nat → ClassId} {a : Nat → Nat} {I : xw_I} {F : xw_F} {G : xw_G} : (xC_w cy a I F G)[9]? = some (a 9, .inl (cy 0, 5, .inl (F 9))) := rfl
theorem xC_c10 {cy : Nat → ClassId} {a : Nat → Nat} {I : xw_I} {F : xw_F} {G : xw_G} : (xC_w cy a I F G)[10]? = some (a 10, .inl (cy 0, 30, .inl (F 10))) := rfl
theorem xC_c11 {cy : Nat → ClassId} {a : Nat → Nat} {I : xw_I} {F : xw_F} {G : xw_G} : (xC_w cy a I F G)[11]? = some (a 11, .inr (3, [.ref (a 12), .ref (a 20), .int (I 12)])) := rfl
theorem xC_c12 {cy : Nat → ClassId} {a : Nat → Nat} {I : xw_I} {F : xw_F} {G : xw_G} : (xC_w cy a I F G)[12]? = some (a 12, .inr (4, [.int (I 7), .int (I 8), .int (I 9), .int (I 10), .int (I 11), .ref (a 13), .ref (a 14), .ref (a 15), .ref (a 16), .ref (a 17), .ref (a 18), .ref (a 19)])) := rfl
theorem xC_c13 {cy : Nat → ClassId} {a : Nat → Nat} {I : xw_I} {F : xw_F} {G : xw_G} : (xC_w cy a I F G)[13]? = some (a 13, .inl (cy 0, 5, .inl (F 13))) := rfl
theorem xC_c14 {cy : Nat → ClassId} {a : Nat → Nat} {I : xw_I} {F : xw_F} {G : xw_G} : (xC_w cy a I F G)[14]? = some (a 14, .inl (cy 0, 5, .inl (F 14))) := rfl
theorem xC_c15 {cy : Nat → ClassId} {a : Nat → Nat} {I : xw_I} {F : xw_F} {G : xw_G} : (xC_w cy a I F G)[15]? = some (a 15, .inl (cy 0, 5, .inl (F 15))) := rfl
theorem xC_c16 {cy : Nat → ClassId} {a : Nat → Nat} {I : xw_I} {F : xw_F} {G : xw_G} : (xC_w cy a I F G)[16]? = some (a 16, .inl (cy 0, 5, .inl (F 16))) := rfl
theorem xC_c17 {cy : Nat → ClassId} {a : Nat → Nat} {I : xw_I} {F : xw_F} {G : xw_G} : (xC_w cy a I F G)[17]? = some (a 17, .inl (cy 0, 3, .inl (F 17))) := rfl
theorem xC_c18 {cy : Nat → ClassId} {a : Nat → Nat} {I : xw_I} {F : xw_F} {G : xw_G} : (xC_w cy a I F G)[18]? = some (a 18, .inl (cy 0, 3, .inl (F 18))) := rfl
theorem xC_c19 {cy : Nat → ClassId} {a : Nat → Nat} {I : xw_I} {F : xw_F} {G : xw_G} : (xC_w cy a I F G)[19]? = some (a 19, .inl (cy 0, 5, .inl (F 19))) := rfl
theorem xC_c20 {cy : Nat → ClassId} {a : Nat → Nat} {I : xw_I} {F : xw_F} {G : xw_G} : (xC_w cy a I F G)[20]? = some (a 20, .inl (cy 0, 12, .inl (F 20))) := rfl
theorem xC_c21 {cy : Nat → ClassId} {a : Nat → Nat} {I : xw_I} {F : xw_F} {G : xw_G} : (xC_w cy a I F G)[21]? = some (a 21, .inr (5, [.ref (a 22), .ref (a 23), .ref (a 24), .int (I 13)])) := rfl
theorem xC_c22 {cy : Nat → ClassId} {a : Nat → Nat} {I : xw_I} {F : xw_F} {G : xw_G} : (xC_w cy a I F G)[22]? = some (a 22, .inl (cy 0, 5, .inl (F 22))) := rfl
theorem xC_c23 {cy : Nat → ClassId} {a : Nat → Nat} {I : xw_I} {F : xw_F} {G : xw_G} : (xC_w cy a I F G)[23]? = some (a 23, .inl (cy 0, 5, .inl (F 23))) := rfl
theorem xC_c24 {cy : Nat → ClassId} {a : Nat → Nat} {I : xw_I} {F : xw_F} {G : xw_G} : (xC_w cy a I F G)[24]? = some (a 24, .inl (cy 0, 3, .inl (F 24))) := rfl
theorem xC_c25 {cy : Nat → ClassId} {a : Nat → Nat} {I : xw_I} {F : xw_F} {G : xw_G} : (xC_w cy a I F G)[25]? = some (a 25, .inr (2, [.ref (a 26), .ref (a 27), .ref (a 28), .int (I 14), .ref (a 29), .ref (a 30), .ref (a 31), .int (I 15)])) := rfl
theorem xC_c26 {cy : Nat → ClassId} {a : Nat → Nat} {I : xw_I} {F : xw_F} {G : xw_G} : (xC_w cy a I F G)[26]? = some (a 26, .inl (cy 0, 5, .inl (F 26))) := rfl
theorem xC_c27 {cy : Nat → ClassId} {a : Nat → Nat} {I : xw_I} {F : xw_F} {G : xw_G} : (xC_w cy a I F G)[27]? = some (a 27, .inl (cy 0, 5, .inl (F 27))) := rfl
theorem xC_c28 {cy : Nat → ClassId} {a : Nat → Nat} {I : xw_I} {F : xw_F} {G : xw_G} : (xC_w cy a I F G)[28]? = some (a 28, .inl (cy 0, 5, .inl (F 28))) := rfl
theorem xC_c29 {cy : Nat → ClassId} {a : Nat → Nat} {I : xw_I} {F : xw_F} {G : xw_G} : (xC_w cy a I F G)[29]? = some (a 29, .inl (cy 1, 405, .inr (.inl (G 29)))) := rfl
theorem xC_c30 {cy : Nat → ClassId} {a : Nat → Nat} {I : xw_I} {F : xw_F} {G : xw_G} : (xC_w cy a I F G)[30]? = some (a 30, .inl (cy 1, 2592, .inr (.inl (G 30)))) := rfl
theorem xC_c31 {cy : Nat → ClassId} {a : Nat → Nat} {I : xw_I} {F : xw_F} {G : xw_G} : (xC_w cy a I F G)[31]? = some (a 31, .inl (cy 0, 32, .inl (F 31))) := rfl
theorem xC_c32 {cy : Nat → ClassId} {a : Nat → Nat} {I : xw_I} {F : xw_F} {G : xw_G} : (xC_w cy a I F G)[32]? = some (a 32, .inr (0, [.ref (a 33), .int (I 16), .ref (a 34), .ref (a 35)])) := rfl
theorem xC_c33 {cy : Nat → ClassId} {a : Nat → Nat} {I : xw_I} {F : xw_F} {G : xw_G} : (xC_w cy a I F G)[33]? = some (a 33, .inl (cy 0, 3, .inl (F 33))) := rfl
theorem xC_c34 {cy : Nat → ClassId} {a : Nat → Nat} {I : xw_I} {F : xw_F} {G : xw_G} : (xC_w cy a I F G)[34]? = some (a 34, .inl (cy 0, 36, .inl (F 34))) := rfl
theorem xC_c35 {cy : Nat → ClassId} {a : Nat → Nat} {I : xw_I} {F : xw_F} {G : xw_G} : (xC_w cy a I F G)[35]? = some (a 35, .inl (cy 0, 27, .inl (F 35))) := rfl
theorem xC_c36 {cy : Nat → ClassId} {a : Nat → Nat} {I : xw_I} {F : xw_F} {G : xw_G} : (xC_w cy a I F G)[36]? = some (a 36, .inr (6, [.ref (a 37), .int (I 17), .ref (a 38)])) := rfl
theorem xC_c37 {cy : Nat → ClassId} {a : Nat → Nat} {I : xw_I} {F : xw_F} {G : xw_G} : (xC_w cy a I F G)[37]? = some (a 37, .inl (cy 0, 21, .inl (F 37))) := rfl
theorem xC_c38 {cy : Nat → ClassId} {a : Nat → Nat} {I : xw_I} {F : xw_F} {G : xw_G} : (xC_w cy a I F G)[38]? = some (a 38, .inl (cy 0, 5, .inl (F 38))) := rfl
theorem xC_i0 {cy : Nat → ClassId} {a : Nat → Nat} {I : xw_I} {F : xw_F} {G : xw_G} {v : Int32} : (xC_w cy a I F G).set 0 (a 0, .inr (7, ([.ref (a 1), .ref (a 11), .ref (a 39), .ref (a 21), .ref (a 25), .ref (a 32), .ref (a 36), .int (I 0)] : List Value).set 7 (.int v))) = xC_w cy a (xw_up I 0 v) F G := rfl
theorem xC_i1 {cy : Nat → ClassId} {a : Nat → Nat} {I : xw_I} {F : xw_F} {G : xw_G} {v : Int32} : (xC_w cy a I F G).set 1 (a 1, .inr (1, ([.ref (a 2), .int (I 1), .ref (a 10)] : List Value).set 1 (.int v))) = xC_w cy a (xw_up I 1 v) F G := rfl
theorem xC_i2 {cy : Nat → ClassId} {a : Nat → Nat} {I : xw_I} {F : xw_F} {G : xw_G} {v : Int32} : (xC_w cy a I F G).set 2 (a 2, .inr (4, ([.int (I 2), .int (I 3), .int (I 4), .int (I 5), .int (I 6), .ref (a 3), .ref (a 4), .ref (a 5), .ref (a 6), .ref (a 7), .ref (a 8), .ref (a 9)] : List Value).set 0 (.int v))) = xC_w cy a (xw_up I 2 v) F G := rfl
theorem xC_i3 {cy : Nat → ClassId} {a : Nat → Nat} {I : xw_I} {F : xw_F} {G : xw_G} {v : Int32} : (xC_w cy a I F G).set 2 (a 2, .inr (4, ([.int (I 2), .int (I 3), .int (I 4), .int (I 5), .int (I 6), .ref (a 3), .ref (a 4), .ref (a 5), .ref (a 6), .ref (a 7), .ref (a 8), .ref (a 9)] : List Value).set 1 (.int v))) = xC_w cy a (xw_up I 3 v) F G := rfl
theorem xC_i4 {cy : Nat → ClassId} {a : Nat → Nat} {I : xw_I} {F : xw_F} {G : xw_G} {v : Int32} : (xC_w cy a I F G).set 2 (a 2, .inr (4, ([.int (I 2), .int (I 3), .int (I 4), .int (I 5), .int (I 6), .ref (a 3), .ref (a 4), .ref (a 5), .ref (a 6), .ref (a 7), .ref (a 8), .ref (a 9)] : List Value).set 2 (.int v))) = xC_w cy a (xw_up I 4 v) F G := rfl
theorem xC_i5 {cy : Nat → ClassId} {a : Nat → Nat} {I : xw_I} {F : xw_F} {G : xw_G} {v : Int32} : (xC_w cy a I F G).set 2 (a 2, .inr (4, ([.int (I 2), .int (I 3), .int (I 4), .int (I 5), .int (I 6), .ref (a 3), .ref (a 4), .ref (a 5), .ref (a 6), .ref (a 7), .ref (a 8), .ref (a 9)] : List Value).set 3 (.int v))) = xC_w cy a (xw_up I 5 v) F G := rfl
theorem xC_i6 {cy : Nat → ClassId} {a : Nat → Nat} {I : xw_I} {F : xw_F} {G : xw_G} {v : Int32} : (xC_w cy a I F G).set 2 (a 2, .inr (4, ([.int (I 2), .int (I 3), .int (I 4), .int (I 5), .int (I 6), .ref (a 3), .ref (a 4), .ref (a 5), .ref (a 6), .ref (a 7), .ref (a 8), .ref (a 9)] : List Value).set 4 (.int v))) = xC_w cy a (xw_up I 6 v) F G := rfl
theorem xC_f3 {cy : Nat → ClassId} {a : Nat → Nat} {I : xw_I} {F : xw_F} {G : xw_G} {f : Nat → Int32} : (xC_w cy a I F G).set 3 (a 3, .inl (cy 0, 5, .inl f)) = xC_w cy a I (xw_up F 3 f) G := rfl
theorem xC_f4 {cy : Nat → ClassId} {a : Nat → Nat} {I : xw_I} {F : xw_F} {G : xw_G} {f : Nat → Int32} : (xC_w cy a I F G).set 4 (a 4, .inl (cy 0, 5, .inl f)) = xC_w cy a I (xw_up F 4 f) G := rfl
theorem xC_f5 {cy : Nat → ClassId} {a : Nat → Nat} {I : xw_I} {F : xw_F} {G : xw_G} {f : Nat → Int32} : (xC_w cy a I F G).set 5 (a 5, .inl (cy 0, 5, .inl f)) = xC_w cy a I (xw_up F 5 f) G := rfl
theorem xC_f6 {cy : Nat → ClassId} {a : Nat → Nat} {I : xw_I} {F : xw_F} {G : xw_G} {f : Nat → Int32} : (xC_w cy a I F G).set 6 (a 6, .inl (cy 0, 5, .inl f)) = xC_w cy a I (xw_up F 6 f) G := rfl
theorem xC_f7 {cy : Nat → ClassId} {a : Nat → Nat} {I : xw_I} {F : xw_F} {G : xw_G} {f : Nat → Int32} : (xC_w cy a I F G).set 7 (a 7, .inl (cy 0, 3, .inl f)) = xC_w cy a I (xw_up F 7 f) G := rfl
theorem xC_f8 {cy : Nat → ClassId} {a : Nat → Nat} {I : xw_I} {F : xw_F} {G : xw_G} {f : Nat → Int32} : (xC_w cy a I F G).set 8 (a 8, .inl (cy 0, 3, .inl f)) = xC_w cy a I (xw_up F 8 f) G := rfl
theorem xC_f9 {cy : Nat → ClassId} {a : Nat → Nat} {I : xw_I} {F : xw_F} {G : xw_G} {f : Nat → Int32} : (xC_w cy a I F G).set 9 (a 9, .inl (cy 0, 5, .inl f)) = xC_w cy a I (xw_up F 9 f) G := rfl
theorem xC_f10 {cy : Nat → ClassId} {a : Nat → Nat} {I : xw_I} {F : xw_F} {G : xw_G} {f : Nat → Int32} : (xC_w cy a I F G).set 10 (a 10, .inl (cy 0, 30, .inl f)) = xC_w cy a I (xw_up F 10 f) G := rfl
theorem xC_i12 {cy : Nat → ClassId} {a : Nat → Nat} {I : xw_I} {F : xw_F} {G : xw_G} {v : Int32} : (xC_w cy a I F G).set 11 (a 11, .inr (3, ([.ref (a 12), .ref (a 20), .int (I 12)] : List Value).set 2 (.int v))) = xC_w cy a (xw_up I 12 v) F G := rfl
theorem xC_i7 {cy : Nat → ClassId} {a : Nat → Nat} {I : xw_I} {F : xw_F} {G : xw_G} {v : Int32} : (xC_w cy a I F G).set 12 (a 12, .inr (4, ([.int (I 7), .int (I 8), .int (I 9), .int (I 10), .int (I 11), .ref (a 13), .ref (a 14), .ref (a 15), .ref (a 16), .ref (a 17), .ref (a 18), .ref (a 19)] : List Value).set 0 (.int v))) = xC_w cy a (xw_up I 7 v) F G := rfl
theorem xC_i8 {cy : Nat → ClassId} {a : Nat → Nat} {I : xw_I} {F : xw_F} {G : xw_G} {v : Int32} : (xC_w cy a I F G).set 12 (a 12, .inr (4, ([.int (I 7), .int (I 8), .int (I 9), .int (I 10), .int (I 11), .ref (a 13), .ref (a 14), .ref (a 15), .ref (a 16), .ref (a 17), .ref (a 18), .ref (a 19)] : List Value).set 1 (.int v))) = xC_w cy a (xw_up I 8 v) F G := rfl
theorem xC_i9 {cy : Nat → ClassId} {a : Nat → Nat} {I : xw_I} {F : xw_F} {G : xw_G} {v : Int32} : (xC_w cy a I F G).set 12 (a 12, .inr (4, ([.int (I 7), .int (I 8), .int (I 9), .int (I 10), .int (I 11), .ref (a 13), .ref (a 14), .ref (a 15), .ref (a 16), .ref (a 17), .ref (a 18), .ref (a 19)] : List Value).set 2 (.int v))) = xC_w cy a (xw_up I 9 v) F G := rfl
theorem xC_i10 {cy : Nat → ClassId} {a : Nat → Nat} {I : xw_I} {F : xw_F} {G : xw_G} {v : Int32} : (xC_w cy a I F G).set 12 (a 12, .inr (4, ([.int (I 7), .int (I 8), .int (I 9), .int (I 10), .int (I 11), .ref (a 13), .ref (a 14), .ref (a 15), .ref (a 16), .ref (a 17), .ref (a 18), .ref (a 19)] : List Value).set 3 (.int v))) = xC_w cy a (xw_up I 10 v) F G := rfl
theorem xC_i11 {cy : Nat → ClassId} {a : Nat → Nat} {I : xw_I} {F : xw_F} {G : xw_G} {v : Int32} : (xC_w cy a I F G).set 12 (a 12, .inr (4, ([.int (I 7), .int (I 8), .int (I 9), .int (I 10), .int (I 11), .ref (a 13), .ref (a 14), .ref (a 15), .ref (a 16), .ref (a 17), .ref (a 18), .ref (a 19)] : List Value).set 4 (.int v))) = xC_w cy a (xw_up I 11 v) F G := rfl
theorem xC_f13 {cy : Nat → ClassId} {a : Nat → Nat} {I : xw_I} {F : xw_F} {G : xw_G} {f : Nat → Int32} : (xC_w cy a I F G).set 13 (a 13, .inl (cy 0, 5, .inl f)) = xC_w cy a I (xw_up F 13 f) G := rfl
theorem xC_f14 {cy : Nat → ClassId} {a : Nat → Nat} {I : xw_I} {F : xw_F} {G : xw_G} {f : Nat → Int32} : (xC_w cy a I F G).set 14 (a 14, .inl (cy 0, 5, .inl f)) = xC_w cy a I (xw_up F 14 f) G := rfl
theorem xC_f15 {cy : Nat → ClassId} {a : Nat → Nat} {I : xw_I} {F : xw_F} {G : xw_G} {f : Nat → Int32} : (xC_w cy a I F G).set 15 (a 15, .inl (cy 0, 5, .inl f)) = xC_w cy a I (xw_up F 15 f) G := rfl
theorem xC_f16 {cy : Nat → ClassId} {a : Nat → Nat} {I : xw_I} {F : xw_F} {G : xw_G} {f : Nat → Int32} : (xC_w cy a I F G).set 16 (a 16, .inl (cy 0, 5, .inl f)) = xC_w cy a I (xw_up F 16 f) G := rfl
theorem xC_f17 {cy : Nat → ClassId} {a : Nat → Nat} {I : xw_I} {F : xw_F} {G : xw_G} {f : Nat → Int32} : (xC_w cy a I F G).set 17 (a 17, .inl (cy 0, 3, .inl f)) = xC_w cy a I (xw_up F 17 f) G := rfl
theorem xC_f18 {cy : Nat → ClassId} {a : Nat → Nat} {I : xw_I} {F : xw_F} {G : xw_G} {f : Nat → Int32} : (xC_w cy a I F G).set 18 (a 18, .inl (cy 0, 3, .inl f)) = xC_w cy a I (xw_up F 18 f) G := rfl
theorem xC_f19 {cy : Nat → ClassId} {a : Nat → Nat} {I : xw_I} {F : xw_F} {G : xw_G} {f : Nat → Int32} : (xC_w cy a I F G).set 19 (a 19, .inl (cy 0, 5, .inl f)) = xC_w cy a I (xw_up F 19 f) G := rfl
theorem xC_f20 {cy : Nat → ClassId} {a : Nat → Nat} {I : xw_I} {F : xw_F} {G : xw_G} {f : Nat → Int32} : (xC_w cy a I F G).set 20 (a 20, .inl (cy 0, 12, .inl f)) = xC_w cy a I (xw_up F 20 f) G := rfl
theorem xC_i13 {cy : Nat → ClassId} {a : Nat → Nat} {I : xw_I} {F : xw_F} {G : xw_G} {v : Int32} : (xC_w cy a I F G).set 21 (a 21, .inr (5, ([.ref (a 22), .ref (a 23), .ref (a 24), .int (I 13)] : List Value).set 3 (.int v))) = xC_w cy a (xw_up I 13 v) F G := rfl
theorem xC_f22 {cy : Nat → ClassId} {a : Nat → Nat} {I : xw_I} {F : xw_F} {G : xw_G} {f : Nat → Int32} : (xC_w cy a I F G).set 22 (a 22, .inl (cy 0, 5, .inl f)) = xC_w cy a I (xw_up F 22 f) G := rfl
theorem xC_f23 {cy : Nat → ClassId} {a : Nat → Nat} {I : xw_I} {F : xw_F} {G : xw_G} {f : Nat → Int32} : (xC_w cy a I F G).set 23 (a 23, .inl (cy 0, 5, .inl f)) = xC_w cy a I (xw_up F 23 f) G := rfl
theorem xC_f24 {cy : Nat → ClassId} {a : Nat → Nat} {I : xw_I} {F : xw_F} {G : xw_G} {f : Nat → Int32} : (xC_w cy a I F G).set 24 (a 24, .inl (cy 0, 3, .inl f)) = xC_w cy a I (xw_up F 24 f) G := rfl
theorem xC_i14 {cy : Nat → ClassId} {a : Nat → Nat} {I : xw_I} {F : xw_F} {G : xw_G} {v : Int32} : (xC_w cy a I F G).set 25 (a 25, .inr (2, ([.ref (a 26), .ref (a 27), .ref (a 28), .int (I 14), .ref (a 29), .ref (a 30), .ref (a 31), .int (I 15)] : List Value).set 3 (.int v))) = xC_w cy a (xw_up I 14 v) F G := rfl
theorem xC_i15 {cy : Nat → ClassId} {a : Nat → Nat} {I : xw_I} {F : xw_F} {G : xw_G} {v : Int32} : (xC_w cy a I F G).set 25 (a 25, .inr (2, ([.ref (a 26), .ref (a 27), .ref (a 28), .int (I 14), .ref (a 29), .ref (a 30), .ref (a 31), .int (I 15)] : List Value).set 7 (.int v))) = xC_w cy a (xw_up I 15 v) F G := rfl
theorem xC_f26 {cy : Nat → ClassId} {a : Nat → Nat} {I : xw_I} {F : xw_F} {G : xw_G} {f : Nat → Int32} : (xC_w cy a I F G).set 26 (a 26, .inl (cy 0, 5, .inl f)) = xC_w cy a I (xw_up F 26 f) G := rfl
theorem xC_f27 {cy : Nat → ClassId} {a : Nat → Nat} {I : xw_I} {F : xw_F} {G : xw_G} {f : Nat → Int32} : (xC_w cy a I F G).set 27 (a 27, .inl (cy 0, 5, .inl f)) = xC_w cy a I (xw_up F 27 f) G := rfl
theorem xC_f28 {cy : Nat → ClassId} {a : Nat → Nat} {I : xw_I} {F : xw_F} {G : xw_G} {f : Nat → Int32} : (xC_w cy a I F G).set 28 (a 28, .inl (cy 0, 5, .inl f)) = xC_w cy a I (xw_up F 28 f) G := rfl
theorem xC_f29 {cy : Nat → ClassId} {a : Nat → Nat} {I : xw_I} {F : xw_F} {G : xw_G} {f : Nat → Int64} : (xC_w cy a I F G).set 29 (a 29, .inl (cy 1, 405, .inr (.inl f))) = xC_w cy a I F (xw_up G 29 f) := rfl
theorem xC_f30 {cy : Nat → ClassId} {a : Nat → Nat} {I : xw_I} {F : xw_F} {G : xw_G} {f : Nat → Int64} : (xC_w cy a I F G).set 30 (a 30, .inl (cy 1, 2592, .inr (.inl f))) = xC_w cy a I F (xw_up G 30 f) := rfl
theorem xC_f31 {cy : Nat → ClassId} {a : Nat → Nat} {I : xw_I} {F : xw_F} {G : xw_G} {f : Nat → Int32} : (xC_w cy a I F G).set 31 (a 31, .inl (cy 0, 32, .inl f)) = xC_w cy a I (xw_up F 31 f) G := rfl
theorem xC_i16 {cy : Nat → ClassId} {a : Nat → Nat} {I : xw_I} {F : xw_F} {G : xw_G} {v : Int32} : (xC_w cy a I F G).set 32 (a 32, .inr (0, ([.ref (a 33), .int (I 16), .ref (a 34), .ref (a 35)] : List Value).set 1 (.int v))) = xC_w cy a (xw_up I 16 v) F G := rfl
theorem xC_f33 {cy : Nat → ClassId} {a : Nat → Nat} {I : xw_I} {F : xw_F} {G : xw_G} {f : Nat → Int32} : (xC_w cy a I F G).set 33 (a 33, .inl (cy 0, 3, .inl f)) = xC_w cy a I (xw_up F 33 f) G := rfl
theorem xC_f34 {cy : Nat → ClassId} {a : Nat → Nat} {I : xw_I} {F : xw_F} {G : xw_G} {f : Nat → Int32} : (xC_w cy a I F G).set 34 (a 34, .inl (cy 0, 36, .inl f)) = xC_w cy a I (xw_up F 34 f) G := rfl
theorem xC_f35 {cy : Nat → ClassId} {a : Nat → Nat} {I : xw_I} {F : xw_F} {G : xw_G} {f : Nat → Int32} : (xC_w cy a I F G).set 35 (a 35, .inl (cy 0, 27, .inl f)) = xC_w cy a I (xw_up F 35 f) G := rfl
theorem xC_i17 {cy : Nat → ClassId} {a : Nat → Nat} {I : xw_I} {F : xw_F} {G : xw_G} {v : Int32} : (xC_w cy a I F G).set 36 (a 36, .inr (6, ([.ref (a 37), .int (I 17), .ref (a 38)] : List Value).set 1 (.int v))) = xC_w cy a (xw_up I 17 v) F G := rfl
theorem xC_f37 {cy : Nat → ClassId} {a : Nat → Nat} {I : xw_I} {F : xw_F} {G : xw_G} {f : Nat → Int32} : (xC_w cy a I F G).set 37 (a 37, .inl (cy 0, 21, .inl f)) = xC_w cy a I (xw_up F 37 f) G := rfl
theorem xC_f38 {cy : Nat → ClassId} {a : Nat → Nat} {I : xw_I} {F : xw_F} {G : xw_G} {f : Nat → Int32} : (xC_w cy a I F G).set 38 (a 38, .inl (cy 0, 5, .inl f)) = xC_w cy a I (xw_up F 38 f) G := rfl
def xM_w (cy : Nat → ClassId) (a : Nat → Nat) (I : xw_I) (F : xw_F) (G : xw_G) : va_W := [(a 0, .inr (8, [.int (I 0), .ref (a 1), .ref (a 2), .ref (a 3), .ref (a 4), .ref (a 5), .int (I 1), .int (I 2), .ref (a 6), .int (I 3), .ref (a 7), .ref (a 8), .ref (a 9), .ref (a 10), .ref (a 11), .ref (a 12), .long (G 0 0), .int (I 4), .ref (a 13), .int (I 5), .ref (a 14), .ref (a 15)])), (a 1, .inl (cy 0, 5, .inl (F 1))), (a 2, .inl (cy 0, 5, .inl (F 2))), (a 3, .inl (cy 0, 5, .inl (F 3))), (a 4, .inl (cy 0, 3, .inl (F 4))), (a 5, .inl (cy 0, 3, .inl (F 5))), (a 6, .inl (cy 0, 12, .inl (F 6))), (a 7, .inl (cy 0, 30, .inl (F 7))), (a 8, .inl (cy 0, 5, .inl (F 8))), (a 9, .inl (cy 1, 2592, .inr (.inl (G 9)))), (a 10, .inl (cy 0, 5, .inl (F 10))), (a 11, .inl (cy 0, 5, .inl (F 11))), (a 12, .inl (cy 0, 3, .inl (F 12))), (a 13, .inl (cy 0, 30, .inl (F 13))), (a 14, .inl (cy 0, 80, .inl (F 14))), (a 15, .inl (cy 2, 2, .inl (F 15)))]
theorem xM_c0 {cy : Nat → ClassId} {a : Nat → Nat} {I : xw_I} {F : xw_F} {G : xw_G} : (xM_w cy a I F G)[0]? = some (a 0, .inr (8, [.int (I 0), .ref (a 1), .ref (a 2), .ref (a 3), .ref (a 4), .ref (a 5), .int (I 1), .int (I 2), .ref (a 6), .int (I 3), .ref (a 7), .ref (a 8), .ref (a 9), .ref (a 10), .ref (a 11), .ref (a 12), .long (G 0 0), .int (I 4), .ref (a 13), .int (I 5), .ref (a 14), .ref (a 15)])) := rfl
theorem xM_c1 {cy : Nat → ClassId} {a : Nat → Nat} {I : xw_I} {F : xw_F} {G : xw_G} : (xM_w cy a I F G)[1]? = some (a 1, .inl (cy 0, 5, .inl (F 1))) := rfl
theorem xM_c2 {cy : Nat → ClassId} {a : Nat → Nat} {I : xw_I} {F : xw_F} {G : xw_G} : (xM_w cy a I F G)[2]? = some (a 2, .inl (cy 0, 5, .inl (F 2))) := rfl
theorem xM_c3 {cy : Nat → ClassId} {a : Nat → Nat} {I : xw_I} {F : xw_F} {G : xw_G} : (xM_w cy a I F G)[3]? = some (a 3, .inl (cy 0, 5, .inl (F 3))) := rfl
theorem xM_c4 {cy : Nat → ClassId} {a : Nat → Nat} {I : xw_I} {F : xw_F} {G : xw_G} : (xM_w cy a I F G)[4]? = some (a 4, .inl (cy 0, 3, .inl (F 4))) := rfl
theorem xM_c5 {cy : Nat → ClassId} {a : Nat → Nat} {I : xw_I} {F : xw_F} {G : xw_G} : (xM_w cy a I F G)[5]? = some (a 5, .inl (cy 0, 3, .inl (F 5))) := rfl
theorem xM_c6 {cy : Nat → ClassId} {a : Nat → Nat} {I : xw_I} {F : xw_F} {G : xw_G} : (xM_w cy a I F G)[6]? = some (a 6, .inl (cy 0, 12, .inl (F 6))) := rfl
theorem xM_c7 {cy : Nat → ClassId} {a : Nat → Nat} {I : xw_I} {F : xw_F} {G : xw_G} : (xM_w cy a I F G)[7]? = some (a 7, .inl (cy 0, 30, .inl (F 7))) := rfl
theorem xM_c8 {cy : Nat → ClassId} {a : Nat → Nat} {I : xw_I} {F : xw_F} {G : xw_G} : (xM_w cy a I F G)[8]? = some (a 8, .inl (cy 0, 5, .inl (F 8))) := rfl
theorem xM_c9 {cy : Nat → ClassId} {a : Nat → Nat} {I : xw_I} {F : xw_F} {G : xw_G} : (xM_w cy a I F G)[9]? = some (a 9, .inl (cy 1, 2592, .inr (.inl (G 9)))) := rfl
theorem xM_c10 {cy : Nat → ClassId} {a : Nat → Nat} {I : xw_I} {F : xw_F} {G : xw_G} : (xM_w cy a I F G)[10]? = some (a 10, .inl (cy 0, 5, .inl (F 10))) := rfl
theorem xM_c11 {cy : Nat → ClassId} {a : Nat → Nat} {I : xw_I} {F : xw_F} {G : xw_G} : (xM_w cy a I F G)[11]? = some (a 11, .inl (cy 0, 5, .inl (F 11))) := rfl
theorem xM_c12 {cy : Nat → ClassId} {a : Nat → Nat} {I : xw_I} {F : xw_F} {G : xw_G} : (xM_w cy a I F G)[12]? = some (a 12, .inl (cy 0, 3, .inl (F 12))) := rfl
theorem xM_c13 {cy : Nat → ClassId} {a : Nat → Nat} {I : xw_I} {F : xw_F} {G : xw_G} : (xM_w cy a I F G)[13]? = some (a 13, .inl (cy 0, 30, .inl (F 13))) := rfl
theorem xM_c14 {cy : Nat → ClassId} {a : Nat → Nat} {I : xw_I} {F : xw_F} {G : xw_G} : (xM_w cy a I F G)[14]? = some (a 14, .inl (cy 0, 80, .inl (F 14))) := rfl
theorem xM_c15 {cy : Nat → ClassId} {a : Nat → Nat} {I : xw_I} {F : xw_F} {G : xw_G} : (xM_w cy a I F G)[15]? = some (a 15, .inl (cy 2, 2, .inl (F 15))) := rfl
theorem xM_i0 {cy : Nat → ClassId} {a : Nat → Nat} {I : xw_I} {F : xw_F} {G : xw_G} {v : Int32} : (xM_w cy a I F G).set 0 (a 0, .inr (8, ([.int (I 0), .ref (a 1), .ref (a 2), .ref (a 3), .ref (a 4), .ref (a 5), .int (I 1), .int (I 2), .ref (a 6), .int (I 3), .ref (a 7), .ref (a 8), .ref (a 9), .ref (a 10), .ref (a 11), .ref (a 12), .long (G 0 0), .int (I 4), .ref (a 13), .int (I 5), .ref (a 14), .ref (a 15)] : List Value).set 0 (.int v))) = xM_w cy a (xw_up I 0 v) F G := rfl
theorem xM_i1 {cy : Nat → ClassId} {a : Nat → Nat} {I : xw_I} {F : xw_F} {G : xw_G} {v : Int32} : (xM_w cy a I F G).set 0 (a 0, .inr (8, ([.int (I 0), .ref (a 1), .ref (a 2), .ref (a 3), .ref (a 4), .ref (a 5), .int (I 1), .int (I 2), .ref (a 6), .int (I 3), .ref (a 7), .ref (a 8), .ref (a 9), .ref (a 10), .ref (a 11), .ref (a 12), .long (G 0 0), .int (I 4), .ref (a 13), .int (I 5), .ref (a 14), .ref (a 15)] : List Value).set 6 (.int v))) = xM_w cy a (xw_up I 1 v) F G := rfl
theorem xM_i2 {cy : Nat → ClassId} {a : Nat → Nat} {I : xw_I} {F : xw_F} {G : xw_G} {v : Int32} : (xM_w cy a I F G).set 0 (a 0, .inr (8, ([.int (I 0), .ref (a 1), .ref (a 2), .ref (a 3), .ref (a 4), .ref (a 5), .int (I 1), .int (I 2), .ref (a 6), .int (I 3), .ref (a 7), .ref (a 8), .ref (a 9), .ref (a 10), .ref (a 11), .ref (a 12), .long (G 0 0), .int (I 4), .ref (a 13), .int (I 5), .ref (a 14), .ref (a 15)] : List Value).set 7 (.int v))) = xM_w cy a (xw_up I 2 v) F G := rfl
theorem xM_i3 {cy : Nat → ClassId} {a : Nat → Nat} {I : xw_I} {F : xw_F} {G : xw_G} {v : Int32} : (xM_w cy a I F G).set 0 (a 0, .inr (8, ([.int (I 0), .ref (a 1), .ref (a 2), .ref (a 3), .ref (a 4), .ref (a 5), .int (I 1), .int (I 2), .ref (a 6), .int (I 3), .ref (a 7), .ref (a 8), .ref (a 9), .ref (a 10), .ref (a 11), .ref (a 12), .long (G 0 0), .int (I 4), .ref (a 13), .int (I 5), .ref (a 14), .ref (a 15)] : List Value).set 9 (.int v))) = xM_w cy a (xw_up I 3 v) F G := rfl
theorem xM_l0 {cy : Nat → ClassId} {a : Nat → Nat} {I : xw_I} {F : xw_F} {G : xw_G} {v : Int64} : (xM_w cy a I F G).set 0 (a 0, .inr (8, ([.int (I 0), .ref (a 1), .ref (a 2), .ref (a 3), .ref (a 4), .ref (a 5), .int (I 1), .int (I 2), .ref (a 6), .int (I 3), .ref (a 7), .ref (a 8), .ref (a 9), .ref (a 10), .ref (a 11), .ref (a 12), .long (G 0 0), .int (I 4), .ref (a 13), .int (I 5), .ref (a 14), .ref (a 15)] : List Value).set 16 (.long v))) = xM_w cy a I F (xw_up G 0 (fun _ => v)) := rfl
theorem xM_i4 {cy : Nat → ClassId} {a : Nat → Nat} {I : xw_I} {F : xw_F} {G : xw_G} {v : Int32} : (xM_w cy a I F G).set 0 (a 0, .inr (8, ([.int (I 0), .ref (a 1), .ref (a 2), .ref (a 3), .ref (a 4), .ref (a 5), .int (I 1), .int (I 2), .ref (a 6), .int (I 3), .ref (a 7), .ref (a 8), .ref (a 9), .ref (a 10), .ref (a 11), .ref (a 12), .long (G 0 0), .int (I 4), .ref (a 13), .int (I 5), .ref (a 14), .ref (a 15)] : List Value).set 17 (.int v))) = xM_w cy a (xw_up I 4 v) F G := rfl
theorem xM_i5 {cy : Nat → ClassId} {a : Nat → Nat} {I : xw_I} {F : xw_F} {G : xw_G} {v : Int32} : (xM_w cy a I F G).set 0 (a 0, .inr (8, ([.int (I 0), .ref (a 1), .ref (a 2), .ref (a 3), .ref (a 4), .ref (a 5), .int (I 1), .int (I 2), .ref (a 6), .int (I 3), .ref (a 7), .ref (a 8), .ref (a 9), .ref (a 10), .ref (a 11), .ref (a 12), .long (G 0 0), .int (I 4), .ref (a 13), .int (I 5), .ref (a 14), .ref (a 15)] : List Value).set 19 (.int v))) = xM_w cy a (xw_up I 5 v) F G := rfl
theorem xM_f1 {cy : Nat → ClassId} {a : Nat → Nat} {I : xw_I} {F : xw_F} {G : xw_G} {f : Nat → Int32} : (xM_w cy a I F G).set 1 (a 1, .inl (cy 0, 5, .inl f)) = xM_w cy a I (xw_up F 1 f) G := rfl
theorem xM_f2 {cy : Nat → ClassId} {a : Nat → Nat} {I : xw_I} {F : xw_F} {G : xw_G} {f : Nat → Int32} : (xM_w cy a I F G).set 2 (a 2, .inl (cy 0, 5, .inl f)) = xM_w cy a I (xw_up F 2 f) G := rfl
theorem xM_f3 {cy : Nat → ClassId} {a : Nat → Nat} {I : xw_I} {F : xw_F} {G : xw_G} {f : Nat → Int32} : (xM_w cy a I F G).set 3 (a 3, .inl (cy 0, 5, .inl f)) = xM_w cy a I (xw_up F 3 f) G := rfl
theorem xM_f4 {cy : Nat → ClassId} {a : Nat → Nat} {I : xw_I} {F : xw_F} {G : xw_G} {f : Nat → Int32} : (xM_w cy a I F G).set 4 (a 4, .inl (cy 0, 3, .inl f)) = xM_w cy a I (xw_up F 4 f) G := rfl
theorem xM_f5 {cy : Nat → ClassId} {a : Nat → Nat} {I : xw_I} {F : xw_F} {G : xw_G} {f : Nat → Int32} : (xM_w cy a I F G).set 5 (a 5, .inl (cy 0, 3, .inl f)) = xM_w cy a I (xw_up F 5 f) G := rfl
theorem xM_f6 {cy : Nat → ClassId} {a : Nat → Nat} {I : xw_I} {F : xw_F} {G : xw_G} {f : Nat → Int32} : (xM_w cy a I F G).set 6 (a 6, .inl (cy 0, 12, .inl f)) = xM_w cy a I (xw_up F 6 f) G := rfl
theorem xM_f7 {cy : Nat → ClassId} {a : Nat → Nat} {I : xw_I} {F : xw_F} {G : xw_G} {f : Nat → Int32} : (xM_w cy a I F G).set 7 (a 7, .inl (cy 0, 30, .inl f)) = xM_w cy a I (xw_up F 7 f) G := rfl
theorem xM_f8 {cy : Nat → ClassId} {a : Nat → Nat} {I : xw_I} {F : xw_F} {G : xw_G} {f : Nat → Int32} : (xM_w cy a I F G).set 8 (a 8, .inl (cy 0, 5, .inl f)) = xM_w cy a I (xw_up F 8 f) G := rfl
theorem xM_f9 {cy : Nat → ClassId} {a : Nat → Nat} {I : xw_I} {F : xw_F} {G : xw_G} {f : Nat → Int64} : (xM_w cy a I F G).set 9 (a 9, .inl (cy 1, 2592, .inr (.inl f))) = xM_w cy a I F (xw_up G 9 f) := rfl
theorem xM_f10 {cy : Nat → ClassId} {a : Nat → Nat} {I : xw_I} {F : xw_F} {G : xw_G} {f : Nat → Int32} : (xM_w cy a I F G).set 10 (a 10, .inl (cy 0, 5, .inl f)) = xM_w cy a I (xw_up F 10 f) G := rfl
theorem xM_f11 {cy : Nat → ClassId} {a : Nat → Nat} {I : xw_I} {F : xw_F} {G : xw_G} {f : Nat → Int32} : (xM_w cy a I F G).set 11 (a 11, .inl (cy 0, 5, .inl f)) = xM_w cy a I (xw_up F 11 f) G := rfl
theorem xM_f12 {cy : Nat → ClassId} {a : Nat → Nat} {I : xw_I} {F : xw_F} {G : xw_G} {f : Nat → Int32} : (xM_w cy a I F G).set 12 (a 12, .inl (cy 0, 3, .inl f)) = xM_w cy a I (xw_up F 12 f) G := rfl
theorem xM_f13 {cy : Nat → ClassId} {a : Nat → Nat} {I : xw_I} {F : xw_F} {G : xw_G} {f : Nat → Int32} : (xM_w cy a I F G).set 13 (a 13, .inl (cy 0, 30, .inl f)) = xM_w cy a I (xw_up F 13 f) G := rfl
theorem xM_f14 {cy : Nat → ClassId} {a : Nat → Nat} {I : xw_I} {F : xw_F} {G : xw_G} {f : Nat → Int32} : (xM_w cy a I F G).set 14 (a 14, .inl (cy 0, 80, .inl f)) = xM_w cy a I (xw_up F 14 f) G := rfl
theorem xM_f15 {cy : Nat → ClassId} {a : Nat → Nat} {I : xw_I} {F : xw_F} {G : xw_G} {f : Nat → Int32} : (xM_w cy a I F G).set 15 (a 15, .inl (cy 2, 2, .inl f)) = xM_w cy a I (xw_up F 15 f) G := rfl
