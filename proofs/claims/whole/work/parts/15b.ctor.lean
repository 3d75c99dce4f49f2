def xw_PC (D : va_G) (cy : Nat → ClassId) (sz : Nat) (ws : va_W) (U : State) : Prop := U.heap.size = sz ∧ va_P D vwCl ws U.heap ∧ xw_B D cy U ∧ va_D (fun _ => True) ws
theorem xw_blindC {D : va_G} {cy : Nat → ClassId} {sz : Nat} {ws : va_W} (av : List Value) : FrameBlind (va_Pc av (xw_PC D cy sz ws)) := by
  intro a U g mk q
  obtain ⟨q1, q2, qP, qB, qD⟩ := q
  exact ⟨q1, q2, qP, ⟨va_K.moved (u := U) (U := U.calling g mk a) (Vm.Alike.refl U.vm) qB.1, fun k x hx => va_Nw.same (u := U) (U := U.calling g mk a) rfl rfl (qB.2 k x hx)⟩, qD⟩
section XWN
variable {p : Program} {l : Launch} {e : Env} {R : Room} {s : State} {m : MethodId} {args : Array Value} {below : List Frame} {meth : Method} {c : Code} {H : Heap} {locs : List Loc} {cells slots : Nat} {Q : State → Prop}
variable {pc : Nat} {ls : Array Slot} {rest : List Value} {A : Nat → Prop} {H0 : Heap} {D : va_G} {cy : Nat → ClassId} {ws : va_W} {cc : ByteArray}
theorem xw_newi (hexec : p.tables.exec = Jvm.exec) (hb : c.code = cc) (harr : (Cond.arrayClass .int).before args s = true) (hB : xw_B D cy s) (hP : va_P D vwCl ws H) (hD : va_D A ws) (hS : va_S A H0 H locs) (hA : ∀ q, H0.size ≤ q → A q) {n : Int32} {N : Nat} (hn : ¬ n < 0) (hN : n.toNatClampNeg = N) (hbytes : N * 4 ≤ 536870912) (hcells : cells + 1 ≤ R.cells) (hslots : slots + N ≤ R.slots) (hdg : decode cc pc = .ok (.newarray .int, 2))
    (kk : ∀ (q : Nat) (H1 : Heap), va_P D vwCl (ws ++ [(q, .inl (cy 0, N, .inl (fun _ => 0)))]) H1 → va_D A (ws ++ [(q, .inl (cy 0, N, .inl (fun _ => 0)))]) → va_S A H0 H1 locs → W p l e R s m args below meth c H1 locs (cells + 1) (slots + N) Q (F0 m (pc + 2) ls (.ref q :: rest))) : W p l e R s m args below meth c H locs cells slots Q (F0 m pc ls (.int n :: rest)) := by
  refine va_newa (atype := .int) (ty := .int) (a0 := (N, .inl (fun _ => 0))) hexec hb harr rfl hB.1 hP hD hS hA (fun _ => rfl) hn hN hbytes hcells hslots hdg (fun q cA H1 hK1 hP1 hD1 hS1 => ?_)
  have h1 : s.vm.findClass ("[" ++ (FieldType.int).toString) = some cA := (hK1.2 4 (cA, .int) rfl).2
  have h2 : s.vm.findClass ("[" ++ (FieldType.int).toString) = some (cy 0) := (hB.1.2 0 (cy 0, .int) rfl).2
  have h3 : cA = cy 0 := Option.some.inj (h1.symm.trans h2)
  subst h3
  exact kk q H1 hP1 hD1 hS1
theorem xw_newl (hexec : p.tables.exec = Jvm.exec) (hb : c.code = cc) (harr : (Cond.arrayClass .long).before args s = true) (hB : xw_B D cy s) (hP : va_P D vwCl ws H) (hD : va_D A ws) (hS : va_S A H0 H locs) (hA : ∀ q, H0.size ≤ q → A q) {n : Int32} {N : Nat} (hn : ¬ n < 0) (hN : n.toNatClampNeg = N) (hbytes : N * 8 ≤ 536870912) (hcells : cells + 1 ≤ R.cells) (hslots : slots + N ≤ R.slots) (hdg : decode cc pc = .ok (.newarray .long, 2))
    (kk : ∀ (q : Nat) (H1 : Heap), va_P D vwCl (ws ++ [(q, .inl (cy 1, N, .inr (.inl (fun _ => 0))))]) H1 → va_D A (ws ++ [(q, .inl (cy 1, N, .inr (.inl (fun _ => 0))))]) → va_S A H0 H1 locs → W p l e R s m args below meth c H1 locs (cells + 1) (slots + N) Q (F0 m (pc + 2) ls (.ref q :: rest))) : W p l e R s m args below meth c H locs cells slots Q (F0 m pc ls (.int n :: rest)) := by
  refine va_newa (atype := .long) (ty := .long) (a0 := (N, .inr (.inl (fun _ => 0)))) hexec hb harr rfl hB.1 hP hD hS hA (fun _ => rfl) hn hN hbytes hcells hslots hdg (fun q cA H1 hK1 hP1 hD1 hS1 => ?_)
  have h1 : s.vm.findClass ("[" ++ (FieldType.long).toString) = some cA := (hK1.2 4 (cA, .long) rfl).2
  have h2 : s.vm.findClass ("[" ++ (FieldType.long).toString) = some (cy 1) := (hB.1.2 1 (cy 1, .long) rfl).2
  have h3 : cA = cy 1 := Option.some.inj (h1.symm.trans h2)
  subst h3
  exact kk q H1 hP1 hD1 hS1
theorem xw_newz (hexec : p.tables.exec = Jvm.exec) (hb : c.code = cc) (harr : (Cond.arrayClass .boolean).before args s = true) (hB : xw_B D cy s) (hP : va_P D vwCl ws H) (hD : va_D A ws) (hS : va_S A H0 H locs) (hA : ∀ q, H0.size ≤ q → A q) {n : Int32} {N : Nat} (hn : ¬ n < 0) (hN : n.toNatClampNeg = N) (hbytes : N * 1 ≤ 536870912) (hcells : cells + 1 ≤ R.cells) (hslots : slots + N ≤ R.slots) (hdg : decode cc pc = .ok (.newarray .boolean, 2))
    (kk : ∀ (q : Nat) (H1 : Heap), va_P D vwCl (ws ++ [(q, .inl (cy 2, N, .inl (fun _ => 0)))]) H1 → va_D A (ws ++ [(q, .inl (cy 2, N, .inl (fun _ => 0)))]) → va_S A H0 H1 locs → W p l e R s m args below meth c H1 locs (cells + 1) (slots + N) Q (F0 m (pc + 2) ls (.ref q :: rest))) : W p l e R s m args below meth c H locs cells slots Q (F0 m pc ls (.int n :: rest)) := by
  refine va_newa (atype := .boolean) (ty := .boolean) (a0 := (N, .inl (fun _ => 0))) hexec hb harr rfl hB.1 hP hD hS hA (fun _ => rfl) hn hN hbytes hcells hslots hdg (fun q cA H1 hK1 hP1 hD1 hS1 => ?_)
  have h1 : s.vm.findClass ("[" ++ (FieldType.boolean).toString) = some cA := (hK1.2 4 (cA, .boolean) rfl).2
  have h2 : s.vm.findClass ("[" ++ (FieldType.boolean).toString) = some (cy 2) := (hB.1.2 2 (cy 2, .boolean) rfl).2
  have h3 : cA = cy 2 := Option.some.inj (h1.symm.trans h2)
  subst h3
  exact kk q H1 hP1 hD1 hS1
theorem xw_newq (hexec : p.tables.exec = Jvm.exec) (hb : c.code = cc) {own : String} {index : Nat} (hown : s.vm.findClass own = some m.cls) (hclink : (Cond.classLink own index "TagCarrier$Sentences").before args s = true) (hover : va_AO "TagCarrier$Sentences" s) (hB : xw_B D cy s) (hP : va_P D vwCl ws H) (hD : va_D A ws) (hS : va_S A H0 H locs) (hA : ∀ q, H0.size ≤ q → A q) {n : Int32} {N : Nat} (hn : ¬ n < 0) (hN : n.toNatClampNeg = N) (hbytes : N * 4 ≤ 536870912) (hcells : cells + 1 ≤ R.cells) (hslots : slots + N ≤ R.slots) (hdg : decode cc pc = .ok (.anewarray index, 3))
    (kk : ∀ (q : Nat) (H1 : Heap), va_P D vwCl (ws ++ [(q, .inl (cy 3, N, .inr (.inr (.inr (.inr (fun _ => none))))))]) H1 → va_D A (ws ++ [(q, .inl (cy 3, N, .inr (.inr (.inr (.inr (fun _ => none))))))]) → va_S A H0 H1 locs → W p l e R s m args below meth c H1 locs (cells + 1) (slots + N) Q (F0 m (pc + 3) ls (.ref q :: rest))) : W p l e R s m args below meth c H locs cells slots Q (F0 m pc ls (.int n :: rest)) := by
  refine va_newq hexec hb hown hclink hover hB.1 hP hD hS hA hn hN hbytes hcells hslots hdg (fun q cA H1 hK1 hP1 hD1 hS1 => ?_)
  obtain ⟨_, _, _, _, _, h1⟩ := (hK1.2 4 (cA, .object "TagCarrier$Sentences") rfl).2
  obtain ⟨_, _, _, _, _, h2⟩ := (hB.1.2 3 (cy 3, .object "TagCarrier$Sentences") rfl).2
  have h3 : cA = cy 3 := Option.some.inj (h1.symm.trans h2)
  subst h3
  exact kk q H1 hP1 hD1 hS1
end XWN
def xN_X4 (cy : Nat → ClassId) (a : Nat → Nat) : va_W := [(a 0, .inr (4, [.int 0, .int 0, .int 0, .int 0, .int 0, .ref (a 1), .ref (a 2), .ref (a 3), .ref (a 4), .ref (a 5), .ref (a 6), .ref (a 7)])), (a 1, .inl (cy 0, 5, .inl (fun _ => 0))), (a 2, .inl (cy 0, 5, .inl (fun _ => 0))), (a 3, .inl (cy 0, 5, .inl (fun _ => 0))), (a 4, .inl (cy 0, 5, .inl (fun _ => 0))), (a 5, .inl (cy 0, 3, .inl (fun _ => 0))), (a 6, .inl (cy 0, 3, .inl (fun _ => 0))), (a 7, .inl (cy 0, 5, .inl (fun _ => 0)))]
theorem mX4_init_1 : Cond.methodLink RX4 3 objectInit ∈ wsX4_init := List.mem_of_getElem? (i := 1) rfl
theorem mX4_init_2 : Cond.instanceMethod objectInit ∈ wsX4_init := List.mem_of_getElem? (i := 2) rfl
theorem mX4_init_3 : Cond.code objectInit ⟨#[0xb1]⟩ 1 none ∈ wsX4_init := List.mem_of_getElem? (i := 3) rfl
theorem mX4_init_4 : Cond.arrayClass .int ∈ wsX4_init := List.mem_of_getElem? (i := 4) rfl
theorem mX4_init_5 : Cond.fieldLink RX4 9 "TagCarrier$Source" "opens" "[I" ∈ wsX4_init := List.mem_of_getElem? (i := 5) rfl
theorem mX4_init_inX4 : ∀ w ∈ u_ws RX4 TX4 12, w ∈ wsX4_init := by decide +kernel
theorem mX4_init_6 : Cond.fieldLink RX4 15 "TagCarrier$Source" "closes" "[I" ∈ wsX4_init := List.mem_of_getElem? (i := 6) rfl
theorem mX4_init_7 : Cond.fieldLink RX4 18 "TagCarrier$Source" "holds" "[I" ∈ wsX4_init := List.mem_of_getElem? (i := 7) rfl
theorem mX4_init_8 : Cond.fieldLink RX4 21 "TagCarrier$Source" "heldBy" "[I" ∈ wsX4_init := List.mem_of_getElem? (i := 8) rfl
theorem mX4_init_9 : Cond.fieldLink RX4 24 "TagCarrier$Source" "markGap" "[I" ∈ wsX4_init := List.mem_of_getElem? (i := 9) rfl
theorem mX4_init_10 : Cond.fieldLink RX4 27 "TagCarrier$Source" "markRow" "[I" ∈ wsX4_init := List.mem_of_getElem? (i := 10) rfl
theorem mX4_init_11 : Cond.fieldLink RX4 30 "TagCarrier$Source" "openRow" "[I" ∈ wsX4_init := List.mem_of_getElem? (i := 11) rfl
set_option maxHeartbeats 4000000 in
set_option maxRecDepth 100000 in
theorem c_X4_init (l : Launch) (D : va_G) (cy : Nat → ClassId) (h0 sz : Nat) : Met l yX4_init wsX4_init ({ frames := 1, cells := 7, slots := 31, locals := 12 }) (va_Pc [.ref h0] (xw_PC D cy sz [(h0, .inr (4, [.int 0, .int 0, .int 0, .int 0, .int 0, .null, .null, .null, .null, .null, .null, .null]))])) (va_Qv (S := Nat → Nat) (fun a => h0 = a 0) (fun a t => va_P D vwCl (xN_X4 cy a) t.heap ∧ va_D (va_A [(h0, .inr (4, [.int 0, .int 0, .int 0, .int 0, .int 0, .null, .null, .null, .null, .null, .null, .null]))] sz) (xN_X4 cy a)) (va_A [(h0, .inr (4, [.int 0, .int 0, .int 0, .int 0, .int 0, .null, .null, .null, .null, .null, .null, .null]))] sz)) 7 31 (va_A [(h0, .inr (4, [.int 0, .int 0, .int 0, .int 0, .int 0, .null, .null, .null, .null, .null, .null, .null]))] sz) := by
  refine Met.ofW (cc := cX4_init) (maxL := 1) (ret := none) (by decide) rfl ?_
  intro p e s m args below meth c s₁ B hml hv
  obtain ⟨rfl, hsz, hP, hB, hD0⟩ := hv
  have hx := B.exec
  have hb := B.bytes
  have hr := B.returns
  have hts := atoms_spec (ws := wsX4_init) B.pre
  have hown : s.vm.findClass RX4 = some m.cls := findClass_of_methodNamed B.named
  have hlocks := B.notSynchronized
  have hin : meth.name = "<init>" := (name_of_methodNamed B.named B.method).1
  subst hsz
  have hD := hD0.self (sz := s.heap.size)
  generalize hAe : va_A [(h0, .inr (4, [.int 0, .int 0, .int 0, .int 0, .int 0, .null, .null, .null, .null, .null, .null, .null]))] s.heap.size = A at hD ⊢
  have hA : ∀ q : Nat, s.heap.size ≤ q → A q := fun q h => by rw [← hAe]; exact Or.inr h
  have hS : va_S A s.heap s.heap [] := va_S.rf
  have hP : va_P D vwCl [(h0, .inr (4, [.int 0, .int 0, .int 0, .int 0, .int 0, .null, .null, .null, .null, .null, .null, .null]))] s.heap := hP
  have hl := lv_entry ([.ref h0]) (n := 1) (Nat.le_of_ble_eq_true rfl)
  rw [lg_entry_eq]
  generalize (lg_sl ([.ref h0]) ++ List.replicate (1 - (lg_sl ([.ref h0])).length) Slot.unset).toArray = ls at hl ⊢
  have hl : lv_has ls 1 [(0, .ref h0)] := hl
  refine lv_aload_n hx hb dX4_init_0 rfl (lv_at hl 0 rfl) ?_
  refine W.objInit hx hb hown (hts _ mX4_init_1) (hts _ mX4_init_2) (hts _ mX4_init_3) rfl (by rw [hml]; exact hl.1) rfl dX4_init_1 (Nat.le_of_ble_eq_true rfl) (Nat.le_of_ble_eq_true rfl) ?_
  refine W.eq (g2 := F0 m 4 ls []) rfl ?_
  refine lv_aload_n hx hb dX4_init_4 rfl (lv_at hl 0 rfl) ?_
  refine lv_iconst (v := 5) hx hb dX4_init_5 (by decide) ?_
  refine xw_newi (N := 5) hx hb (hts _ mX4_init_4) hB hP hD hS hA (by decide) (by decide) (Nat.le_of_ble_eq_true rfl) (Nat.le_of_ble_eq_true rfl) (Nat.le_of_ble_eq_true rfl) dX4_init_6 (fun q6 H hP hD hS => ?_)
  have hP : va_P D vwCl [(h0, .inr (4, [.int 0, .int 0, .int 0, .int 0, .int 0, .null, .null, .null, .null, .null, .null, .null])), (q6, .inl (cy 0, 5, .inl (fun _ => 0)))] H := hP
  have hD : va_D A [(h0, .inr (4, [.int 0, .int 0, .int 0, .int 0, .int 0, .null, .null, .null, .null, .null, .null, .null])), (q6, .inl (cy 0, 5, .inl (fun _ => 0)))] := hD
  refine va_putF (D := D) (ci := 4) (v := .ref q6) (ty := .array .int) (C := RX4) (T := TX4) (N := 12) hx hb hts mX4_init_inX4 tyX4 tyX4_ok nmX4 hown hB.1 hP hD hS 0 rfl rfl 5 (by decide) (hts _ mX4_init_5) (fun _ h9 => h9) rfl hin rfl (by decide +kernel) rfl rfl (Nat.le_of_ble_eq_true rfl) dX4_init_8 (fun H locs hP hD hS => ?_)
  have hP : va_P D vwCl [(h0, .inr (4, [.int 0, .int 0, .int 0, .int 0, .int 0, .ref q6, .null, .null, .null, .null, .null, .null])), (q6, .inl (cy 0, 5, .inl (fun _ => 0)))] H := hP
  have hD : va_D A [(h0, .inr (4, [.int 0, .int 0, .int 0, .int 0, .int 0, .ref q6, .null, .null, .null, .null, .null, .null])), (q6, .inl (cy 0, 5, .inl (fun _ => 0)))] := hD
  refine lv_aload_n hx hb dX4_init_11 rfl (lv_at hl 0 rfl) ?_
  refine lv_iconst (v := 5) hx hb dX4_init_12 (by decide) ?_
  refine xw_newi (N := 5) hx hb (hts _ mX4_init_4) hB hP hD hS hA (by decide) (by decide) (Nat.le_of_ble_eq_true rfl) (Nat.le_of_ble_eq_true rfl) (Nat.le_of_ble_eq_true rfl) dX4_init_13 (fun q13 H hP hD hS => ?_)
  have hP : va_P D vwCl [(h0, .inr (4, [.int 0, .int 0, .int 0, .int 0, .int 0, .ref q6, .null, .null, .null, .null, .null, .null])), (q6, .inl (cy 0, 5, .inl (fun _ => 0))), (q13, .inl (cy 0, 5, .inl (fun _ => 0)))] H := hP
  have hD : va_D A [(h0, .inr (4, [.int 0, .int 0, .int 0, .int 0, .int 0, .ref q6, .null, .null, .null, .null, .null, .null])), (q6, .inl (cy 0, 5, .inl (fun _ => 0))), (q13, .inl (cy 0, 5, .inl (fun _ => 0)))] := hD
  refine va_putF (D := D) (ci := 4) (v := .ref q13) (ty := .array .int) (C := RX4) (T := TX4) (N := 12) hx hb hts mX4_init_inX4 tyX4 tyX4_ok nmX4 hown hB.1 hP hD hS 0 rfl rfl 6 (by decide) (hts _ mX4_init_6) (fun _ h9 => h9) rfl hin rfl (by decide +kernel) rfl rfl (Nat.le_of_ble_eq_true rfl) dX4_init_15 (fun H locs hP hD hS => ?_)
  have hP : va_P D vwCl [(h0, .inr (4, [.int 0, .int 0, .int 0, .int 0, .int 0, .ref q6, .ref q13, .null, .null, .null, .null, .null])), (q6, .inl (cy 0, 5, .inl (fun _ => 0))), (q13, .inl (cy 0, 5, .inl (fun _ => 0)))] H := hP
  have hD : va_D A [(h0, .inr (4, [.int 0, .int 0, .int 0, .int 0, .int 0, .ref q6, .ref q13, .null, .null, .null, .null, .null])), (q6, .inl (cy 0, 5, .inl (fun _ => 0))), (q13, .inl (cy 0, 5, .inl (fun _ => 0)))] := hD
  refine lv_aload_n hx hb dX4_init_18 rfl (lv_at hl 0 rfl) ?_
  refine lv_iconst (v := 5) hx hb dX4_init_19 (by decide) ?_
  refine xw_newi (N := 5) hx hb (hts _ mX4_init_4) hB hP hD hS hA (by decide) (by decide) (Nat.le_of_ble_eq_true rfl) (Nat.le_of_ble_eq_true rfl) (Nat.le_of_ble_eq_true rfl) dX4_init_20 (fun q20 H hP hD hS => ?_)
  have hP : va_P D vwCl [(h0, .inr (4, [.int 0, .int 0, .int 0, .int 0, .int 0, .ref q6, .ref q13, .null, .null, .null, .null, .null])), (q6, .inl (cy 0, 5, .inl (fun _ => 0))), (q13, .inl (cy 0, 5, .inl (fun _ => 0))), (q20, .inl (cy 0, 5, .inl (fun _ => 0)))] H := hP
  have hD : va_D A [(h0, .inr (4, [.int 0, .int 0, .int 0, .int 0, .int 0, .ref q6, .ref q13, .null, .null, .null, .null, .null])), (q6, .inl (cy 0, 5, .inl (fun _ => 0))), (q13, .inl (cy 0, 5, .inl (fun _ => 0))), (q20, .inl (cy 0, 5, .inl (fun _ => 0)))] := hD
  refine va_putF (D := D) (ci := 4) (v := .ref q20) (ty := .array .int) (C := RX4) (T := TX4) (N := 12) hx hb hts mX4_init_inX4 tyX4 tyX4_ok nmX4 hown hB.1 hP hD hS 0 rfl rfl 7 (by decide) (hts _ mX4_init_7) (fun _ h9 => h9) rfl hin rfl (by decide +kernel) rfl rfl (Nat.le_of_ble_eq_true rfl) dX4_init_22 (fun H locs hP hD hS => ?_)
  have hP : va_P D vwCl [(h0, .inr (4, [.int 0, .int 0, .int 0, .int 0, .int 0, .ref q6, .ref q13, .ref q20, .null, .null, .null, .null])), (q6, .inl (cy 0, 5, .inl (fun _ => 0))), (q13, .inl (cy 0, 5, .inl (fun _ => 0))), (q20, .inl (cy 0, 5, .inl (fun _ => 0)))] H := hP
  have hD : va_D A [(h0, .inr (4, [.int 0, .int 0, .int 0, .int 0, .int 0, .ref q6, .ref q13, .ref q20, .null, .null, .null, .null])), (q6, .inl (cy 0, 5, .inl (fun _ => 0))), (q13, .inl (cy 0, 5, .inl (fun _ => 0))), (q20, .inl (cy 0, 5, .inl (fun _ => 0)))] := hD
  refine lv_aload_n hx hb dX4_init_25 rfl (lv_at hl 0 rfl) ?_
  refine lv_iconst (v := 5) hx hb dX4_init_26 (by decide) ?_
  refine xw_newi (N := 5) hx hb (hts _ mX4_init_4) hB hP hD hS hA (by decide) (by decide) (Nat.le_of_ble_eq_true rfl) (Nat.le_of_ble_eq_true rfl) (Nat.le_of_ble_eq_true rfl) dX4_init_27 (fun q27 H hP hD hS => ?_)
  have hP : va_P D vwCl [(h0, .inr (4, [.int 0, .int 0, .int 0, .int 0, .int 0, .ref q6, .ref q13, .ref q20, .null, .null, .null, .null])), (q6, .inl (cy 0, 5, .inl (fun _ => 0))), (q13, .inl (cy 0, 5, .inl (fun _ => 0))), (q20, .inl (cy 0, 5, .inl (fun _ => 0))), (q27, .inl (cy 0, 5, .inl (fun _ => 0)))] H := hP
  have hD : va_D A [(h0, .inr (4, [.int 0, .int 0, .int 0, .int 0, .int 0, .ref q6, .ref q13, .ref q20, .null, .null, .null, .null])), (q6, .inl (cy 0, 5, .inl (fun _ => 0))), (q13, .inl (cy 0, 5, .inl (fun _ => 0))), (q20, .inl (cy 0, 5, .inl (fun _ => 0))), (q27, .inl (cy 0, 5, .inl (fun _ => 0)))] := hD
  refine va_putF (D := D) (ci := 4) (v := .ref q27) (ty := .array .int) (C := RX4) (T := TX4) (N := 12) hx hb hts mX4_init_inX4 tyX4 tyX4_ok nmX4 hown hB.1 hP hD hS 0 rfl rfl 8 (by decide) (hts _ mX4_init_8) (fun _ h9 => h9) rfl hin rfl (by decide +kernel) rfl rfl (Nat.le_of_ble_eq_true rfl) dX4_init_29 (fun H locs hP hD hS => ?_)
  have hP : va_P D vwCl [(h0, .inr (4, [.int 0, .int 0, .int 0, .int 0, .int 0, .ref q6, .ref q13, .ref q20, .ref q27, .null, .null, .null])), (q6, .inl (cy 0, 5, .inl (fun _ => 0))), (q13, .inl (cy 0, 5, .inl (fun _ => 0))), (q20, .inl (cy 0, 5, .inl (fun _ => 0))), (q27, .inl (cy 0, 5, .inl (fun _ => 0)))] H := hP
  have hD : va_D A [(h0, .inr (4, [.int 0, .int 0, .int 0, .int 0, .int 0, .ref q6, .ref q13, .ref q20, .ref q27, .null, .null, .null])), (q6, .inl (cy 0, 5, .inl (fun _ => 0))), (q13, .inl (cy 0, 5, .inl (fun _ => 0))), (q20, .inl (cy 0, 5, .inl (fun _ => 0))), (q27, .inl (cy 0, 5, .inl (fun _ => 0)))] := hD
  refine lv_aload_n hx hb dX4_init_32 rfl (lv_at hl 0 rfl) ?_
  refine lv_iconst (v := 3) hx hb dX4_init_33 (by decide) ?_
  refine xw_newi (N := 3) hx hb (hts _ mX4_init_4) hB hP hD hS hA (by decide) (by decide) (Nat.le_of_ble_eq_true rfl) (Nat.le_of_ble_eq_true rfl) (Nat.le_of_ble_eq_true rfl) dX4_init_34 (fun q34 H hP hD hS => ?_)
  have hP : va_P D vwCl [(h0, .inr (4, [.int 0, .int 0, .int 0, .int 0, .int 0, .ref q6, .ref q13, .ref q20, .ref q27, .null, .null, .null])), (q6, .inl (cy 0, 5, .inl (fun _ => 0))), (q13, .inl (cy 0, 5, .inl (fun _ => 0))), (q20, .inl (cy 0, 5, .inl (fun _ => 0))), (q27, .inl (cy 0, 5, .inl (fun _ => 0))), (q34, .inl (cy 0, 3, .inl (fun _ => 0)))] H := hP
  have hD : va_D A [(h0, .inr (4, [.int 0, .int 0, .int 0, .int 0, .int 0, .ref q6, .ref q13, .ref q20, .ref q27, .null, .null, .null])), (q6, .inl (cy 0, 5, .inl (fun _ => 0))), (q13, .inl (cy 0, 5, .inl (fun _ => 0))), (q20, .inl (cy 0, 5, .inl (fun _ => 0))), (q27, .inl (cy 0, 5, .inl (fun _ => 0))), (q34, .inl (cy 0, 3, .inl (fun _ => 0)))] := hD
  refine va_putF (D := D) (ci := 4) (v := .ref q34) (ty := .array .int) (C := RX4) (T := TX4) (N := 12) hx hb hts mX4_init_inX4 tyX4 tyX4_ok nmX4 hown hB.1 hP hD hS 0 rfl rfl 9 (by decide) (hts _ mX4_init_9) (fun _ h9 => h9) rfl hin rfl (by decide +kernel) rfl rfl (Nat.le_of_ble_eq_true rfl) dX4_init_36 (fun H locs hP hD hS => ?_)
  have hP : va_P D vwCl [(h0, .inr (4, [.int 0, .int 0, .int 0, .int 0, .int 0, .ref q6, .ref q13, .ref q20, .ref q27, .ref q34, .null, .null])), (q6, .inl (cy 0, 5, .inl (fun _ => 0))), (q13, .inl (cy 0, 5, .inl (fun _ => 0))), (q20, .inl (cy 0, 5, .inl (fun _ => 0))), (q27, .inl (cy 0, 5, .inl (fun _ => 0))), (q34, .inl (cy 0, 3, .inl (fun _ => 0)))] H := hP
  have hD : va_D A [(h0, .inr (4, [.int 0, .int 0, .int 0, .int 0, .int 0, .ref q6, .ref q13, .ref q20, .ref q27, .ref q34, .null, .null])), (q6, .inl (cy 0, 5, .inl (fun _ => 0))), (q13, .inl (cy 0, 5, .inl (fun _ => 0))), (q20, .inl (cy 0, 5, .inl (fun _ => 0))), (q27, .inl (cy 0, 5, .inl (fun _ => 0))), (q34, .inl (cy 0, 3, .inl (fun _ => 0)))] := hD
  refine lv_aload_n hx hb dX4_init_39 rfl (lv_at hl 0 rfl) ?_
  refine lv_iconst (v := 3) hx hb dX4_init_40 (by decide) ?_
  refine xw_newi (N := 3) hx hb (hts _ mX4_init_4) hB hP hD hS hA (by decide) (by decide) (Nat.le_of_ble_eq_true rfl) (Nat.le_of_ble_eq_true rfl) (Nat.le_of_ble_eq_true rfl) dX4_init_41 (fun q41 H hP hD hS => ?_)
  have hP : va_P D vwCl [(h0, .inr (4, [.int 0, .int 0, .int 0, .int 0, .int 0, .ref q6, .ref q13, .ref q20, .ref q27, .ref q34, .null, .null])), (q6, .inl (cy 0, 5, .inl (fun _ => 0))), (q13, .inl (cy 0, 5, .inl (fun _ => 0))), (q20, .inl (cy 0, 5, .inl (fun _ => 0))), (q27, .inl (cy 0, 5, .inl (fun _ => 0))), (q34, .inl (cy 0, 3, .inl (fun _ => 0))), (q41, .inl (cy 0, 3, .inl (fun _ => 0)))] H := hP
  have hD : va_D A [(h0, .inr (4, [.int 0, .int 0, .int 0, .int 0, .int 0, .ref q6, .ref q13, .ref q20, .ref q27, .ref q34, .null, .null])), (q6, .inl (cy 0, 5, .inl (fun _ => 0))), (q13, .inl (cy 0, 5, .inl (fun _ => 0))), (q20, .inl (cy 0, 5, .inl (fun _ => 0))), (q27, .inl (cy 0, 5, .inl (fun _ => 0))), (q34, .inl (cy 0, 3, .inl (fun _ => 0))), (q41, .inl (cy 0, 3, .inl (fun _ => 0)))] := hD
  refine va_putF (D := D) (ci := 4) (v := .ref q41) (ty := .array .int) (C := RX4) (T := TX4) (N := 12) hx hb hts mX4_init_inX4 tyX4 tyX4_ok nmX4 hown hB.1 hP hD hS 0 rfl rfl 10 (by decide) (hts _ mX4_init_10) (fun _ h9 => h9) rfl hin rfl (by decide +kernel) rfl rfl (Nat.le_of_ble_eq_true rfl) dX4_init_43 (fun H locs hP hD hS => ?_)
  have hP : va_P D vwCl [(h0, .inr (4, [.int 0, .int 0, .int 0, .int 0, .int 0, .ref q6, .ref q13, .ref q20, .ref q27, .ref q34, .ref q41, .null])), (q6, .inl (cy 0, 5, .inl (fun _ => 0))), (q13, .inl (cy 0, 5, .inl (fun _ => 0))), (q20, .inl (cy 0, 5, .inl (fun _ => 0))), (q27, .inl (cy 0, 5, .inl (fun _ => 0))), (q34, .inl (cy 0, 3, .inl (fun _ => 0))), (q41, .inl (cy 0, 3, .inl (fun _ => 0)))] H := hP
  have hD : va_D A [(h0, .inr (4, [.int 0, .int 0, .int 0, .int 0, .int 0, .ref q6, .ref q13, .ref q20, .ref q27, .ref q34, .ref q41, .null])), (q6, .inl (cy 0, 5, .inl (fun _ => 0))), (q13, .inl (cy 0, 5, .inl (fun _ => 0))), (q20, .inl (cy 0, 5, .inl (fun _ => 0))), (q27, .inl (cy 0, 5, .inl (fun _ => 0))), (q34, .inl (cy 0, 3, .inl (fun _ => 0))), (q41, .inl (cy 0, 3, .inl (fun _ => 0)))] := hD
  refine lv_aload_n hx hb dX4_init_46 rfl (lv_at hl 0 rfl) ?_
  refine lv_iconst (v := 5) hx hb dX4_init_47 (by decide) ?_
  refine xw_newi (N := 5) hx hb (hts _ mX4_init_4) hB hP hD hS hA (by decide) (by decide) (Nat.le_of_ble_eq_true rfl) (Nat.le_of_ble_eq_true rfl) (Nat.le_of_ble_eq_true rfl) dX4_init_48 (fun q48 H hP hD hS => ?_)
  have hP : va_P D vwCl [(h0, .inr (4, [.int 0, .int 0, .int 0, .int 0, .int 0, .ref q6, .ref q13, .ref q20, .ref q27, .ref q34, .ref q41, .null])), (q6, .inl (cy 0, 5, .inl (fun _ => 0))), (q13, .inl (cy 0, 5, .inl (fun _ => 0))), (q20, .inl (cy 0, 5, .inl (fun _ => 0))), (q27, .inl (cy 0, 5, .inl (fun _ => 0))), (q34, .inl (cy 0, 3, .inl (fun _ => 0))), (q41, .inl (cy 0, 3, .inl (fun _ => 0))), (q48, .inl (cy 0, 5, .inl (fun _ => 0)))] H := hP
  have hD : va_D A [(h0, .inr (4, [.int 0, .int 0, .int 0, .int 0, .int 0, .ref q6, .ref q13, .ref q20, .ref q27, .ref q34, .ref q41, .null])), (q6, .inl (cy 0, 5, .inl (fun _ => 0))), (q13, .inl (cy 0, 5, .inl (fun _ => 0))), (q20, .inl (cy 0, 5, .inl (fun _ => 0))), (q27, .inl (cy 0, 5, .inl (fun _ => 0))), (q34, .inl (cy 0, 3, .inl (fun _ => 0))), (q41, .inl (cy 0, 3, .inl (fun _ => 0))), (q48, .inl (cy 0, 5, .inl (fun _ => 0)))] := hD
  refine va_putF (D := D) (ci := 4) (v := .ref q48) (ty := .array .int) (C := RX4) (T := TX4) (N := 12) hx hb hts mX4_init_inX4 tyX4 tyX4_ok nmX4 hown hB.1 hP hD hS 0 rfl rfl 11 (by decide) (hts _ mX4_init_11) (fun _ h9 => h9) rfl hin rfl (by decide +kernel) rfl rfl (Nat.le_of_ble_eq_true rfl) dX4_init_50 (fun H locs hP hD hS => ?_)
  have hP : va_P D vwCl [(h0, .inr (4, [.int 0, .int 0, .int 0, .int 0, .int 0, .ref q6, .ref q13, .ref q20, .ref q27, .ref q34, .ref q41, .ref q48])), (q6, .inl (cy 0, 5, .inl (fun _ => 0))), (q13, .inl (cy 0, 5, .inl (fun _ => 0))), (q20, .inl (cy 0, 5, .inl (fun _ => 0))), (q27, .inl (cy 0, 5, .inl (fun _ => 0))), (q34, .inl (cy 0, 3, .inl (fun _ => 0))), (q41, .inl (cy 0, 3, .inl (fun _ => 0))), (q48, .inl (cy 0, 5, .inl (fun _ => 0)))] H := hP
  have hD : va_D A [(h0, .inr (4, [.int 0, .int 0, .int 0, .int 0, .int 0, .ref q6, .ref q13, .ref q20, .ref q27, .ref q34, .ref q41, .ref q48])), (q6, .inl (cy 0, 5, .inl (fun _ => 0))), (q13, .inl (cy 0, 5, .inl (fun _ => 0))), (q20, .inl (cy 0, 5, .inl (fun _ => 0))), (q27, .inl (cy 0, 5, .inl (fun _ => 0))), (q34, .inl (cy 0, 3, .inl (fun _ => 0))), (q41, .inl (cy 0, 3, .inl (fun _ => 0))), (q48, .inl (cy 0, 5, .inl (fun _ => 0)))] := hD
  have hP : va_P D vwCl (xN_X4 cy (fun k => ([h0, q6, q13, q20, q27, q34, q41, q48] : List Nat).getD k 0)) H := hP
  have hD : va_D A (xN_X4 cy (fun k => ([h0, q6, q13, q20, q27, q34, q41, q48] : List Nat).getD k 0)) := hD
  exact W.vret hx hb hr (fun t ht hW => ⟨⟨fun k => ([h0, q6, q13, q20, q27, q34, q41, q48] : List Nat).getD k 0, rfl, rfl, by rw [ht]; exact hP, hD⟩, hS.F ht⟩) hS.2.2 dX4_init_53
def xN_X0 (cy : Nat → ClassId) (a : Nat → Nat) : va_W := [(a 0, .inr (0, [.ref (a 1), .int 0, .ref (a 2), .ref (a 3)])), (a 1, .inl (cy 0, 3, .inl (fun _ => 0))), (a 2, .inl (cy 0, 36, .inl (fun _ => 0))), (a 3, .inl (cy 0, 27, .inl (fun _ => 0)))]
theorem mX0_init_1 : Cond.methodLink RX0 3 objectInit ∈ wsX0_init := List.mem_of_getElem? (i := 1) rfl
theorem mX0_init_2 : Cond.instanceMethod objectInit ∈ wsX0_init := List.mem_of_getElem? (i := 2) rfl
theorem mX0_init_3 : Cond.code objectInit ⟨#[0xb1]⟩ 1 none ∈ wsX0_init := List.mem_of_getElem? (i := 3) rfl
theorem mX0_init_4 : Cond.arrayClass .int ∈ wsX0_init := List.mem_of_getElem? (i := 4) rfl
theorem mX0_init_5 : Cond.fieldLink RX0 9 "TagCarrier$MarkPlacer" "at" "[I" ∈ wsX0_init := List.mem_of_getElem? (i := 5) rfl
theorem mX0_init_inX0 : ∀ w ∈ u_ws RX0 TX0 4, w ∈ wsX0_init := by decide +kernel
theorem mX0_init_6 : Cond.fieldLink RX0 15 "TagCarrier$MarkPlacer" "moved" "[I" ∈ wsX0_init := List.mem_of_getElem? (i := 6) rfl
theorem mX0_init_7 : Cond.fieldLink RX0 18 "TagCarrier$MarkPlacer" "chosen" "[I" ∈ wsX0_init := List.mem_of_getElem? (i := 7) rfl
set_option maxHeartbeats 4000000 in
set_option maxRecDepth 100000 in
theorem c_X0_init (l : Launch) (D : va_G) (cy : Nat → ClassId) (h0 sz : Nat) : Met l yX0_init wsX0_init ({ frames := 1, cells := 3, slots := 66, locals := 12 }) (va_Pc [.ref h0] (xw_PC D cy sz [(h0, .inr (0, [.null, .int 0, .null, .null]))])) (va_Qv (S := Nat → Nat) (fun a => h0 = a 0) (fun a t => va_P D vwCl (xN_X0 cy a) t.heap ∧ va_D (va_A [(h0, .inr (0, [.null, .int 0, .null, .null]))] sz) (xN_X0 cy a)) (va_A [(h0, .inr (0, [.null, .int 0, .null, .null]))] sz)) 3 66 (va_A [(h0, .inr (0, [.null, .int 0, .null, .null]))] sz) := by
  refine Met.ofW (cc := cX0_init) (maxL := 1) (ret := none) (by decide) rfl ?_
  intro p e s m args below meth c s₁ B hml hv
  obtain ⟨rfl, hsz, hP, hB, hD0⟩ := hv
  have hx := B.exec
  have hb := B.bytes
  have hr := B.returns
  have hts := atoms_spec (ws := wsX0_init) B.pre
  have hown : s.vm.findClass RX0 = some m.cls := findClass_of_methodNamed B.named
  have hlocks := B.notSynchronized
  have hin : meth.name = "<init>" := (name_of_methodNamed B.named B.method).1
  subst hsz
  have hD := hD0.self (sz := s.heap.size)
  generalize hAe : va_A [(h0, .inr (0, [.null, .int 0, .null, .null]))] s.heap.size = A at hD ⊢
  have hA : ∀ q : Nat, s.heap.size ≤ q → A q := fun q h => by rw [← hAe]; exact Or.inr h
  have hS : va_S A s.heap s.heap [] := va_S.rf
  have hP : va_P D vwCl [(h0, .inr (0, [.null, .int 0, .null, .null]))] s.heap := hP
  have hl := lv_entry ([.ref h0]) (n := 1) (Nat.le_of_ble_eq_true rfl)
  rw [lg_entry_eq]
  generalize (lg_sl ([.ref h0]) ++ List.replicate (1 - (lg_sl ([.ref h0])).length) Slot.unset).toArray = ls at hl ⊢
  have hl : lv_has ls 1 [(0, .ref h0)] := hl
  refine lv_aload_n hx hb dX0_init_0 rfl (lv_at hl 0 rfl) ?_
  refine W.objInit hx hb hown (hts _ mX0_init_1) (hts _ mX0_init_2) (hts _ mX0_init_3) rfl (by rw [hml]; exact hl.1) rfl dX0_init_1 (Nat.le_of_ble_eq_true rfl) (Nat.le_of_ble_eq_true rfl) ?_
  refine W.eq (g2 := F0 m 4 ls []) rfl ?_
  refine lv_aload_n hx hb dX0_init_4 rfl (lv_at hl 0 rfl) ?_
  refine lv_iconst (v := 3) hx hb dX0_init_5 (by decide) ?_
  refine xw_newi (N := 3) hx hb (hts _ mX0_init_4) hB hP hD hS hA (by decide) (by decide) (Nat.le_of_ble_eq_true rfl) (Nat.le_of_ble_eq_true rfl) (Nat.le_of_ble_eq_true rfl) dX0_init_6 (fun q6 H hP hD hS => ?_)
  have hP : va_P D vwCl [(h0, .inr (0, [.null, .int 0, .null, .null])), (q6, .inl (cy 0, 3, .inl (fun _ => 0)))] H := hP
  have hD : va_D A [(h0, .inr (0, [.null, .int 0, .null, .null])), (q6, .inl (cy 0, 3, .inl (fun _ => 0)))] := hD
  refine va_putF (D := D) (ci := 0) (v := .ref q6) (ty := .array .int) (C := RX0) (T := TX0) (N := 4) hx hb hts mX0_init_inX0 tyX0 tyX0_ok nmX0 hown hB.1 hP hD hS 0 rfl rfl 0 (by decide) (hts _ mX0_init_5) (fun _ h9 => h9) rfl hin rfl (by decide +kernel) rfl rfl (Nat.le_of_ble_eq_true rfl) dX0_init_8 (fun H locs hP hD hS => ?_)
  have hP : va_P D vwCl [(h0, .inr (0, [.ref q6, .int 0, .null, .null])), (q6, .inl (cy 0, 3, .inl (fun _ => 0)))] H := hP
  have hD : va_D A [(h0, .inr (0, [.ref q6, .int 0, .null, .null])), (q6, .inl (cy 0, 3, .inl (fun _ => 0)))] := hD
  refine lv_aload_n hx hb dX0_init_11 rfl (lv_at hl 0 rfl) ?_
  refine lv_bipush (v := 36) hx hb dX0_init_12 (by decide) ?_
  refine xw_newi (N := 36) hx hb (hts _ mX0_init_4) hB hP hD hS hA (by decide) (by decide) (Nat.le_of_ble_eq_true rfl) (Nat.le_of_ble_eq_true rfl) (Nat.le_of_ble_eq_true rfl) dX0_init_14 (fun q14 H hP hD hS => ?_)
  have hP : va_P D vwCl [(h0, .inr (0, [.ref q6, .int 0, .null, .null])), (q6, .inl (cy 0, 3, .inl (fun _ => 0))), (q14, .inl (cy 0, 36, .inl (fun _ => 0)))] H := hP
  have hD : va_D A [(h0, .inr (0, [.ref q6, .int 0, .null, .null])), (q6, .inl (cy 0, 3, .inl (fun _ => 0))), (q14, .inl (cy 0, 36, .inl (fun _ => 0)))] := hD
  refine va_putF (D := D) (ci := 0) (v := .ref q14) (ty := .array .int) (C := RX0) (T := TX0) (N := 4) hx hb hts mX0_init_inX0 tyX0 tyX0_ok nmX0 hown hB.1 hP hD hS 0 rfl rfl 2 (by decide) (hts _ mX0_init_6) (fun _ h9 => h9) rfl hin rfl (by decide +kernel) rfl rfl (Nat.le_of_ble_eq_true rfl) dX0_init_16 (fun H locs hP hD hS => ?_)
  have hP : va_P D vwCl [(h0, .inr (0, [.ref q6, .int 0, .ref q14, .null])), (q6, .inl (cy 0, 3, .inl (fun _ => 0))), (q14, .inl (cy 0, 36, .inl (fun _ => 0)))] H := hP
  have hD : va_D A [(h0, .inr (0, [.ref q6, .int 0, .ref q14, .null])), (q6, .inl (cy 0, 3, .inl (fun _ => 0))), (q14, .inl (cy 0, 36, .inl (fun _ => 0)))] := hD
  refine lv_aload_n hx hb dX0_init_19 rfl (lv_at hl 0 rfl) ?_
  refine lv_bipush (v := 27) hx hb dX0_init_20 (by decide) ?_
  refine xw_newi (N := 27) hx hb (hts _ mX0_init_4) hB hP hD hS hA (by decide) (by decide) (Nat.le_of_ble_eq_true rfl) (Nat.le_of_ble_eq_true rfl) (Nat.le_of_ble_eq_true rfl) dX0_init_22 (fun q22 H hP hD hS => ?_)
  have hP : va_P D vwCl [(h0, .inr (0, [.ref q6, .int 0, .ref q14, .null])), (q6, .inl (cy 0, 3, .inl (fun _ => 0))), (q14, .inl (cy 0, 36, .inl (fun _ => 0))), (q22, .inl (cy 0, 27, .inl (fun _ => 0)))] H := hP
  have hD : va_D A [(h0, .inr (0, [.ref q6, .int 0, .ref q14, .null])), (q6, .inl (cy 0, 3, .inl (fun _ => 0))), (q14, .inl (cy 0, 36, .inl (fun _ => 0))), (q22, .inl (cy 0, 27, .inl (fun _ => 0)))] := hD
  refine va_putF (D := D) (ci := 0) (v := .ref q22) (ty := .array .int) (C := RX0) (T := TX0) (N := 4) hx hb hts mX0_init_inX0 tyX0 tyX0_ok nmX0 hown hB.1 hP hD hS 0 rfl rfl 3 (by decide) (hts _ mX0_init_7) (fun _ h9 => h9) rfl hin rfl (by decide +kernel) rfl rfl (Nat.le_of_ble_eq_true rfl) dX0_init_24 (fun H locs hP hD hS => ?_)
  have hP : va_P D vwCl [(h0, .inr (0, [.ref q6, .int 0, .ref q14, .ref q22])), (q6, .inl (cy 0, 3, .inl (fun _ => 0))), (q14, .inl (cy 0, 36, .inl (fun _ => 0))), (q22, .inl (cy 0, 27, .inl (fun _ => 0)))] H := hP
  have hD : va_D A [(h0, .inr (0, [.ref q6, .int 0, .ref q14, .ref q22])), (q6, .inl (cy 0, 3, .inl (fun _ => 0))), (q14, .inl (cy 0, 36, .inl (fun _ => 0))), (q22, .inl (cy 0, 27, .inl (fun _ => 0)))] := hD
  have hP : va_P D vwCl (xN_X0 cy (fun k => ([h0, q6, q14, q22] : List Nat).getD k 0)) H := hP
  have hD : va_D A (xN_X0 cy (fun k => ([h0, q6, q14, q22] : List Nat).getD k 0)) := hD
  exact W.vret hx hb hr (fun t ht hW => ⟨⟨fun k => ([h0, q6, q14, q22] : List Nat).getD k 0, rfl, rfl, by rw [ht]; exact hP, hD⟩, hS.F ht⟩) hS.2.2 dX0_init_27
def xN_X2 (cy : Nat → ClassId) (a : Nat → Nat) : va_W := [(a 0, .inr (2, [.ref (a 1), .ref (a 2), .ref (a 3), .int 0, .ref (a 4), .ref (a 5), .ref (a 6), .int 0])), (a 1, .inl (cy 0, 5, .inl (fun _ => 0))), (a 2, .inl (cy 0, 5, .inl (fun _ => 0))), (a 3, .inl (cy 0, 5, .inl (fun _ => 0))), (a 4, .inl (cy 1, 405, .inr (.inl (fun _ => 0)))), (a 5, .inl (cy 1, 2592, .inr (.inl (fun _ => 0)))), (a 6, .inl (cy 0, 32, .inl (fun _ => 0)))]
theorem mX2_init_1 : Cond.methodLink RX2 5 objectInit ∈ wsX2_init := List.mem_of_getElem? (i := 1) rfl
theorem mX2_init_2 : Cond.instanceMethod objectInit ∈ wsX2_init := List.mem_of_getElem? (i := 2) rfl
theorem mX2_init_3 : Cond.code objectInit ⟨#[0xb1]⟩ 1 none ∈ wsX2_init := List.mem_of_getElem? (i := 3) rfl
theorem mX2_init_4 : Cond.arrayClass .int ∈ wsX2_init := List.mem_of_getElem? (i := 4) rfl
theorem mX2_init_5 : Cond.fieldLink RX2 11 "TagCarrier$PairPlacer" "from" "[I" ∈ wsX2_init := List.mem_of_getElem? (i := 5) rfl
theorem mX2_init_inX2 : ∀ w ∈ u_ws RX2 TX2 8, w ∈ wsX2_init := by decide +kernel
theorem mX2_init_6 : Cond.fieldLink RX2 15 "TagCarrier$PairPlacer" "to" "[I" ∈ wsX2_init := List.mem_of_getElem? (i := 6) rfl
theorem mX2_init_7 : Cond.fieldLink RX2 18 "TagCarrier$PairPlacer" "cost" "[I" ∈ wsX2_init := List.mem_of_getElem? (i := 7) rfl
theorem mX2_init_8 : Cond.arrayClass .long ∈ wsX2_init := List.mem_of_getElem? (i := 8) rfl
theorem mX2_init_9 : Cond.fieldLink RX2 21 "TagCarrier$PairPlacer" "prices" "[J" ∈ wsX2_init := List.mem_of_getElem? (i := 9) rfl
theorem mX2_init_10 : Cond.fieldLink RX2 25 "TagCarrier$PairPlacer" "sums" "[J" ∈ wsX2_init := List.mem_of_getElem? (i := 10) rfl
theorem mX2_init_11 : Cond.fieldLink RX2 28 "TagCarrier$PairPlacer" "parts" "[I" ∈ wsX2_init := List.mem_of_getElem? (i := 11) rfl
set_option maxHeartbeats 4000000 in
set_option maxRecDepth 100000 in
theorem c_X2_init (l : Launch) (D : va_G) (cy : Nat → ClassId) (h0 sz : Nat) : Met l yX2_init wsX2_init ({ frames := 1, cells := 6, slots := 3044, locals := 12 }) (va_Pc [.ref h0] (xw_PC D cy sz [(h0, .inr (2, [.null, .null, .null, .int 0, .null, .null, .null, .int 0]))])) (va_Qv (S := Nat → Nat) (fun a => h0 = a 0) (fun a t => va_P D vwCl (xN_X2 cy a) t.heap ∧ va_D (va_A [(h0, .inr (2, [.null, .null, .null, .int 0, .null, .null, .null, .int 0]))] sz) (xN_X2 cy a)) (va_A [(h0, .inr (2, [.null, .null, .null, .int 0, .null, .null, .null, .int 0]))] sz)) 6 3044 (va_A [(h0, .inr (2, [.null, .null, .null, .int 0, .null, .null, .null, .int 0]))] sz) := by
  refine Met.ofW (cc := cX2_init) (maxL := 1) (ret := none) (by decide) rfl ?_
  intro p e s m args below meth c s₁ B hml hv
  obtain ⟨rfl, hsz, hP, hB, hD0⟩ := hv
  have hx := B.exec
  have hb := B.bytes
  have hr := B.returns
  have hts := atoms_spec (ws := wsX2_init) B.pre
  have hown : s.vm.findClass RX2 = some m.cls := findClass_of_methodNamed B.named
  have hlocks := B.notSynchronized
  have hin : meth.name = "<init>" := (name_of_methodNamed B.named B.method).1
  subst hsz
  have hD := hD0.self (sz := s.heap.size)
  generalize hAe : va_A [(h0, .inr (2, [.null, .null, .null, .int 0, .null, .null, .null, .int 0]))] s.heap.size = A at hD ⊢
  have hA : ∀ q : Nat, s.heap.size ≤ q → A q := fun q h => by rw [← hAe]; exact Or.inr h
  have hS : va_S A s.heap s.heap [] := va_S.rf
  have hP : va_P D vwCl [(h0, .inr (2, [.null, .null, .null, .int 0, .null, .null, .null, .int 0]))] s.heap := hP
  have hl := lv_entry ([.ref h0]) (n := 1) (Nat.le_of_ble_eq_true rfl)
  rw [lg_entry_eq]
  generalize (lg_sl ([.ref h0]) ++ List.replicate (1 - (lg_sl ([.ref h0])).length) Slot.unset).toArray = ls at hl ⊢
  have hl : lv_has ls 1 [(0, .ref h0)] := hl
  refine lv_aload_n hx hb dX2_init_0 rfl (lv_at hl 0 rfl) ?_
  refine W.objInit hx hb hown (hts _ mX2_init_1) (hts _ mX2_init_2) (hts _ mX2_init_3) rfl (by rw [hml]; exact hl.1) rfl dX2_init_1 (Nat.le_of_ble_eq_true rfl) (Nat.le_of_ble_eq_true rfl) ?_
  refine W.eq (g2 := F0 m 4 ls []) rfl ?_
  refine lv_aload_n hx hb dX2_init_4 rfl (lv_at hl 0 rfl) ?_
  refine lv_iconst (v := 5) hx hb dX2_init_5 (by decide) ?_
  refine xw_newi (N := 5) hx hb (hts _ mX2_init_4) hB hP hD hS hA (by decide) (by decide) (Nat.le_of_ble_eq_true rfl) (Nat.le_of_ble_eq_true rfl) (Nat.le_of_ble_eq_true rfl) dX2_init_6 (fun q6 H hP hD hS => ?_)
  have hP : va_P D vwCl [(h0, .inr (2, [.null, .null, .null, .int 0, .null, .null, .null, .int 0])), (q6, .inl (cy 0, 5, .inl (fun _ => 0)))] H := hP
  have hD : va_D A [(h0, .inr (2, [.null, .null, .null, .int 0, .null, .null, .null, .int 0])), (q6, .inl (cy 0, 5, .inl (fun _ => 0)))] := hD
  refine va_putF (D := D) (ci := 2) (v := .ref q6) (ty := .array .int) (C := RX2) (T := TX2) (N := 8) hx hb hts mX2_init_inX2 tyX2 tyX2_ok nmX2 hown hB.1 hP hD hS 0 rfl rfl 0 (by decide) (hts _ mX2_init_5) (fun _ h9 => h9) rfl hin rfl (by decide +kernel) rfl rfl (Nat.le_of_ble_eq_true rfl) dX2_init_8 (fun H locs hP hD hS => ?_)
  have hP : va_P D vwCl [(h0, .inr (2, [.ref q6, .null, .null, .int 0, .null, .null, .null, .int 0])), (q6, .inl (cy 0, 5, .inl (fun _ => 0)))] H := hP
  have hD : va_D A [(h0, .inr (2, [.ref q6, .null, .null, .int 0, .null, .null, .null, .int 0])), (q6, .inl (cy 0, 5, .inl (fun _ => 0)))] := hD
  refine lv_aload_n hx hb dX2_init_11 rfl (lv_at hl 0 rfl) ?_
  refine lv_iconst (v := 5) hx hb dX2_init_12 (by decide) ?_
  refine xw_newi (N := 5) hx hb (hts _ mX2_init_4) hB hP hD hS hA (by decide) (by decide) (Nat.le_of_ble_eq_true rfl) (Nat.le_of_ble_eq_true rfl) (Nat.le_of_ble_eq_true rfl) dX2_init_13 (fun q13 H hP hD hS => ?_)
  have hP : va_P D vwCl [(h0, .inr (2, [.ref q6, .null, .null, .int 0, .null, .null, .null, .int 0])), (q6, .inl (cy 0, 5, .inl (fun _ => 0))), (q13, .inl (cy 0, 5, .inl (fun _ => 0)))] H := hP
  have hD : va_D A [(h0, .inr (2, [.ref q6, .null, .null, .int 0, .null, .null, .null, .int 0])), (q6, .inl (cy 0, 5, .inl (fun _ => 0))), (q13, .inl (cy 0, 5, .inl (fun _ => 0)))] := hD
  refine va_putF (D := D) (ci := 2) (v := .ref q13) (ty := .array .int) (C := RX2) (T := TX2) (N := 8) hx hb hts mX2_init_inX2 tyX2 tyX2_ok nmX2 hown hB.1 hP hD hS 0 rfl rfl 1 (by decide) (hts _ mX2_init_6) (fun _ h9 => h9) rfl hin rfl (by decide +kernel) rfl rfl (Nat.le_of_ble_eq_true rfl) dX2_init_15 (fun H locs hP hD hS => ?_)
  have hP : va_P D vwCl [(h0, .inr (2, [.ref q6, .ref q13, .null, .int 0, .null, .null, .null, .int 0])), (q6, .inl (cy 0, 5, .inl (fun _ => 0))), (q13, .inl (cy 0, 5, .inl (fun _ => 0)))] H := hP
  have hD : va_D A [(h0, .inr (2, [.ref q6, .ref q13, .null, .int 0, .null, .null, .null, .int 0])), (q6, .inl (cy 0, 5, .inl (fun _ => 0))), (q13, .inl (cy 0, 5, .inl (fun _ => 0)))] := hD
  refine lv_aload_n hx hb dX2_init_18 rfl (lv_at hl 0 rfl) ?_
  refine lv_iconst (v := 5) hx hb dX2_init_19 (by decide) ?_
  refine xw_newi (N := 5) hx hb (hts _ mX2_init_4) hB hP hD hS hA (by decide) (by decide) (Nat.le_of_ble_eq_true rfl) (Nat.le_of_ble_eq_true rfl) (Nat.le_of_ble_eq_true rfl) dX2_init_20 (fun q20 H hP hD hS => ?_)
  have hP : va_P D vwCl [(h0, .inr (2, [.ref q6, .ref q13, .null, .int 0, .null, .null, .null, .int 0])), (q6, .inl (cy 0, 5, .inl (fun _ => 0))), (q13, .inl (cy 0, 5, .inl (fun _ => 0))), (q20, .inl (cy 0, 5, .inl (fun _ => 0)))] H := hP
  have hD : va_D A [(h0, .inr (2, [.ref q6, .ref q13, .null, .int 0, .null, .null, .null, .int 0])), (q6, .inl (cy 0, 5, .inl (fun _ => 0))), (q13, .inl (cy 0, 5, .inl (fun _ => 0))), (q20, .inl (cy 0, 5, .inl (fun _ => 0)))] := hD
  refine va_putF (D := D) (ci := 2) (v := .ref q20) (ty := .array .int) (C := RX2) (T := TX2) (N := 8) hx hb hts mX2_init_inX2 tyX2 tyX2_ok nmX2 hown hB.1 hP hD hS 0 rfl rfl 2 (by decide) (hts _ mX2_init_7) (fun _ h9 => h9) rfl hin rfl (by decide +kernel) rfl rfl (Nat.le_of_ble_eq_true rfl) dX2_init_22 (fun H locs hP hD hS => ?_)
  have hP : va_P D vwCl [(h0, .inr (2, [.ref q6, .ref q13, .ref q20, .int 0, .null, .null, .null, .int 0])), (q6, .inl (cy 0, 5, .inl (fun _ => 0))), (q13, .inl (cy 0, 5, .inl (fun _ => 0))), (q20, .inl (cy 0, 5, .inl (fun _ => 0)))] H := hP
  have hD : va_D A [(h0, .inr (2, [.ref q6, .ref q13, .ref q20, .int 0, .null, .null, .null, .int 0])), (q6, .inl (cy 0, 5, .inl (fun _ => 0))), (q13, .inl (cy 0, 5, .inl (fun _ => 0))), (q20, .inl (cy 0, 5, .inl (fun _ => 0)))] := hD
  refine lv_aload_n hx hb dX2_init_25 rfl (lv_at hl 0 rfl) ?_
  refine lv_sipush (v := 405) hx hb dX2_init_26 (by decide) ?_
  refine xw_newl (N := 405) hx hb (hts _ mX2_init_8) hB hP hD hS hA (by decide) (by decide) (Nat.le_of_ble_eq_true rfl) (Nat.le_of_ble_eq_true rfl) (Nat.le_of_ble_eq_true rfl) dX2_init_29 (fun q29 H hP hD hS => ?_)
  have hP : va_P D vwCl [(h0, .inr (2, [.ref q6, .ref q13, .ref q20, .int 0, .null, .null, .null, .int 0])), (q6, .inl (cy 0, 5, .inl (fun _ => 0))), (q13, .inl (cy 0, 5, .inl (fun _ => 0))), (q20, .inl (cy 0, 5, .inl (fun _ => 0))), (q29, .inl (cy 1, 405, .inr (.inl (fun _ => 0))))] H := hP
  have hD : va_D A [(h0, .inr (2, [.ref q6, .ref q13, .ref q20, .int 0, .null, .null, .null, .int 0])), (q6, .inl (cy 0, 5, .inl (fun _ => 0))), (q13, .inl (cy 0, 5, .inl (fun _ => 0))), (q20, .inl (cy 0, 5, .inl (fun _ => 0))), (q29, .inl (cy 1, 405, .inr (.inl (fun _ => 0))))] := hD
  refine va_putF (D := D) (ci := 2) (v := .ref q29) (ty := .array .long) (C := RX2) (T := TX2) (N := 8) hx hb hts mX2_init_inX2 tyX2 tyX2_ok nmX2 hown hB.1 hP hD hS 0 rfl rfl 4 (by decide) (hts _ mX2_init_9) (fun _ h9 => h9) rfl hin rfl (by decide +kernel) rfl rfl (Nat.le_of_ble_eq_true rfl) dX2_init_31 (fun H locs hP hD hS => ?_)
  have hP : va_P D vwCl [(h0, .inr (2, [.ref q6, .ref q13, .ref q20, .int 0, .ref q29, .null, .null, .int 0])), (q6, .inl (cy 0, 5, .inl (fun _ => 0))), (q13, .inl (cy 0, 5, .inl (fun _ => 0))), (q20, .inl (cy 0, 5, .inl (fun _ => 0))), (q29, .inl (cy 1, 405, .inr (.inl (fun _ => 0))))] H := hP
  have hD : va_D A [(h0, .inr (2, [.ref q6, .ref q13, .ref q20, .int 0, .ref q29, .null, .null, .int 0])), (q6, .inl (cy 0, 5, .inl (fun _ => 0))), (q13, .inl (cy 0, 5, .inl (fun _ => 0))), (q20, .inl (cy 0, 5, .inl (fun _ => 0))), (q29, .inl (cy 1, 405, .inr (.inl (fun _ => 0))))] := hD
  refine lv_aload_n hx hb dX2_init_34 rfl (lv_at hl 0 rfl) ?_
  refine lv_sipush (v := 2592) hx hb dX2_init_35 (by decide) ?_
  refine xw_newl (N := 2592) hx hb (hts _ mX2_init_8) hB hP hD hS hA (by decide) (by decide) (Nat.le_of_ble_eq_true rfl) (Nat.le_of_ble_eq_true rfl) (Nat.le_of_ble_eq_true rfl) dX2_init_38 (fun q38 H hP hD hS => ?_)
  have hP : va_P D vwCl [(h0, .inr (2, [.ref q6, .ref q13, .ref q20, .int 0, .ref q29, .null, .null, .int 0])), (q6, .inl (cy 0, 5, .inl (fun _ => 0))), (q13, .inl (cy 0, 5, .inl (fun _ => 0))), (q20, .inl (cy 0, 5, .inl (fun _ => 0))), (q29, .inl (cy 1, 405, .inr (.inl (fun _ => 0)))), (q38, .inl (cy 1, 2592, .inr (.inl (fun _ => 0))))] H := hP
  have hD : va_D A [(h0, .inr (2, [.ref q6, .ref q13, .ref q20, .int 0, .ref q29, .null, .null, .int 0])), (q6, .inl (cy 0, 5, .inl (fun _ => 0))), (q13, .inl (cy 0, 5, .inl (fun _ => 0))), (q20, .inl (cy 0, 5, .inl (fun _ => 0))), (q29, .inl (cy 1, 405, .inr (.inl (fun _ => 0)))), (q38, .inl (cy 1, 2592, .inr (.inl (fun _ => 0))))] := hD
  refine va_putF (D := D) (ci := 2) (v := .ref q38) (ty := .array .long) (C := RX2) (T := TX2) (N := 8) hx hb hts mX2_init_inX2 tyX2 tyX2_ok nmX2 hown hB.1 hP hD hS 0 rfl rfl 5 (by decide) (hts _ mX2_init_10) (fun _ h9 => h9) rfl hin rfl (by decide +kernel) rfl rfl (Nat.le_of_ble_eq_true rfl) dX2_init_40 (fun H locs hP hD hS => ?_)
  have hP : va_P D vwCl [(h0, .inr (2, [.ref q6, .ref q13, .ref q20, .int 0, .ref q29, .ref q38, .null, .int 0])), (q6, .inl (cy 0, 5, .inl (fun _ => 0))), (q13, .inl (cy 0, 5, .inl (fun _ => 0))), (q20, .inl (cy 0, 5, .inl (fun _ => 0))), (q29, .inl (cy 1, 405, .inr (.inl (fun _ => 0)))), (q38, .inl (cy 1, 2592, .inr (.inl (fun _ => 0))))] H := hP
  have hD : va_D A [(h0, .inr (2, [.ref q6, .ref q13, .ref q20, .int 0, .ref q29, .ref q38, .null, .int 0])), (q6, .inl (cy 0, 5, .inl (fun _ => 0))), (q13, .inl (cy 0, 5, .inl (fun _ => 0))), (q20, .inl (cy 0, 5, .inl (fun _ => 0))), (q29, .inl (cy 1, 405, .inr (.inl (fun _ => 0)))), (q38, .inl (cy 1, 2592, .inr (.inl (fun _ => 0))))] := hD
  refine lv_aload_n hx hb dX2_init_43 rfl (lv_at hl 0 rfl) ?_
  refine lv_bipush (v := 32) hx hb dX2_init_44 (by decide) ?_
  refine xw_newi (N := 32) hx hb (hts _ mX2_init_4) hB hP hD hS hA (by decide) (by decide) (Nat.le_of_ble_eq_true rfl) (Nat.le_of_ble_eq_true rfl) (Nat.le_of_ble_eq_true rfl) dX2_init_46 (fun q46 H hP hD hS => ?_)
  have hP : va_P D vwCl [(h0, .inr (2, [.ref q6, .ref q13, .ref q20, .int 0, .ref q29, .ref q38, .null, .int 0])), (q6, .inl (cy 0, 5, .inl (fun _ => 0))), (q13, .inl (cy 0, 5, .inl (fun _ => 0))), (q20, .inl (cy 0, 5, .inl (fun _ => 0))), (q29, .inl (cy 1, 405, .inr (.inl (fun _ => 0)))), (q38, .inl (cy 1, 2592, .inr (.inl (fun _ => 0)))), (q46, .inl (cy 0, 32, .inl (fun _ => 0)))] H := hP
  have hD : va_D A [(h0, .inr (2, [.ref q6, .ref q13, .ref q20, .int 0, .ref q29, .ref q38, .null, .int 0])), (q6, .inl (cy 0, 5, .inl (fun _ => 0))), (q13, .inl (cy 0, 5, .inl (fun _ => 0))), (q20, .inl (cy 0, 5, .inl (fun _ => 0))), (q29, .inl (cy 1, 405, .inr (.inl (fun _ => 0)))), (q38, .inl (cy 1, 2592, .inr (.inl (fun _ => 0)))), (q46, .inl (cy 0, 32, .inl (fun _ => 0)))] := hD
  refine va_putF (D := D) (ci := 2) (v := .ref q46) (ty := .array .int) (C := RX2) (T := TX2) (N := 8) hx hb hts mX2_init_inX2 tyX2 tyX2_ok nmX2 hown hB.1 hP hD hS 0 rfl rfl 6 (by decide) (hts _ mX2_init_11) (fun _ h9 => h9) rfl hin rfl (by decide +kernel) rfl rfl (Nat.le_of_ble_eq_true rfl) dX2_init_48 (fun H locs hP hD hS => ?_)
  have hP : va_P D vwCl [(h0, .inr (2, [.ref q6, .ref q13, .ref q20, .int 0, .ref q29, .ref q38, .ref q46, .int 0])), (q6, .inl (cy 0, 5, .inl (fun _ => 0))), (q13, .inl (cy 0, 5, .inl (fun _ => 0))), (q20, .inl (cy 0, 5, .inl (fun _ => 0))), (q29, .inl (cy 1, 405, .inr (.inl (fun _ => 0)))), (q38, .inl (cy 1, 2592, .inr (.inl (fun _ => 0)))), (q46, .inl (cy 0, 32, .inl (fun _ => 0)))] H := hP
  have hD : va_D A [(h0, .inr (2, [.ref q6, .ref q13, .ref q20, .int 0, .ref q29, .ref q38, .ref q46, .int 0])), (q6, .inl (cy 0, 5, .inl (fun _ => 0))), (q13, .inl (cy 0, 5, .inl (fun _ => 0))), (q20, .inl (cy 0, 5, .inl (fun _ => 0))), (q29, .inl (cy 1, 405, .inr (.inl (fun _ => 0)))), (q38, .inl (cy 1, 2592, .inr (.inl (fun _ => 0)))), (q46, .inl (cy 0, 32, .inl (fun _ => 0)))] := hD
  have hP : va_P D vwCl (xN_X2 cy (fun k => ([h0, q6, q13, q20, q29, q38, q46] : List Nat).getD k 0)) H := hP
  have hD : va_D A (xN_X2 cy (fun k => ([h0, q6, q13, q20, q29, q38, q46] : List Nat).getD k 0)) := hD
  exact W.vret hx hb hr (fun t ht hW => ⟨⟨fun k => ([h0, q6, q13, q20, q29, q38, q46] : List Nat).getD k 0, rfl, rfl, by rw [ht]; exact hP, hD⟩, hS.F ht⟩) hS.2.2 dX2_init_51
def xN_X5 (cy : Nat → ClassId) (a : Nat → Nat) : va_W := [(a 0, .inr (5, [.ref (a 1), .ref (a 2), .ref (a 3), .int 0])), (a 1, .inl (cy 0, 5, .inl (fun _ => 0))), (a 2, .inl (cy 0, 5, .inl (fun _ => 0))), (a 3, .inl (cy 0, 3, .inl (fun _ => 0)))]
theorem mX5_init_1 : Cond.methodLink RX5 3 objectInit ∈ wsX5_init := List.mem_of_getElem? (i := 1) rfl
theorem mX5_init_2 : Cond.instanceMethod objectInit ∈ wsX5_init := List.mem_of_getElem? (i := 2) rfl
theorem mX5_init_3 : Cond.code objectInit ⟨#[0xb1]⟩ 1 none ∈ wsX5_init := List.mem_of_getElem? (i := 3) rfl
theorem mX5_init_4 : Cond.arrayClass .int ∈ wsX5_init := List.mem_of_getElem? (i := 4) rfl
theorem mX5_init_5 : Cond.fieldLink RX5 9 "TagCarrier$Wanted" "from" "[I" ∈ wsX5_init := List.mem_of_getElem? (i := 5) rfl
theorem mX5_init_inX5 : ∀ w ∈ u_ws RX5 TX5 4, w ∈ wsX5_init := by decide +kernel
theorem mX5_init_6 : Cond.fieldLink RX5 15 "TagCarrier$Wanted" "to" "[I" ∈ wsX5_init := List.mem_of_getElem? (i := 6) rfl
theorem mX5_init_7 : Cond.fieldLink RX5 18 "TagCarrier$Wanted" "mark" "[I" ∈ wsX5_init := List.mem_of_getElem? (i := 7) rfl
set_option maxHeartbeats 4000000 in
set_option maxRecDepth 100000 in
theorem c_X5_init (l : Launch) (D : va_G) (cy : Nat → ClassId) (h0 sz : Nat) : Met l yX5_init wsX5_init ({ frames := 1, cells := 3, slots := 13, locals := 12 }) (va_Pc [.ref h0] (xw_PC D cy sz [(h0, .inr (5, [.null, .null, .null, .int 0]))])) (va_Qv (S := Nat → Nat) (fun a => h0 = a 0) (fun a t => va_P D vwCl (xN_X5 cy a) t.heap ∧ va_D (va_A [(h0, .inr (5, [.null, .null, .null, .int 0]))] sz) (xN_X5 cy a)) (va_A [(h0, .inr (5, [.null, .null, .null, .int 0]))] sz)) 3 13 (va_A [(h0, .inr (5, [.null, .null, .null, .int 0]))] sz) := by
  refine Met.ofW (cc := cX5_init) (maxL := 1) (ret := none) (by decide) rfl ?_
  intro p e s m args below meth c s₁ B hml hv
  obtain ⟨rfl, hsz, hP, hB, hD0⟩ := hv
  have hx := B.exec
  have hb := B.bytes
  have hr := B.returns
  have hts := atoms_spec (ws := wsX5_init) B.pre
  have hown : s.vm.findClass RX5 = some m.cls := findClass_of_methodNamed B.named
  have hlocks := B.notSynchronized
  have hin : meth.name = "<init>" := (name_of_methodNamed B.named B.method).1
  subst hsz
  have hD := hD0.self (sz := s.heap.size)
  generalize hAe : va_A [(h0, .inr (5, [.null, .null, .null, .int 0]))] s.heap.size = A at hD ⊢
  have hA : ∀ q : Nat, s.heap.size ≤ q → A q := fun q h => by rw [← hAe]; exact Or.inr h
  have hS : va_S A s.heap s.heap [] := va_S.rf
  have hP : va_P D vwCl [(h0, .inr (5, [.null, .null, .null, .int 0]))] s.heap := hP
  have hl := lv_entry ([.ref h0]) (n := 1) (Nat.le_of_ble_eq_true rfl)
  rw [lg_entry_eq]
  generalize (lg_sl ([.ref h0]) ++ List.replicate (1 - (lg_sl ([.ref h0])).length) Slot.unset).toArray = ls at hl ⊢
  have hl : lv_has ls 1 [(0, .ref h0)] := hl
  refine lv_aload_n hx hb dX5_init_0 rfl (lv_at hl 0 rfl) ?_
  refine W.objInit hx hb hown (hts _ mX5_init_1) (hts _ mX5_init_2) (hts _ mX5_init_3) rfl (by rw [hml]; exact hl.1) rfl dX5_init_1 (Nat.le_of_ble_eq_true rfl) (Nat.le_of_ble_eq_true rfl) ?_
  refine W.eq (g2 := F0 m 4 ls []) rfl ?_
  refine lv_aload_n hx hb dX5_init_4 rfl (lv_at hl 0 rfl) ?_
  refine lv_iconst (v := 5) hx hb dX5_init_5 (by decide) ?_
  refine xw_newi (N := 5) hx hb (hts _ mX5_init_4) hB hP hD hS hA (by decide) (by decide) (Nat.le_of_ble_eq_true rfl) (Nat.le_of_ble_eq_true rfl) (Nat.le_of_ble_eq_true rfl) dX5_init_6 (fun q6 H hP hD hS => ?_)
  have hP : va_P D vwCl [(h0, .inr (5, [.null, .null, .null, .int 0])), (q6, .inl (cy 0, 5, .inl (fun _ => 0)))] H := hP
  have hD : va_D A [(h0, .inr (5, [.null, .null, .null, .int 0])), (q6, .inl (cy 0, 5, .inl (fun _ => 0)))] := hD
  refine va_putF (D := D) (ci := 5) (v := .ref q6) (ty := .array .int) (C := RX5) (T := TX5) (N := 4) hx hb hts mX5_init_inX5 tyX5 tyX5_ok nmX5 hown hB.1 hP hD hS 0 rfl rfl 0 (by decide) (hts _ mX5_init_5) (fun _ h9 => h9) rfl hin rfl (by decide +kernel) rfl rfl (Nat.le_of_ble_eq_true rfl) dX5_init_8 (fun H locs hP hD hS => ?_)
  have hP : va_P D vwCl [(h0, .inr (5, [.ref q6, .null, .null, .int 0])), (q6, .inl (cy 0, 5, .inl (fun _ => 0)))] H := hP
  have hD : va_D A [(h0, .inr (5, [.ref q6, .null, .null, .int 0])), (q6, .inl (cy 0, 5, .inl (fun _ => 0)))] := hD
  refine lv_aload_n hx hb dX5_init_11 rfl (lv_at hl 0 rfl) ?_
  refine lv_iconst (v := 5) hx hb dX5_init_12 (by decide) ?_
  refine xw_newi (N := 5) hx hb (hts _ mX5_init_4) hB hP hD hS hA (by decide) (by decide) (Nat.le_of_ble_eq_true rfl) (Nat.le_of_ble_eq_true rfl) (Nat.le_of_ble_eq_true rfl) dX5_init_13 (fun q13 H hP hD hS => ?_)
  have hP : va_P D vwCl [(h0, .inr (5, [.ref q6, .null, .null, .int 0])), (q6, .inl (cy 0, 5, .inl (fun _ => 0))), (q13, .inl (cy 0, 5, .inl (fun _ => 0)))] H := hP
  have hD : va_D A [(h0, .inr (5, [.ref q6, .null, .null, .int 0])), (q6, .inl (cy 0, 5, .inl (fun _ => 0))), (q13, .inl (cy 0, 5, .inl (fun _ => 0)))] := hD
  refine va_putF (D := D) (ci := 5) (v := .ref q13) (ty := .array .int) (C := RX5) (T := TX5) (N := 4) hx hb hts mX5_init_inX5 tyX5 tyX5_ok nmX5 hown hB.1 hP hD hS 0 rfl rfl 1 (by decide) (hts _ mX5_init_6) (fun _ h9 => h9) rfl hin rfl (by decide +kernel) rfl rfl (Nat.le_of_ble_eq_true rfl) dX5_init_15 (fun H locs hP hD hS => ?_)
  have hP : va_P D vwCl [(h0, .inr (5, [.ref q6, .ref q13, .null, .int 0])), (q6, .inl (cy 0, 5, .inl (fun _ => 0))), (q13, .inl (cy 0, 5, .inl (fun _ => 0)))] H := hP
  have hD : va_D A [(h0, .inr (5, [.ref q6, .ref q13, .null, .int 0])), (q6, .inl (cy 0, 5, .inl (fun _ => 0))), (q13, .inl (cy 0, 5, .inl (fun _ => 0)))] := hD
  refine lv_aload_n hx hb dX5_init_18 rfl (lv_at hl 0 rfl) ?_
  refine lv_iconst (v := 3) hx hb dX5_init_19 (by decide) ?_
  refine xw_newi (N := 3) hx hb (hts _ mX5_init_4) hB hP hD hS hA (by decide) (by decide) (Nat.le_of_ble_eq_true rfl) (Nat.le_of_ble_eq_true rfl) (Nat.le_of_ble_eq_true rfl) dX5_init_20 (fun q20 H hP hD hS => ?_)
  have hP : va_P D vwCl [(h0, .inr (5, [.ref q6, .ref q13, .null, .int 0])), (q6, .inl (cy 0, 5, .inl (fun _ => 0))), (q13, .inl (cy 0, 5, .inl (fun _ => 0))), (q20, .inl (cy 0, 3, .inl (fun _ => 0)))] H := hP
  have hD : va_D A [(h0, .inr (5, [.ref q6, .ref q13, .null, .int 0])), (q6, .inl (cy 0, 5, .inl (fun _ => 0))), (q13, .inl (cy 0, 5, .inl (fun _ => 0))), (q20, .inl (cy 0, 3, .inl (fun _ => 0)))] := hD
  refine va_putF (D := D) (ci := 5) (v := .ref q20) (ty := .array .int) (C := RX5) (T := TX5) (N := 4) hx hb hts mX5_init_inX5 tyX5 tyX5_ok nmX5 hown hB.1 hP hD hS 0 rfl rfl 2 (by decide) (hts _ mX5_init_7) (fun _ h9 => h9) rfl hin rfl (by decide +kernel) rfl rfl (Nat.le_of_ble_eq_true rfl) dX5_init_22 (fun H locs hP hD hS => ?_)
  have hP : va_P D vwCl [(h0, .inr (5, [.ref q6, .ref q13, .ref q20, .int 0])), (q6, .inl (cy 0, 5, .inl (fun _ => 0))), (q13, .inl (cy 0, 5, .inl (fun _ => 0))), (q20, .inl (cy 0, 3, .inl (fun _ => 0)))] H := hP
  have hD : va_D A [(h0, .inr (5, [.ref q6, .ref q13, .ref q20, .int 0])), (q6, .inl (cy 0, 5, .inl (fun _ => 0))), (q13, .inl (cy 0, 5, .inl (fun _ => 0))), (q20, .inl (cy 0, 3, .inl (fun _ => 0)))] := hD
  have hP : va_P D vwCl (xN_X5 cy (fun k => ([h0, q6, q13, q20] : List Nat).getD k 0)) H := hP
  have hD : va_D A (xN_X5 cy (fun k => ([h0, q6, q13, q20] : List Nat).getD k 0)) := hD
  exact W.vret hx hb hr (fun t ht hW => ⟨⟨fun k => ([h0, q6, q13, q20] : List Nat).getD k 0, rfl, rfl, by rw [ht]; exact hP, hD⟩, hS.F ht⟩) hS.2.2 dX5_init_25
def xN_X6 (cy : Nat → ClassId) (a : Nat → Nat) : va_W := [(a 0, .inr (6, [.ref (a 1), .int 0, .ref (a 2)])), (a 1, .inl (cy 0, 21, .inl (fun _ => 0))), (a 2, .inl (cy 0, 5, .inl (fun _ => 0)))]
theorem mX6_init_1 : Cond.methodLink RX6 3 objectInit ∈ wsX6_init := List.mem_of_getElem? (i := 1) rfl
theorem mX6_init_2 : Cond.instanceMethod objectInit ∈ wsX6_init := List.mem_of_getElem? (i := 2) rfl
theorem mX6_init_3 : Cond.code objectInit ⟨#[0xb1]⟩ 1 none ∈ wsX6_init := List.mem_of_getElem? (i := 3) rfl
theorem mX6_init_4 : Cond.arrayClass .int ∈ wsX6_init := List.mem_of_getElem? (i := 4) rfl
theorem mX6_init_5 : Cond.fieldLink RX6 9 "TagCarrier$Writer" "signs" "[I" ∈ wsX6_init := List.mem_of_getElem? (i := 5) rfl
theorem mX6_init_inX6 : ∀ w ∈ u_ws RX6 TX6 3, w ∈ wsX6_init := by decide +kernel
theorem mX6_init_6 : Cond.fieldLink RX6 15 "TagCarrier$Writer" "ranks" "[I" ∈ wsX6_init := List.mem_of_getElem? (i := 6) rfl
set_option maxHeartbeats 4000000 in
set_option maxRecDepth 100000 in
theorem c_X6_init (l : Launch) (D : va_G) (cy : Nat → ClassId) (h0 sz : Nat) : Met l yX6_init wsX6_init ({ frames := 1, cells := 2, slots := 26, locals := 12 }) (va_Pc [.ref h0] (xw_PC D cy sz [(h0, .inr (6, [.null, .int 0, .null]))])) (va_Qv (S := Nat → Nat) (fun a => h0 = a 0) (fun a t => va_P D vwCl (xN_X6 cy a) t.heap ∧ va_D (va_A [(h0, .inr (6, [.null, .int 0, .null]))] sz) (xN_X6 cy a)) (va_A [(h0, .inr (6, [.null, .int 0, .null]))] sz)) 2 26 (va_A [(h0, .inr (6, [.null, .int 0, .null]))] sz) := by
  refine Met.ofW (cc := cX6_init) (maxL := 1) (ret := none) (by decide) rfl ?_
  intro p e s m args below meth c s₁ B hml hv
  obtain ⟨rfl, hsz, hP, hB, hD0⟩ := hv
  have hx := B.exec
  have hb := B.bytes
  have hr := B.returns
  have hts := atoms_spec (ws := wsX6_init) B.pre
  have hown : s.vm.findClass RX6 = some m.cls := findClass_of_methodNamed B.named
  have hlocks := B.notSynchronized
  have hin : meth.name = "<init>" := (name_of_methodNamed B.named B.method).1
  subst hsz
  have hD := hD0.self (sz := s.heap.size)
  generalize hAe : va_A [(h0, .inr (6, [.null, .int 0, .null]))] s.heap.size = A at hD ⊢
  have hA : ∀ q : Nat, s.heap.size ≤ q → A q := fun q h => by rw [← hAe]; exact Or.inr h
  have hS : va_S A s.heap s.heap [] := va_S.rf
  have hP : va_P D vwCl [(h0, .inr (6, [.null, .int 0, .null]))] s.heap := hP
  have hl := lv_entry ([.ref h0]) (n := 1) (Nat.le_of_ble_eq_true rfl)
  rw [lg_entry_eq]
  generalize (lg_sl ([.ref h0]) ++ List.replicate (1 - (lg_sl ([.ref h0])).length) Slot.unset).toArray = ls at hl ⊢
  have hl : lv_has ls 1 [(0, .ref h0)] := hl
  refine lv_aload_n hx hb dX6_init_0 rfl (lv_at hl 0 rfl) ?_
  refine W.objInit hx hb hown (hts _ mX6_init_1) (hts _ mX6_init_2) (hts _ mX6_init_3) rfl (by rw [hml]; exact hl.1) rfl dX6_init_1 (Nat.le_of_ble_eq_true rfl) (Nat.le_of_ble_eq_true rfl) ?_
  refine W.eq (g2 := F0 m 4 ls []) rfl ?_
  refine lv_aload_n hx hb dX6_init_4 rfl (lv_at hl 0 rfl) ?_
  refine lv_bipush (v := 21) hx hb dX6_init_5 (by decide) ?_
  refine xw_newi (N := 21) hx hb (hts _ mX6_init_4) hB hP hD hS hA (by decide) (by decide) (Nat.le_of_ble_eq_true rfl) (Nat.le_of_ble_eq_true rfl) (Nat.le_of_ble_eq_true rfl) dX6_init_7 (fun q7 H hP hD hS => ?_)
  have hP : va_P D vwCl [(h0, .inr (6, [.null, .int 0, .null])), (q7, .inl (cy 0, 21, .inl (fun _ => 0)))] H := hP
  have hD : va_D A [(h0, .inr (6, [.null, .int 0, .null])), (q7, .inl (cy 0, 21, .inl (fun _ => 0)))] := hD
  refine va_putF (D := D) (ci := 6) (v := .ref q7) (ty := .array .int) (C := RX6) (T := TX6) (N := 3) hx hb hts mX6_init_inX6 tyX6 tyX6_ok nmX6 hown hB.1 hP hD hS 0 rfl rfl 0 (by decide) (hts _ mX6_init_5) (fun _ h9 => h9) rfl hin rfl (by decide +kernel) rfl rfl (Nat.le_of_ble_eq_true rfl) dX6_init_9 (fun H locs hP hD hS => ?_)
  have hP : va_P D vwCl [(h0, .inr (6, [.ref q7, .int 0, .null])), (q7, .inl (cy 0, 21, .inl (fun _ => 0)))] H := hP
  have hD : va_D A [(h0, .inr (6, [.ref q7, .int 0, .null])), (q7, .inl (cy 0, 21, .inl (fun _ => 0)))] := hD
  refine lv_aload_n hx hb dX6_init_12 rfl (lv_at hl 0 rfl) ?_
  refine lv_iconst (v := 5) hx hb dX6_init_13 (by decide) ?_
  refine xw_newi (N := 5) hx hb (hts _ mX6_init_4) hB hP hD hS hA (by decide) (by decide) (Nat.le_of_ble_eq_true rfl) (Nat.le_of_ble_eq_true rfl) (Nat.le_of_ble_eq_true rfl) dX6_init_14 (fun q14 H hP hD hS => ?_)
  have hP : va_P D vwCl [(h0, .inr (6, [.ref q7, .int 0, .null])), (q7, .inl (cy 0, 21, .inl (fun _ => 0))), (q14, .inl (cy 0, 5, .inl (fun _ => 0)))] H := hP
  have hD : va_D A [(h0, .inr (6, [.ref q7, .int 0, .null])), (q7, .inl (cy 0, 21, .inl (fun _ => 0))), (q14, .inl (cy 0, 5, .inl (fun _ => 0)))] := hD
  refine va_putF (D := D) (ci := 6) (v := .ref q14) (ty := .array .int) (C := RX6) (T := TX6) (N := 3) hx hb hts mX6_init_inX6 tyX6 tyX6_ok nmX6 hown hB.1 hP hD hS 0 rfl rfl 2 (by decide) (hts _ mX6_init_6) (fun _ h9 => h9) rfl hin rfl (by decide +kernel) rfl rfl (Nat.le_of_ble_eq_true rfl) dX6_init_16 (fun H locs hP hD hS => ?_)
  have hP : va_P D vwCl [(h0, .inr (6, [.ref q7, .int 0, .ref q14])), (q7, .inl (cy 0, 21, .inl (fun _ => 0))), (q14, .inl (cy 0, 5, .inl (fun _ => 0)))] H := hP
  have hD : va_D A [(h0, .inr (6, [.ref q7, .int 0, .ref q14])), (q7, .inl (cy 0, 21, .inl (fun _ => 0))), (q14, .inl (cy 0, 5, .inl (fun _ => 0)))] := hD
  have hP : va_P D vwCl (xN_X6 cy (fun k => ([h0, q7, q14] : List Nat).getD k 0)) H := hP
  have hD : va_D A (xN_X6 cy (fun k => ([h0, q7, q14] : List Nat).getD k 0)) := hD
  exact W.vret hx hb hr (fun t ht hW => ⟨⟨fun k => ([h0, q7, q14] : List Nat).getD k 0, rfl, rfl, by rw [ht]; exact hP, hD⟩, hS.F ht⟩) hS.2.2 dX6_init_19
def xN_X1 (cy : Nat → ClassId) (a : Nat → Nat) : va_W := [(a 0, .inr (1, [.ref (a 1), .int 0, .ref (a 9)])), (a 1, .inr (4, [.int 0, .int 0, .int 0, .int 0, .int 0, .ref (a 2), .ref (a 3), .ref (a 4), .ref (a 5), .ref (a 6), .ref (a 7), .ref (a 8)])), (a 2, .inl (cy 0, 5, .inl (fun _ => 0))), (a 3, .inl (cy 0, 5, .inl (fun _ => 0))), (a 4, .inl (cy 0, 5, .inl (fun _ => 0))), (a 5, .inl (cy 0, 5, .inl (fun _ => 0))), (a 6, .inl (cy 0, 3, .inl (fun _ => 0))), (a 7, .inl (cy 0, 3, .inl (fun _ => 0))), (a 8, .inl (cy 0, 5, .inl (fun _ => 0))), (a 9, .inl (cy 0, 30, .inl (fun _ => 0)))]
theorem mX1_init_1 : Cond.methodLink RX1 3 objectInit ∈ wsX1_init := List.mem_of_getElem? (i := 1) rfl
theorem mX1_init_2 : Cond.instanceMethod objectInit ∈ wsX1_init := List.mem_of_getElem? (i := 2) rfl
theorem mX1_init_3 : Cond.code objectInit ⟨#[0xb1]⟩ 1 none ∈ wsX1_init := List.mem_of_getElem? (i := 3) rfl
theorem mX1_init_inX4 : ∀ w ∈ u_ws RX4 TX4 12, w ∈ wsX1_init := by decide +kernel
theorem mX1_init_4 : Cond.classLink RX1 9 RX4 ∈ wsX1_init := List.mem_of_getElem? (i := 4) rfl
theorem mX1_init_5 : Cond.instantiable RX4 12 ∈ wsX1_init := List.mem_of_getElem? (i := 5) rfl
theorem mX1_init_6 : Cond.initialized RX4 ∈ wsX1_init := List.mem_of_getElem? (i := 6) rfl
theorem mX1_init_10 : Cond.instanceMethod yX4_init ∈ wsX1_init := List.mem_of_getElem? (i := 10) rfl
theorem mX1_init_7 : Cond.fieldLink RX1 12 "TagCarrier$Pad" "source" "LTagCarrier$Source;" ∈ wsX1_init := List.mem_of_getElem? (i := 7) rfl
theorem mX1_init_inX1 : ∀ w ∈ u_ws RX1 TX1 3, w ∈ wsX1_init := by decide +kernel
theorem mX1_init_8 : Cond.arrayClass .int ∈ wsX1_init := List.mem_of_getElem? (i := 8) rfl
theorem mX1_init_9 : Cond.fieldLink RX1 18 "TagCarrier$Pad" "signs" "[I" ∈ wsX1_init := List.mem_of_getElem? (i := 9) rfl
set_option maxHeartbeats 4000000 in
set_option maxRecDepth 100000 in
theorem c_X1_init (l : Launch) (D : va_G) (cy : Nat → ClassId) (h0 sz : Nat) : Met l yX1_init wsX1_init ({ frames := 2, cells := 9, slots := 73, locals := 32 }) (va_Pc [.ref h0] (xw_PC D cy sz [(h0, .inr (1, [.null, .int 0, .null]))])) (va_Qv (S := Nat → Nat) (fun a => h0 = a 0) (fun a t => va_P D vwCl (xN_X1 cy a) t.heap ∧ va_D (va_A [(h0, .inr (1, [.null, .int 0, .null]))] sz) (xN_X1 cy a)) (va_A [(h0, .inr (1, [.null, .int 0, .null]))] sz)) 9 73 (va_A [(h0, .inr (1, [.null, .int 0, .null]))] sz) := by
  refine Met.ofW (cc := cX1_init) (maxL := 1) (ret := none) (by decide) rfl ?_
  intro p e s m args below meth c s₁ B hml hv
  obtain ⟨rfl, hsz, hP, hB, hD0⟩ := hv
  have hx := B.exec
  have hb := B.bytes
  have hr := B.returns
  have hts := atoms_spec (ws := wsX1_init) B.pre
  have hown : s.vm.findClass RX1 = some m.cls := findClass_of_methodNamed B.named
  have hlocks := B.notSynchronized
  have hin : meth.name = "<init>" := (name_of_methodNamed B.named B.method).1
  subst hsz
  have hD := hD0.self (sz := s.heap.size)
  generalize hAe : va_A [(h0, .inr (1, [.null, .int 0, .null]))] s.heap.size = A at hD ⊢
  have hA : ∀ q : Nat, s.heap.size ≤ q → A q := fun q h => by rw [← hAe]; exact Or.inr h
  have hS : va_S A s.heap s.heap [] := va_S.rf
  have hP : va_P D vwCl [(h0, .inr (1, [.null, .int 0, .null]))] s.heap := hP
  have hl := lv_entry ([.ref h0]) (n := 1) (Nat.le_of_ble_eq_true rfl)
  rw [lg_entry_eq]
  generalize (lg_sl ([.ref h0]) ++ List.replicate (1 - (lg_sl ([.ref h0])).length) Slot.unset).toArray = ls at hl ⊢
  have hl : lv_has ls 1 [(0, .ref h0)] := hl
  refine lv_aload_n hx hb dX1_init_0 rfl (lv_at hl 0 rfl) ?_
  refine W.objInit hx hb hown (hts _ mX1_init_1) (hts _ mX1_init_2) (hts _ mX1_init_3) rfl (by rw [hml]; exact hl.1) rfl dX1_init_1 (Nat.le_of_ble_eq_true rfl) (Nat.le_of_ble_eq_true rfl) ?_
  refine W.eq (g2 := F0 m 4 ls []) rfl ?_
  refine lv_aload_n hx hb dX1_init_4 rfl (lv_at hl 0 rfl) ?_
  refine va_new (ci := 4) (fs := [.int 0, .int 0, .int 0, .int 0, .int 0, .null, .null, .null, .null, .null, .null, .null]) (C := RX4) (T := TX4) (N := 12) hx hb hts mX1_init_inX4 tyX4 tyX4_ok hown (hts _ mX1_init_4) (hts _ mX1_init_5) (hts _ mX1_init_6) hB.1 hP hD hS hA rfl (by decide +kernel) (Nat.le_of_ble_eq_true rfl) (Nat.le_of_ble_eq_true rfl) dX1_init_5 (fun q5 H hP hD hS => ?_)
  have hP : va_P D vwCl [(h0, .inr (1, [.null, .int 0, .null])), (q5, .inr (4, [.int 0, .int 0, .int 0, .int 0, .int 0, .null, .null, .null, .null, .null, .null, .null]))] H := hP
  have hD : va_D A [(h0, .inr (1, [.null, .int 0, .null])), (q5, .inr (4, [.int 0, .int 0, .int 0, .int 0, .int 0, .null, .null, .null, .null, .null, .null, .null]))] := hD
  refine lv_dup hx hb dX1_init_8 rfl ?_
  have hPc := hP.sub (ws' := [(q5, .inr (4, [.int 0, .int 0, .int 0, .int 0, .int 0, .null, .null, .null, .null, .null, .null, .null]))]) [1] rfl
  have hDc := hD.sub (ws' := [(q5, .inr (4, [.int 0, .int 0, .int 0, .int 0, .int 0, .null, .null, .null, .null, .null, .null, .null]))]) [1] (by decide) rfl
  have hFc := va_free (wc := [(q5, .inr (4, [.int 0, .int 0, .int 0, .int 0, .int 0, .null, .null, .null, .null, .null, .null, .null]))]) hD hS hA [1] rfl
  refine va_callv (va_runIN (rm := { frames := 1, cells := 7, slots := 31, locals := 12 }) (As := []) (rest := [.ref q5, .ref h0]) ⟨hx, hb, hml, hown, hts⟩ (c_X4_init l D cy q5 H.size) ⟨va_cnB 0 hts gX1_init_X4_init_n11 rfl rfl rfl (hB.2 1 _ rfl) (hts _ mX1_init_6) (by decide +kernel) ⟨Nat.le_of_ble_eq_true rfl, Nat.le_of_ble_eq_true rfl⟩, rfl, hts _ mX1_init_10⟩ ⟨xw_blindC _, fun U hU hW => ⟨rfl, by rw [hU], by rw [hU]; exact hPc, hB.warm hW, hDc.weaken (fun _ _ _ _ => trivial)⟩⟩ rfl rfl hl.1 rfl (lv_room (Nat.le_of_ble_eq_true rfl)) dX1_init_9 ⟨Nat.le_of_ble_eq_true rfl, Nat.le_of_ble_eq_true rfl⟩) hS (fun q _ h => hFc q h) hFc (fun u9 t H1 locs ht hvm hw hB1 hz1 hk1 hS => ?_)
  obtain ⟨hP1, hD1⟩ := hB1
  rw [ht] at hP1
  obtain ⟨hPj, hDj⟩ := va_join (wr := [(h0, .inr (1, [.null, .int 0, .null]))]) (w1 := xN_X4 cy u9) hP hD [1] [0] rfl rfl (by decide) (by decide) hk1 hFc hP1 hD1
  clear hPc hDc hFc hP1 hD1 hk1 hz1 ht hvm hP hD
  generalize H1 = H at hPj hS ⊢
  subst hw
  have hP := hPj
  have hD := hDj
  have hP : va_P D vwCl [(h0, .inr (1, [.null, .int 0, .null])), ((u9 0), .inr (4, [.int 0, .int 0, .int 0, .int 0, .int 0, .ref (u9 1), .ref (u9 2), .ref (u9 3), .ref (u9 4), .ref (u9 5), .ref (u9 6), .ref (u9 7)])), ((u9 1), .inl (cy 0, 5, .inl (fun _ => 0))), ((u9 2), .inl (cy 0, 5, .inl (fun _ => 0))), ((u9 3), .inl (cy 0, 5, .inl (fun _ => 0))), ((u9 4), .inl (cy 0, 5, .inl (fun _ => 0))), ((u9 5), .inl (cy 0, 3, .inl (fun _ => 0))), ((u9 6), .inl (cy 0, 3, .inl (fun _ => 0))), ((u9 7), .inl (cy 0, 5, .inl (fun _ => 0)))] H := hP
  have hD : va_D A [(h0, .inr (1, [.null, .int 0, .null])), ((u9 0), .inr (4, [.int 0, .int 0, .int 0, .int 0, .int 0, .ref (u9 1), .ref (u9 2), .ref (u9 3), .ref (u9 4), .ref (u9 5), .ref (u9 6), .ref (u9 7)])), ((u9 1), .inl (cy 0, 5, .inl (fun _ => 0))), ((u9 2), .inl (cy 0, 5, .inl (fun _ => 0))), ((u9 3), .inl (cy 0, 5, .inl (fun _ => 0))), ((u9 4), .inl (cy 0, 5, .inl (fun _ => 0))), ((u9 5), .inl (cy 0, 3, .inl (fun _ => 0))), ((u9 6), .inl (cy 0, 3, .inl (fun _ => 0))), ((u9 7), .inl (cy 0, 5, .inl (fun _ => 0)))] := hD
  refine va_putF (D := D) (ci := 1) (v := .ref (u9 0)) (ty := .object "TagCarrier$Source") (C := RX1) (T := TX1) (N := 3) hx hb hts mX1_init_inX1 tyX1 tyX1_ok nmX1 hown hB.1 hP hD hS 0 rfl rfl 0 (by decide) (hts _ mX1_init_7) (fun _ h9 => h9) rfl hin rfl (by decide +kernel) rfl rfl (Nat.le_of_ble_eq_true rfl) dX1_init_12 (fun H locs hP hD hS => ?_)
  have hP : va_P D vwCl [(h0, .inr (1, [.ref (u9 0), .int 0, .null])), ((u9 0), .inr (4, [.int 0, .int 0, .int 0, .int 0, .int 0, .ref (u9 1), .ref (u9 2), .ref (u9 3), .ref (u9 4), .ref (u9 5), .ref (u9 6), .ref (u9 7)])), ((u9 1), .inl (cy 0, 5, .inl (fun _ => 0))), ((u9 2), .inl (cy 0, 5, .inl (fun _ => 0))), ((u9 3), .inl (cy 0, 5, .inl (fun _ => 0))), ((u9 4), .inl (cy 0, 5, .inl (fun _ => 0))), ((u9 5), .inl (cy 0, 3, .inl (fun _ => 0))), ((u9 6), .inl (cy 0, 3, .inl (fun _ => 0))), ((u9 7), .inl (cy 0, 5, .inl (fun _ => 0)))] H := hP
  have hD : va_D A [(h0, .inr (1, [.ref (u9 0), .int 0, .null])), ((u9 0), .inr (4, [.int 0, .int 0, .int 0, .int 0, .int 0, .ref (u9 1), .ref (u9 2), .ref (u9 3), .ref (u9 4), .ref (u9 5), .ref (u9 6), .ref (u9 7)])), ((u9 1), .inl (cy 0, 5, .inl (fun _ => 0))), ((u9 2), .inl (cy 0, 5, .inl (fun _ => 0))), ((u9 3), .inl (cy 0, 5, .inl (fun _ => 0))), ((u9 4), .inl (cy 0, 5, .inl (fun _ => 0))), ((u9 5), .inl (cy 0, 3, .inl (fun _ => 0))), ((u9 6), .inl (cy 0, 3, .inl (fun _ => 0))), ((u9 7), .inl (cy 0, 5, .inl (fun _ => 0)))] := hD
  refine lv_aload_n hx hb dX1_init_15 rfl (lv_at hl 0 rfl) ?_
  refine lv_bipush (v := 30) hx hb dX1_init_16 (by decide) ?_
  refine xw_newi (N := 30) hx hb (hts _ mX1_init_8) hB hP hD hS hA (by decide) (by decide) (Nat.le_of_ble_eq_true rfl) (Nat.le_of_ble_eq_true rfl) (Nat.le_of_ble_eq_true rfl) dX1_init_18 (fun q18 H hP hD hS => ?_)
  have hP : va_P D vwCl [(h0, .inr (1, [.ref (u9 0), .int 0, .null])), ((u9 0), .inr (4, [.int 0, .int 0, .int 0, .int 0, .int 0, .ref (u9 1), .ref (u9 2), .ref (u9 3), .ref (u9 4), .ref (u9 5), .ref (u9 6), .ref (u9 7)])), ((u9 1), .inl (cy 0, 5, .inl (fun _ => 0))), ((u9 2), .inl (cy 0, 5, .inl (fun _ => 0))), ((u9 3), .inl (cy 0, 5, .inl (fun _ => 0))), ((u9 4), .inl (cy 0, 5, .inl (fun _ => 0))), ((u9 5), .inl (cy 0, 3, .inl (fun _ => 0))), ((u9 6), .inl (cy 0, 3, .inl (fun _ => 0))), ((u9 7), .inl (cy 0, 5, .inl (fun _ => 0))), (q18, .inl (cy 0, 30, .inl (fun _ => 0)))] H := hP
  have hD : va_D A [(h0, .inr (1, [.ref (u9 0), .int 0, .null])), ((u9 0), .inr (4, [.int 0, .int 0, .int 0, .int 0, .int 0, .ref (u9 1), .ref (u9 2), .ref (u9 3), .ref (u9 4), .ref (u9 5), .ref (u9 6), .ref (u9 7)])), ((u9 1), .inl (cy 0, 5, .inl (fun _ => 0))), ((u9 2), .inl (cy 0, 5, .inl (fun _ => 0))), ((u9 3), .inl (cy 0, 5, .inl (fun _ => 0))), ((u9 4), .inl (cy 0, 5, .inl (fun _ => 0))), ((u9 5), .inl (cy 0, 3, .inl (fun _ => 0))), ((u9 6), .inl (cy 0, 3, .inl (fun _ => 0))), ((u9 7), .inl (cy 0, 5, .inl (fun _ => 0))), (q18, .inl (cy 0, 30, .inl (fun _ => 0)))] := hD
  refine va_putF (D := D) (ci := 1) (v := .ref q18) (ty := .array .int) (C := RX1) (T := TX1) (N := 3) hx hb hts mX1_init_inX1 tyX1 tyX1_ok nmX1 hown hB.1 hP hD hS 0 rfl rfl 2 (by decide) (hts _ mX1_init_9) (fun _ h9 => h9) rfl hin rfl (by decide +kernel) rfl rfl (Nat.le_of_ble_eq_true rfl) dX1_init_20 (fun H locs hP hD hS => ?_)
  have hP : va_P D vwCl [(h0, .inr (1, [.ref (u9 0), .int 0, .ref q18])), ((u9 0), .inr (4, [.int 0, .int 0, .int 0, .int 0, .int 0, .ref (u9 1), .ref (u9 2), .ref (u9 3), .ref (u9 4), .ref (u9 5), .ref (u9 6), .ref (u9 7)])), ((u9 1), .inl (cy 0, 5, .inl (fun _ => 0))), ((u9 2), .inl (cy 0, 5, .inl (fun _ => 0))), ((u9 3), .inl (cy 0, 5, .inl (fun _ => 0))), ((u9 4), .inl (cy 0, 5, .inl (fun _ => 0))), ((u9 5), .inl (cy 0, 3, .inl (fun _ => 0))), ((u9 6), .inl (cy 0, 3, .inl (fun _ => 0))), ((u9 7), .inl (cy 0, 5, .inl (fun _ => 0))), (q18, .inl (cy 0, 30, .inl (fun _ => 0)))] H := hP
  have hD : va_D A [(h0, .inr (1, [.ref (u9 0), .int 0, .ref q18])), ((u9 0), .inr (4, [.int 0, .int 0, .int 0, .int 0, .int 0, .ref (u9 1), .ref (u9 2), .ref (u9 3), .ref (u9 4), .ref (u9 5), .ref (u9 6), .ref (u9 7)])), ((u9 1), .inl (cy 0, 5, .inl (fun _ => 0))), ((u9 2), .inl (cy 0, 5, .inl (fun _ => 0))), ((u9 3), .inl (cy 0, 5, .inl (fun _ => 0))), ((u9 4), .inl (cy 0, 5, .inl (fun _ => 0))), ((u9 5), .inl (cy 0, 3, .inl (fun _ => 0))), ((u9 6), .inl (cy 0, 3, .inl (fun _ => 0))), ((u9 7), .inl (cy 0, 5, .inl (fun _ => 0))), (q18, .inl (cy 0, 30, .inl (fun _ => 0)))] := hD
  have hP : va_P D vwCl (xN_X1 cy (fun k => ([h0, u9 0, u9 1, u9 2, u9 3, u9 4, u9 5, u9 6, u9 7, q18] : List Nat).getD k 0)) H := hP
  have hD : va_D A (xN_X1 cy (fun k => ([h0, u9 0, u9 1, u9 2, u9 3, u9 4, u9 5, u9 6, u9 7, q18] : List Nat).getD k 0)) := hD
  exact W.vret hx hb hr (fun t ht hW => ⟨⟨fun k => ([h0, u9 0, u9 1, u9 2, u9 3, u9 4, u9 5, u9 6, u9 7, q18] : List Nat).getD k 0, rfl, rfl, by rw [ht]; exact hP, hD⟩, hS.F ht⟩) hS.2.2 dX1_init_23
def xN_X3 (cy : Nat → ClassId) (a : Nat → Nat) : va_W := [(a 0, .inr (3, [.ref (a 1), .ref (a 9), .int 0])), (a 1, .inr (4, [.int 0, .int 0, .int 0, .int 0, .int 0, .ref (a 2), .ref (a 3), .ref (a 4), .ref (a 5), .ref (a 6), .ref (a 7), .ref (a 8)])), (a 2, .inl (cy 0, 5, .inl (fun _ => 0))), (a 3, .inl (cy 0, 5, .inl (fun _ => 0))), (a 4, .inl (cy 0, 5, .inl (fun _ => 0))), (a 5, .inl (cy 0, 5, .inl (fun _ => 0))), (a 6, .inl (cy 0, 3, .inl (fun _ => 0))), (a 7, .inl (cy 0, 3, .inl (fun _ => 0))), (a 8, .inl (cy 0, 5, .inl (fun _ => 0))), (a 9, .inl (cy 0, 12, .inl (fun _ => 0)))]
theorem mX3_init_1 : Cond.methodLink RX3 3 objectInit ∈ wsX3_init := List.mem_of_getElem? (i := 1) rfl
theorem mX3_init_2 : Cond.instanceMethod objectInit ∈ wsX3_init := List.mem_of_getElem? (i := 2) rfl
theorem mX3_init_3 : Cond.code objectInit ⟨#[0xb1]⟩ 1 none ∈ wsX3_init := List.mem_of_getElem? (i := 3) rfl
theorem mX3_init_inX4 : ∀ w ∈ u_ws RX4 TX4 12, w ∈ wsX3_init := by decide +kernel
theorem mX3_init_4 : Cond.classLink RX3 9 RX4 ∈ wsX3_init := List.mem_of_getElem? (i := 4) rfl
theorem mX3_init_5 : Cond.instantiable RX4 12 ∈ wsX3_init := List.mem_of_getElem? (i := 5) rfl
theorem mX3_init_6 : Cond.initialized RX4 ∈ wsX3_init := List.mem_of_getElem? (i := 6) rfl
theorem mX3_init_10 : Cond.instanceMethod yX4_init ∈ wsX3_init := List.mem_of_getElem? (i := 10) rfl
theorem mX3_init_7 : Cond.fieldLink RX3 12 "TagCarrier$Sentences" "source" "LTagCarrier$Source;" ∈ wsX3_init := List.mem_of_getElem? (i := 7) rfl
theorem mX3_init_inX3 : ∀ w ∈ u_ws RX3 TX3 3, w ∈ wsX3_init := by decide +kernel
theorem mX3_init_8 : Cond.arrayClass .int ∈ wsX3_init := List.mem_of_getElem? (i := 8) rfl
theorem mX3_init_9 : Cond.fieldLink RX3 18 "TagCarrier$Sentences" "links" "[I" ∈ wsX3_init := List.mem_of_getElem? (i := 9) rfl
set_option maxHeartbeats 4000000 in
set_option maxRecDepth 100000 in
theorem c_X3_init (l : Launch) (D : va_G) (cy : Nat → ClassId) (h0 sz : Nat) : Met l yX3_init wsX3_init ({ frames := 2, cells := 9, slots := 55, locals := 32 }) (va_Pc [.ref h0] (xw_PC D cy sz [(h0, .inr (3, [.null, .null, .int 0]))])) (va_Qv (S := Nat → Nat) (fun a => h0 = a 0) (fun a t => va_P D vwCl (xN_X3 cy a) t.heap ∧ va_D (va_A [(h0, .inr (3, [.null, .null, .int 0]))] sz) (xN_X3 cy a)) (va_A [(h0, .inr (3, [.null, .null, .int 0]))] sz)) 9 55 (va_A [(h0, .inr (3, [.null, .null, .int 0]))] sz) := by
  refine Met.ofW (cc := cX3_init) (maxL := 1) (ret := none) (by decide) rfl ?_
  intro p e s m args below meth c s₁ B hml hv
  obtain ⟨rfl, hsz, hP, hB, hD0⟩ := hv
  have hx := B.exec
  have hb := B.bytes
  have hr := B.returns
  have hts := atoms_spec (ws := wsX3_init) B.pre
  have hown : s.vm.findClass RX3 = some m.cls := findClass_of_methodNamed B.named
  have hlocks := B.notSynchronized
  have hin : meth.name = "<init>" := (name_of_methodNamed B.named B.method).1
  subst hsz
  have hD := hD0.self (sz := s.heap.size)
  generalize hAe : va_A [(h0, .inr (3, [.null, .null, .int 0]))] s.heap.size = A at hD ⊢
  have hA : ∀ q : Nat, s.heap.size ≤ q → A q := fun q h => by rw [← hAe]; exact Or.inr h
  have hS : va_S A s.heap s.heap [] := va_S.rf
  have hP : va_P D vwCl [(h0, .inr (3, [.null, .null, .int 0]))] s.heap := hP
  have hl := lv_entry ([.ref h0]) (n := 1) (Nat.le_of_ble_eq_true rfl)
  rw [lg_entry_eq]
  generalize (lg_sl ([.ref h0]) ++ List.replicate (1 - (lg_sl ([.ref h0])).length) Slot.unset).toArray = ls at hl ⊢
  have hl : lv_has ls 1 [(0, .ref h0)] := hl
  refine lv_aload_n hx hb dX3_init_0 rfl (lv_at hl 0 rfl) ?_
  refine W.objInit hx hb hown (hts _ mX3_init_1) (hts _ mX3_init_2) (hts _ mX3_init_3) rfl (by rw [hml]; exact hl.1) rfl dX3_init_1 (Nat.le_of_ble_eq_true rfl) (Nat.le_of_ble_eq_true rfl) ?_
  refine W.eq (g2 := F0 m 4 ls []) rfl ?_
  refine lv_aload_n hx hb dX3_init_4 rfl (lv_at hl 0 rfl) ?_
  refine va_new (ci := 4) (fs := [.int 0, .int 0, .int 0, .int 0, .int 0, .null, .null, .null, .null, .null, .null, .null]) (C := RX4) (T := TX4) (N := 12) hx hb hts mX3_init_inX4 tyX4 tyX4_ok hown (hts _ mX3_init_4) (hts _ mX3_init_5) (hts _ mX3_init_6) hB.1 hP hD hS hA rfl (by decide +kernel) (Nat.le_of_ble_eq_true rfl) (Nat.le_of_ble_eq_true rfl) dX3_init_5 (fun q5 H hP hD hS => ?_)
  have hP : va_P D vwCl [(h0, .inr (3, [.null, .null, .int 0])), (q5, .inr (4, [.int 0, .int 0, .int 0, .int 0, .int 0, .null, .null, .null, .null, .null, .null, .null]))] H := hP
  have hD : va_D A [(h0, .inr (3, [.null, .null, .int 0])), (q5, .inr (4, [.int 0, .int 0, .int 0, .int 0, .int 0, .null, .null, .null, .null, .null, .null, .null]))] := hD
  refine lv_dup hx hb dX3_init_8 rfl ?_
  have hPc := hP.sub (ws' := [(q5, .inr (4, [.int 0, .int 0, .int 0, .int 0, .int 0, .null, .null, .null, .null, .null, .null, .null]))]) [1] rfl
  have hDc := hD.sub (ws' := [(q5, .inr (4, [.int 0, .int 0, .int 0, .int 0, .int 0, .null, .null, .null, .null, .null, .null, .null]))]) [1] (by decide) rfl
  have hFc := va_free (wc := [(q5, .inr (4, [.int 0, .int 0, .int 0, .int 0, .int 0, .null, .null, .null, .null, .null, .null, .null]))]) hD hS hA [1] rfl
  refine va_callv (va_runIN (rm := { frames := 1, cells := 7, slots := 31, locals := 12 }) (As := []) (rest := [.ref q5, .ref h0]) ⟨hx, hb, hml, hown, hts⟩ (c_X4_init l D cy q5 H.size) ⟨va_cnB 0 hts gX3_init_X4_init_n11 rfl rfl rfl (hB.2 3 _ rfl) (hts _ mX3_init_6) (by decide +kernel) ⟨Nat.le_of_ble_eq_true rfl, Nat.le_of_ble_eq_true rfl⟩, rfl, hts _ mX3_init_10⟩ ⟨xw_blindC _, fun U hU hW => ⟨rfl, by rw [hU], by rw [hU]; exact hPc, hB.warm hW, hDc.weaken (fun _ _ _ _ => trivial)⟩⟩ rfl rfl hl.1 rfl (lv_room (Nat.le_of_ble_eq_true rfl)) dX3_init_9 ⟨Nat.le_of_ble_eq_true rfl, Nat.le_of_ble_eq_true rfl⟩) hS (fun q _ h => hFc q h) hFc (fun u9 t H1 locs ht hvm hw hB1 hz1 hk1 hS => ?_)
  obtain ⟨hP1, hD1⟩ := hB1
  rw [ht] at hP1
  obtain ⟨hPj, hDj⟩ := va_join (wr := [(h0, .inr (3, [.null, .null, .int 0]))]) (w1 := xN_X4 cy u9) hP hD [1] [0] rfl rfl (by decide) (by decide) hk1 hFc hP1 hD1
  clear hPc hDc hFc hP1 hD1 hk1 hz1 ht hvm hP hD
  generalize H1 = H at hPj hS ⊢
  subst hw
  have hP := hPj
  have hD := hDj
  have hP : va_P D vwCl [(h0, .inr (3, [.null, .null, .int 0])), ((u9 0), .inr (4, [.int 0, .int 0, .int 0, .int 0, .int 0, .ref (u9 1), .ref (u9 2), .ref (u9 3), .ref (u9 4), .ref (u9 5), .ref (u9 6), .ref (u9 7)])), ((u9 1), .inl (cy 0, 5, .inl (fun _ => 0))), ((u9 2), .inl (cy 0, 5, .inl (fun _ => 0))), ((u9 3), .inl (cy 0, 5, .inl (fun _ => 0))), ((u9 4), .inl (cy 0, 5, .inl (fun _ => 0))), ((u9 5), .inl (cy 0, 3, .inl (fun _ => 0))), ((u9 6), .inl (cy 0, 3, .inl (fun _ => 0))), ((u9 7), .inl (cy 0, 5, .inl (fun _ => 0)))] H := hP
  have hD : va_D A [(h0, .inr (3, [.null, .null, .int 0])), ((u9 0), .inr (4, [.int 0, .int 0, .int 0, .int 0, .int 0, .ref (u9 1), .ref (u9 2), .ref (u9 3), .ref (u9 4), .ref (u9 5), .ref (u9 6), .ref (u9 7)])), ((u9 1), .inl (cy 0, 5, .inl (fun _ => 0))), ((u9 2), .inl (cy 0, 5, .inl (fun _ => 0))), ((u9 3), .inl (cy 0, 5, .inl (fun _ => 0))), ((u9 4), .inl (cy 0, 5, .inl (fun _ => 0))), ((u9 5), .inl (cy 0, 3, .inl (fun _ => 0))), ((u9 6), .inl (cy 0, 3, .inl (fun _ => 0))), ((u9 7), .inl (cy 0, 5, .inl (fun _ => 0)))] := hD
  refine va_putF (D := D) (ci := 3) (v := .ref (u9 0)) (ty := .object "TagCarrier$Source") (C := RX3) (T := TX3) (N := 3) hx hb hts mX3_init_inX3 tyX3 tyX3_ok nmX3 hown hB.1 hP hD hS 0 rfl rfl 0 (by decide) (hts _ mX3_init_7) (fun _ h9 => h9) rfl hin rfl (by decide +kernel) rfl rfl (Nat.le_of_ble_eq_true rfl) dX3_init_12 (fun H locs hP hD hS => ?_)
  have hP : va_P D vwCl [(h0, .inr (3, [.ref (u9 0), .null, .int 0])), ((u9 0), .inr (4, [.int 0, .int 0, .int 0, .int 0, .int 0, .ref (u9 1), .ref (u9 2), .ref (u9 3), .ref (u9 4), .ref (u9 5), .ref (u9 6), .ref (u9 7)])), ((u9 1), .inl (cy 0, 5, .inl (fun _ => 0))), ((u9 2), .inl (cy 0, 5, .inl (fun _ => 0))), ((u9 3), .inl (cy 0, 5, .inl (fun _ => 0))), ((u9 4), .inl (cy 0, 5, .inl (fun _ => 0))), ((u9 5), .inl (cy 0, 3, .inl (fun _ => 0))), ((u9 6), .inl (cy 0, 3, .inl (fun _ => 0))), ((u9 7), .inl (cy 0, 5, .inl (fun _ => 0)))] H := hP
  have hD : va_D A [(h0, .inr (3, [.ref (u9 0), .null, .int 0])), ((u9 0), .inr (4, [.int 0, .int 0, .int 0, .int 0, .int 0, .ref (u9 1), .ref (u9 2), .ref (u9 3), .ref (u9 4), .ref (u9 5), .ref (u9 6), .ref (u9 7)])), ((u9 1), .inl (cy 0, 5, .inl (fun _ => 0))), ((u9 2), .inl (cy 0, 5, .inl (fun _ => 0))), ((u9 3), .inl (cy 0, 5, .inl (fun _ => 0))), ((u9 4), .inl (cy 0, 5, .inl (fun _ => 0))), ((u9 5), .inl (cy 0, 3, .inl (fun _ => 0))), ((u9 6), .inl (cy 0, 3, .inl (fun _ => 0))), ((u9 7), .inl (cy 0, 5, .inl (fun _ => 0)))] := hD
  refine lv_aload_n hx hb dX3_init_15 rfl (lv_at hl 0 rfl) ?_
  refine lv_bipush (v := 12) hx hb dX3_init_16 (by decide) ?_
  refine xw_newi (N := 12) hx hb (hts _ mX3_init_8) hB hP hD hS hA (by decide) (by decide) (Nat.le_of_ble_eq_true rfl) (Nat.le_of_ble_eq_true rfl) (Nat.le_of_ble_eq_true rfl) dX3_init_18 (fun q18 H hP hD hS => ?_)
  have hP : va_P D vwCl [(h0, .inr (3, [.ref (u9 0), .null, .int 0])), ((u9 0), .inr (4, [.int 0, .int 0, .int 0, .int 0, .int 0, .ref (u9 1), .ref (u9 2), .ref (u9 3), .ref (u9 4), .ref (u9 5), .ref (u9 6), .ref (u9 7)])), ((u9 1), .inl (cy 0, 5, .inl (fun _ => 0))), ((u9 2), .inl (cy 0, 5, .inl (fun _ => 0))), ((u9 3), .inl (cy 0, 5, .inl (fun _ => 0))), ((u9 4), .inl (cy 0, 5, .inl (fun _ => 0))), ((u9 5), .inl (cy 0, 3, .inl (fun _ => 0))), ((u9 6), .inl (cy 0, 3, .inl (fun _ => 0))), ((u9 7), .inl (cy 0, 5, .inl (fun _ => 0))), (q18, .inl (cy 0, 12, .inl (fun _ => 0)))] H := hP
  have hD : va_D A [(h0, .inr (3, [.ref (u9 0), .null, .int 0])), ((u9 0), .inr (4, [.int 0, .int 0, .int 0, .int 0, .int 0, .ref (u9 1), .ref (u9 2), .ref (u9 3), .ref (u9 4), .ref (u9 5), .ref (u9 6), .ref (u9 7)])), ((u9 1), .inl (cy 0, 5, .inl (fun _ => 0))), ((u9 2), .inl (cy 0, 5, .inl (fun _ => 0))), ((u9 3), .inl (cy 0, 5, .inl (fun _ => 0))), ((u9 4), .inl (cy 0, 5, .inl (fun _ => 0))), ((u9 5), .inl (cy 0, 3, .inl (fun _ => 0))), ((u9 6), .inl (cy 0, 3, .inl (fun _ => 0))), ((u9 7), .inl (cy 0, 5, .inl (fun _ => 0))), (q18, .inl (cy 0, 12, .inl (fun _ => 0)))] := hD
  refine va_putF (D := D) (ci := 3) (v := .ref q18) (ty := .array .int) (C := RX3) (T := TX3) (N := 3) hx hb hts mX3_init_inX3 tyX3 tyX3_ok nmX3 hown hB.1 hP hD hS 0 rfl rfl 1 (by decide) (hts _ mX3_init_9) (fun _ h9 => h9) rfl hin rfl (by decide +kernel) rfl rfl (Nat.le_of_ble_eq_true rfl) dX3_init_20 (fun H locs hP hD hS => ?_)
  have hP : va_P D vwCl [(h0, .inr (3, [.ref (u9 0), .ref q18, .int 0])), ((u9 0), .inr (4, [.int 0, .int 0, .int 0, .int 0, .int 0, .ref (u9 1), .ref (u9 2), .ref (u9 3), .ref (u9 4), .ref (u9 5), .ref (u9 6), .ref (u9 7)])), ((u9 1), .inl (cy 0, 5, .inl (fun _ => 0))), ((u9 2), .inl (cy 0, 5, .inl (fun _ => 0))), ((u9 3), .inl (cy 0, 5, .inl (fun _ => 0))), ((u9 4), .inl (cy 0, 5, .inl (fun _ => 0))), ((u9 5), .inl (cy 0, 3, .inl (fun _ => 0))), ((u9 6), .inl (cy 0, 3, .inl (fun _ => 0))), ((u9 7), .inl (cy 0, 5, .inl (fun _ => 0))), (q18, .inl (cy 0, 12, .inl (fun _ => 0)))] H := hP
  have hD : va_D A [(h0, .inr (3, [.ref (u9 0), .ref q18, .int 0])), ((u9 0), .inr (4, [.int 0, .int 0, .int 0, .int 0, .int 0, .ref (u9 1), .ref (u9 2), .ref (u9 3), .ref (u9 4), .ref (u9 5), .ref (u9 6), .ref (u9 7)])), ((u9 1), .inl (cy 0, 5, .inl (fun _ => 0))), ((u9 2), .inl (cy 0, 5, .inl (fun _ => 0))), ((u9 3), .inl (cy 0, 5, .inl (fun _ => 0))), ((u9 4), .inl (cy 0, 5, .inl (fun _ => 0))), ((u9 5), .inl (cy 0, 3, .inl (fun _ => 0))), ((u9 6), .inl (cy 0, 3, .inl (fun _ => 0))), ((u9 7), .inl (cy 0, 5, .inl (fun _ => 0))), (q18, .inl (cy 0, 12, .inl (fun _ => 0)))] := hD
  have hP : va_P D vwCl (xN_X3 cy (fun k => ([h0, u9 0, u9 1, u9 2, u9 3, u9 4, u9 5, u9 6, u9 7, q18] : List Nat).getD k 0)) H := hP
  have hD : va_D A (xN_X3 cy (fun k => ([h0, u9 0, u9 1, u9 2, u9 3, u9 4, u9 5, u9 6, u9 7, q18] : List Nat).getD k 0)) := hD
  exact W.vret hx hb hr (fun t ht hW => ⟨⟨fun k => ([h0, u9 0, u9 1, u9 2, u9 3, u9 4, u9 5, u9 6, u9 7, q18] : List Nat).getD k 0, rfl, rfl, by rw [ht]; exact hP, hD⟩, hS.F ht⟩) hS.2.2 dX3_init_23
