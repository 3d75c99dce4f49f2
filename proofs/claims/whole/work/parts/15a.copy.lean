def xT_w (cy : Nat → ClassId) (a : Nat → Nat) (I : xw_I) (F : xw_F) (G : xw_G) : va_W := [(a 0, .inr (3, [.ref (a 1), .ref (a 9), .int (I 5)])), (a 1, .inr (4, [.int (I 0), .int (I 1), .int (I 2), .int (I 3), .int (I 4), .ref (a 2), .ref (a 3), .ref (a 4), .ref (a 5), .ref (a 6), .ref (a 7), .ref (a 8)])), (a 2, .inl (cy 0, 5, .inl (F 2))), (a 3, .inl (cy 0, 5, .inl (F 3))), (a 4, .inl (cy 0, 5, .inl (F 4))), (a 5, .inl (cy 0, 5, .inl (F 5))), (a 6, .inl (cy 0, 3, .inl (F 6))), (a 7, .inl (cy 0, 3, .inl (F 7))), (a 8, .inl (cy 0, 5, .inl (F 8))), (a 9, .inl (cy 0, 12, .inl (F 9))), (a 10, .inr (3, [.ref (a 11), .ref (a 19), .int (I 11)])), (a 11, .inr (4, [.int (I 6), .int (I 7), .int (I 8), .int (I 9), .int (I 10), .ref (a 12), .ref (a 13), .ref (a 14), .ref (a 15), .ref (a 16), .ref (a 17), .ref (a 18)])), (a 12, .inl (cy 0, 5, .inl (F 12))), (a 13, .inl (cy 0, 5, .inl (F 13))), (a 14, .inl (cy 0, 5, .inl (F 14))), (a 15, .inl (cy 0, 5, .inl (F 15))), (a 16, .inl (cy 0, 3, .inl (F 16))), (a 17, .inl (cy 0, 3, .inl (F 17))), (a 18, .inl (cy 0, 5, .inl (F 18))), (a 19, .inl (cy 0, 12, .inl (F 19)))]
theorem xT_c0 {cy : Nat → ClassId} {a : Nat → Nat} {I : xw_I} {F : xw_F} {G : xw_G} : (xT_w cy a I F G)[0]? = some (a 0, .inr (3, [.ref (a 1), .ref (a 9), .int (I 5)])) := rfl
theorem xT_c1 {cy : Nat → ClassId} {a : Nat → Nat} {I : xw_I} {F : xw_F} {G : xw_G} : (xT_w cy a I F G)[1]? = some (a 1, .inr (4, [.int (I 0), .int (I 1), .int (I 2), .int (I 3), .int (I 4), .ref (a 2), .ref (a 3), .ref (a 4), .ref (a 5), .ref (a 6), .ref (a 7), .ref (a 8)])) := rfl
theorem xT_c2 {cy : Nat → ClassId} {a : Nat → Nat} {I : xw_I} {F : xw_F} {G : xw_G} : (xT_w cy a I F G)[2]? = some (a 2, .inl (cy 0, 5, .inl (F 2))) := rfl
theorem xT_c3 {cy : Nat → ClassId} {a : Nat → Nat} {I : xw_I} {F : xw_F} {G : xw_G} : (xT_w cy a I F G)[3]? = some (a 3, .inl (cy 0, 5, .inl (F 3))) := rfl
theorem xT_c4 {cy : Nat → ClassId} {a : Nat → Nat} {I : xw_I} {F : xw_F} {G : xw_G} : (xT_w cy a I F G)[4]? = some (a 4, .inl (cy 0, 5, .inl (F 4))) := rfl
theorem xT_c5 {cy : Nat → ClassId} {a : Nat → Nat} {I : xw_I} {F : xw_F} {G : xw_G} : (xT_w cy a I F G)[5]? = some (a 5, .inl (cy 0, 5, .inl (F 5))) := rfl
theorem xT_c6 {cy : Nat → ClassId} {a : Nat → Nat} {I : xw_I} {F : xw_F} {G : xw_G} : (xT_w cy a I F G)[6]? = some (a 6, .inl (cy 0, 3, .inl (F 6))) := rfl
theorem xT_c7 {cy : Nat → ClassId} {a : Nat → Nat} {I : xw_I} {F : xw_F} {G : xw_G} : (xT_w cy a I F G)[7]? = some (a 7, .inl (cy 0, 3, .inl (F 7))) := rfl
theorem xT_c8 {cy : Nat → ClassId} {a : Nat → Nat} {I : xw_I} {F : xw_F} {G : xw_G} : (xT_w cy a I F G)[8]? = some (a 8, .inl (cy 0, 5, .inl (F 8))) := rfl
theorem xT_c9 {cy : Nat → ClassId} {a : Nat → Nat} {I : xw_I} {F : xw_F} {G : xw_G} : (xT_w cy a I F G)[9]? = some (a 9, .inl (cy 0, 12, .inl (F 9))) := rfl
theorem xT_c10 {cy : Nat → ClassId} {a : Nat → Nat} {I : xw_I} {F : xw_F} {G : xw_G} : (xT_w cy a I F G)[10]? = some (a 10, .inr (3, [.ref (a 11), .ref (a 19), .int (I 11)])) := rfl
theorem xT_c11 {cy : Nat → ClassId} {a : Nat → Nat} {I : xw_I} {F : xw_F} {G : xw_G} : (xT_w cy a I F G)[11]? = some (a 11, .inr (4, [.int (I 6), .int (I 7), .int (I 8), .int (I 9), .int (I 10), .ref (a 12), .ref (a 13), .ref (a 14), .ref (a 15), .ref (a 16), .ref (a 17), .ref (a 18)])) := rfl
theorem xT_c12 {cy : Nat → ClassId} {a : Nat → Nat} {I : xw_I} {F : xw_F} {G : xw_G} : (xT_w cy a I F G)[12]? = some (a 12, .inl (cy 0, 5, .inl (F 12))) := rfl
theorem xT_c13 {cy : Nat → ClassId} {a : Nat → Nat} {I : xw_I} {F : xw_F} {G : xw_G} : (xT_w cy a I F G)[13]? = some (a 13, .inl (cy 0, 5, .inl (F 13))) := rfl
theorem xT_c14 {cy : Nat → ClassId} {a : Nat → Nat} {I : xw_I} {F : xw_F} {G : xw_G} : (xT_w cy a I F G)[14]? = some (a 14, .inl (cy 0, 5, .inl (F 14))) := rfl
theorem xT_c15 {cy : Nat → ClassId} {a : Nat → Nat} {I : xw_I} {F : xw_F} {G : xw_G} : (xT_w cy a I F G)[15]? = some (a 15, .inl (cy 0, 5, .inl (F 15))) := rfl
theorem xT_c16 {cy : Nat → ClassId} {a : Nat → Nat} {I : xw_I} {F : xw_F} {G : xw_G} : (xT_w cy a I F G)[16]? = some (a 16, .inl (cy 0, 3, .inl (F 16))) := rfl
theorem xT_c17 {cy : Nat → ClassId} {a : Nat → Nat} {I : xw_I} {F : xw_F} {G : xw_G} : (xT_w cy a I F G)[17]? = some (a 17, .inl (cy 0, 3, .inl (F 17))) := rfl
theorem xT_c18 {cy : Nat → ClassId} {a : Nat → Nat} {I : xw_I} {F : xw_F} {G : xw_G} : (xT_w cy a I F G)[18]? = some (a 18, .inl (cy 0, 5, .inl (F 18))) := rfl
theorem xT_c19 {cy : Nat → ClassId} {a : Nat → Nat} {I : xw_I} {F : xw_F} {G : xw_G} : (xT_w cy a I F G)[19]? = some (a 19, .inl (cy 0, 12, .inl (F 19))) := rfl
theorem xT_i5 {cy : Nat → ClassId} {a : Nat → Nat} {I : xw_I} {F : xw_F} {G : xw_G} {v : Int32} : (xT_w cy a I F G).set 0 (a 0, .inr (3, ([.ref (a 1), .ref (a 9), .int (I 5)] : List Value).set 2 (.int v))) = xT_w cy a (xw_up I 5 v) F G := rfl
theorem xT_i0 {cy : Nat → ClassId} {a : Nat → Nat} {I : xw_I} {F : xw_F} {G : xw_G} {v : Int32} : (xT_w cy a I F G).set 1 (a 1, .inr (4, ([.int (I 0), .int (I 1), .int (I 2), .int (I 3), .int (I 4), .ref (a 2), .ref (a 3), .ref (a 4), .ref (a 5), .ref (a 6), .ref (a 7), .ref (a 8)] : List Value).set 0 (.int v))) = xT_w cy a (xw_up I 0 v) F G := rfl
theorem xT_i1 {cy : Nat → ClassId} {a : Nat → Nat} {I : xw_I} {F : xw_F} {G : xw_G} {v : Int32} : (xT_w cy a I F G).set 1 (a 1, .inr (4, ([.int (I 0), .int (I 1), .int (I 2), .int (I 3), .int (I 4), .ref (a 2), .ref (a 3), .ref (a 4), .ref (a 5), .ref (a 6), .ref (a 7), .ref (a 8)] : List Value).set 1 (.int v))) = xT_w cy a (xw_up I 1 v) F G := rfl
theorem xT_i2 {cy : Nat → ClassId} {a : Nat → Nat} {I : xw_I} {F : xw_F} {G : xw_G} {v : Int32} : (xT_w cy a I F G).set 1 (a 1, .inr (4, ([.int (I 0), .int (I 1), .int (I 2), .int (I 3), .int (I 4), .ref (a 2), .ref (a 3), .ref (a 4), .ref (a 5), .ref (a 6), .ref (a 7), .ref (a 8)] : List Value).set 2 (.int v))) = xT_w cy a (xw_up I 2 v) F G := rfl
theorem xT_i3 {cy : Nat → ClassId} {a : Nat → Nat} {I : xw_I} {F : xw_F} {G : xw_G} {v : Int32} : (xT_w cy a I F G).set 1 (a 1, .inr (4, ([.int (I 0), .int (I 1), .int (I 2), .int (I 3), .int (I 4), .ref (a 2), .ref (a 3), .ref (a 4), .ref (a 5), .ref (a 6), .ref (a 7), .ref (a 8)] : List Value).set 3 (.int v))) = xT_w cy a (xw_up I 3 v) F G := rfl
theorem xT_i4 {cy : Nat → ClassId} {a : Nat → Nat} {I : xw_I} {F : xw_F} {G : xw_G} {v : Int32} : (xT_w cy a I F G).set 1 (a 1, .inr (4, ([.int (I 0), .int (I 1), .int (I 2), .int (I 3), .int (I 4), .ref (a 2), .ref (a 3), .ref (a 4), .ref (a 5), .ref (a 6), .ref (a 7), .ref (a 8)] : List Value).set 4 (.int v))) = xT_w cy a (xw_up I 4 v) F G := rfl
theorem xT_f2 {cy : Nat → ClassId} {a : Nat → Nat} {I : xw_I} {F : xw_F} {G : xw_G} {f : Nat → Int32} : (xT_w cy a I F G).set 2 (a 2, .inl (cy 0, 5, .inl f)) = xT_w cy a I (xw_up F 2 f) G := rfl
theorem xT_f3 {cy : Nat → ClassId} {a : Nat → Nat} {I : xw_I} {F : xw_F} {G : xw_G} {f : Nat → Int32} : (xT_w cy a I F G).set 3 (a 3, .inl (cy 0, 5, .inl f)) = xT_w cy a I (xw_up F 3 f) G := rfl
theorem xT_f4 {cy : Nat → ClassId} {a : Nat → Nat} {I : xw_I} {F : xw_F} {G : xw_G} {f : Nat → Int32} : (xT_w cy a I F G).set 4 (a 4, .inl (cy 0, 5, .inl f)) = xT_w cy a I (xw_up F 4 f) G := rfl
theorem xT_f5 {cy : Nat → ClassId} {a : Nat → Nat} {I : xw_I} {F : xw_F} {G : xw_G} {f : Nat → Int32} : (xT_w cy a I F G).set 5 (a 5, .inl (cy 0, 5, .inl f)) = xT_w cy a I (xw_up F 5 f) G := rfl
theorem xT_f6 {cy : Nat → ClassId} {a : Nat → Nat} {I : xw_I} {F : xw_F} {G : xw_G} {f : Nat → Int32} : (xT_w cy a I F G).set 6 (a 6, .inl (cy 0, 3, .inl f)) = xT_w cy a I (xw_up F 6 f) G := rfl
theorem xT_f7 {cy : Nat → ClassId} {a : Nat → Nat} {I : xw_I} {F : xw_F} {G : xw_G} {f : Nat → Int32} : (xT_w cy a I F G).set 7 (a 7, .inl (cy 0, 3, .inl f)) = xT_w cy a I (xw_up F 7 f) G := rfl
theorem xT_f8 {cy : Nat → ClassId} {a : Nat → Nat} {I : xw_I} {F : xw_F} {G : xw_G} {f : Nat → Int32} : (xT_w cy a I F G).set 8 (a 8, .inl (cy 0, 5, .inl f)) = xT_w cy a I (xw_up F 8 f) G := rfl
theorem xT_f9 {cy : Nat → ClassId} {a : Nat → Nat} {I : xw_I} {F : xw_F} {G : xw_G} {f : Nat → Int32} : (xT_w cy a I F G).set 9 (a 9, .inl (cy 0, 12, .inl f)) = xT_w cy a I (xw_up F 9 f) G := rfl
theorem xT_i11 {cy : Nat → ClassId} {a : Nat → Nat} {I : xw_I} {F : xw_F} {G : xw_G} {v : Int32} : (xT_w cy a I F G).set 10 (a 10, .inr (3, ([.ref (a 11), .ref (a 19), .int (I 11)] : List Value).set 2 (.int v))) = xT_w cy a (xw_up I 11 v) F G := rfl
theorem xT_i6 {cy : Nat → ClassId} {a : Nat → Nat} {I : xw_I} {F : xw_F} {G : xw_G} {v : Int32} : (xT_w cy a I F G).set 11 (a 11, .inr (4, ([.int (I 6), .int (I 7), .int (I 8), .int (I 9), .int (I 10), .ref (a 12), .ref (a 13), .ref (a 14), .ref (a 15), .ref (a 16), .ref (a 17), .ref (a 18)] : List Value).set 0 (.int v))) = xT_w cy a (xw_up I 6 v) F G := rfl
theorem xT_i7 {cy : Nat → ClassId} {a : Nat → Nat} {I : xw_I} {F : xw_F} {G : xw_G} {v : Int32} : (xT_w cy a I F G).set 11 (a 11, .inr (4, ([.int (I 6), .int (I 7), .int (I 8), .int (I 9), .int (I 10), .ref (a 12), .ref (a 13), .ref (a 14), .ref (a 15), .ref (a 16), .ref (a 17), .ref (a 18)] : List Value).set 1 (.int v))) = xT_w cy a (xw_up I 7 v) F G := rfl
theorem xT_i8 {cy : Nat → ClassId} {a : Nat → Nat} {I : xw_I} {F : xw_F} {G : xw_G} {v : Int32} : (xT_w cy a I F G).set 11 (a 11, .inr (4, ([.int (I 6), .int (I 7), .int (I 8), .int (I 9), .int (I 10), .ref (a 12), .ref (a 13), .ref (a 14), .ref (a 15), .ref (a 16), .ref (a 17), .ref (a 18)] : List Value).set 2 (.int v))) = xT_w cy a (xw_up I 8 v) F G := rfl
theorem xT_i9 {cy : Nat → ClassId} {a : Nat → Nat} {I : xw_I} {F : xw_F} {G : xw_G} {v : Int32} : (xT_w cy a I F G).set 11 (a 11, .inr (4, ([.int (I 6), .int (I 7), .int (I 8), .int (I 9), .int (I 10), .ref (a 12), .ref (a 13), .ref (a 14), .ref (a 15), .ref (a 16), .ref (a 17), .ref (a 18)] : List Value).set 3 (.int v))) = xT_w cy a (xw_up I 9 v) F G := rfl
theorem xT_i10 {cy : Nat → ClassId} {a : Nat → Nat} {I : xw_I} {F : xw_F} {G : xw_G} {v : Int32} : (xT_w cy a I F G).set 11 (a 11, .inr (4, ([.int (I 6), .int (I 7), .int (I 8), .int (I 9), .int (I 10), .ref (a 12), .ref (a 13), .ref (a 14), .ref (a 15), .ref (a 16), .ref (a 17), .ref (a 18)] : List Value).set 4 (.int v))) = xT_w cy a (xw_up I 10 v) F G := rfl
theorem xT_f12 {cy : Nat → ClassId} {a : Nat → Nat} {I : xw_I} {F : xw_F} {G : xw_G} {f : Nat → Int32} : (xT_w cy a I F G).set 12 (a 12, .inl (cy 0, 5, .inl f)) = xT_w cy a I (xw_up F 12 f) G := rfl
theorem xT_f13 {cy : Nat → ClassId} {a : Nat → Nat} {I : xw_I} {F : xw_F} {G : xw_G} {f : Nat → Int32} : (xT_w cy a I F G).set 13 (a 13, .inl (cy 0, 5, .inl f)) = xT_w cy a I (xw_up F 13 f) G := rfl
theorem xT_f14 {cy : Nat → ClassId} {a : Nat → Nat} {I : xw_I} {F : xw_F} {G : xw_G} {f : Nat → Int32} : (xT_w cy a I F G).set 14 (a 14, .inl (cy 0, 5, .inl f)) = xT_w cy a I (xw_up F 14 f) G := rfl
theorem xT_f15 {cy : Nat → ClassId} {a : Nat → Nat} {I : xw_I} {F : xw_F} {G : xw_G} {f : Nat → Int32} : (xT_w cy a I F G).set 15 (a 15, .inl (cy 0, 5, .inl f)) = xT_w cy a I (xw_up F 15 f) G := rfl
theorem xT_f16 {cy : Nat → ClassId} {a : Nat → Nat} {I : xw_I} {F : xw_F} {G : xw_G} {f : Nat → Int32} : (xT_w cy a I F G).set 16 (a 16, .inl (cy 0, 3, .inl f)) = xT_w cy a I (xw_up F 16 f) G := rfl
theorem xT_f17 {cy : Nat → ClassId} {a : Nat → Nat} {I : xw_I} {F : xw_F} {G : xw_G} {f : Nat → Int32} : (xT_w cy a I F G).set 17 (a 17, .inl (cy 0, 3, .inl f)) = xT_w cy a I (xw_up F 17 f) G := rfl
theorem xT_f18 {cy : Nat → ClassId} {a : Nat → Nat} {I : xw_I} {F : xw_F} {G : xw_G} {f : Nat → Int32} : (xT_w cy a I F G).set 18 (a 18, .inl (cy 0, 5, .inl f)) = xT_w cy a I (xw_up F 18 f) G := rfl
theorem xT_f19 {cy : Nat → ClassId} {a : Nat → Nat} {I : xw_I} {F : xw_F} {G : xw_G} {f : Nat → Int32} : (xT_w cy a I F G).set 19 (a 19, .inl (cy 0, 12, .inl f)) = xT_w cy a I (xw_up F 19 f) G := rfl
theorem mX4_copyC_1 : Cond.fieldLink RX4 33 "TagCarrier$Source" "words" "I" ∈ wsX4_copy := List.mem_of_getElem? (i := 1) rfl
theorem mX4_copyC_inX4 : ∀ w ∈ u_ws RX4 TX4 12, w ∈ wsX4_copy := by decide +kernel
theorem mX4_copyC_2 : Cond.fieldLink RX4 37 "TagCarrier$Source" "pairs" "I" ∈ wsX4_copy := List.mem_of_getElem? (i := 2) rfl
theorem mX4_copyC_3 : Cond.fieldLink RX4 40 "TagCarrier$Source" "marks" "I" ∈ wsX4_copy := List.mem_of_getElem? (i := 3) rfl
theorem mX4_copyC_4 : Cond.fieldLink RX4 43 "TagCarrier$Source" "markCount" "I" ∈ wsX4_copy := List.mem_of_getElem? (i := 4) rfl
theorem mX4_copyC_5 : Cond.fieldLink RX4 46 "TagCarrier$Source" "openCount" "I" ∈ wsX4_copy := List.mem_of_getElem? (i := 5) rfl
theorem mX4_copyC_6 : Cond.fieldLink RX4 9 "TagCarrier$Source" "opens" "[I" ∈ wsX4_copy := List.mem_of_getElem? (i := 6) rfl
theorem mX4_copyC_7 : Cond.fieldLink RX4 15 "TagCarrier$Source" "closes" "[I" ∈ wsX4_copy := List.mem_of_getElem? (i := 7) rfl
theorem mX4_copyC_8 : Cond.fieldLink RX4 18 "TagCarrier$Source" "holds" "[I" ∈ wsX4_copy := List.mem_of_getElem? (i := 8) rfl
theorem mX4_copyC_9 : Cond.fieldLink RX4 21 "TagCarrier$Source" "heldBy" "[I" ∈ wsX4_copy := List.mem_of_getElem? (i := 9) rfl
theorem mX4_copyC_10 : Cond.fieldLink RX4 30 "TagCarrier$Source" "openRow" "[I" ∈ wsX4_copy := List.mem_of_getElem? (i := 10) rfl
theorem mX4_copyC_11 : Cond.fieldLink RX4 24 "TagCarrier$Source" "markGap" "[I" ∈ wsX4_copy := List.mem_of_getElem? (i := 11) rfl
theorem mX4_copyC_12 : Cond.fieldLink RX4 27 "TagCarrier$Source" "markRow" "[I" ∈ wsX4_copy := List.mem_of_getElem? (i := 12) rfl
set_option maxHeartbeats 4000000 in
set_option maxRecDepth 100000 in
theorem c_X4_copyC (l : Launch) (D : va_G) (cy : Nat → ClassId) (a : Nat → Nat) (I : xw_I) (F : xw_F) (G : xw_G) (post : xw_I → xw_F → xw_G → Prop) (h : sm_X4_copyC I F G post) : xw_Wv l yX4_copy wsX4_copy ({ frames := 0, cells := 0, slots := 0, locals := 0 }) D cy [.ref (a 12), .ref (a 2)] (xC_w cy a I F G) (xC_w cy a) post := by
  intro A
  refine Met.ofW (cc := cX4_copy) (maxL := 3) (ret := none) (by decide) rfl ?_
  intro p e s m args below meth c s₁ B hml hv
  obtain ⟨rfl, hP, hB, hD⟩ := hv
  have hP : va_P D vwCl (xC_w cy a I F G) s.heap := hP
  have hx := B.exec
  have hb := B.bytes
  have hr := B.returns
  have hts := atoms_spec (ws := wsX4_copy) B.pre
  have hown : s.vm.findClass RX4 = some m.cls := findClass_of_methodNamed B.named
  have hlocks := B.notSynchronized
  have hS : va_S A s.heap s.heap [] := va_S.rf
  refine xw_go (fun WW hWW => ?_)
  have hl := lv_entry ([.ref (a 12), .ref (a 2)]) (n := 3) (Nat.le_of_ble_eq_true rfl)
  rw [lg_entry_eq]
  generalize (lg_sl ([.ref (a 12), .ref (a 2)]) ++ List.replicate (3 - (lg_sl ([.ref (a 12), .ref (a 2)])).length) Slot.unset).toArray = ls at hl ⊢
  have hl : lv_has ls 3 [(0, .ref (a 12)), (1, .ref (a 2))] := hl
  obtain ⟨k42, mk42, el42⟩ : ∃ K : Int32 → xw_I → xw_F → xw_G → Prop, (∀ (y2 : Int32) (I : xw_I) (F : xw_F) (G : xw_G), (∀ (H : Heap) (locs : List Loc) (ls : Array Slot), va_P D vwCl (xC_w cy a I F G) H → va_D A (xC_w cy a I F G) → va_S A s.heap H locs → lv_has ls 3 [(0, .ref (a 12)), (1, .ref (a 2)), (2, .int y2)] → WW H locs (F0 m 42 ls [])) → K y2 I F G) ∧ (∀ (y2 : Int32) (I : xw_I) (F : xw_F) (G : xw_G), K y2 I F G → (∀ (H : Heap) (locs : List Loc) (ls : Array Slot), va_P D vwCl (xC_w cy a I F G) H → va_D A (xC_w cy a I F G) → va_S A s.heap H locs → lv_has ls 3 [(0, .ref (a 12)), (1, .ref (a 2)), (2, .int y2)] → WW H locs (F0 m 42 ls []))) := ⟨fun (y2 : Int32) (I : xw_I) (F : xw_F) (G : xw_G) => (∀ (H : Heap) (locs : List Loc) (ls : Array Slot), va_P D vwCl (xC_w cy a I F G) H → va_D A (xC_w cy a I F G) → va_S A s.heap H locs → lv_has ls 3 [(0, .ref (a 12)), (1, .ref (a 2)), (2, .int y2)] → WW H locs (F0 m 42 ls [])), fun _ _ _ _ h => h, fun _ _ _ _ h => h⟩
  obtain ⟨k115, mk115, el115⟩ : ∃ K : Int32 → xw_I → xw_F → xw_G → Prop, (∀ (y2 : Int32) (I : xw_I) (F : xw_F) (G : xw_G), (∀ (H : Heap) (locs : List Loc) (ls : Array Slot), va_P D vwCl (xC_w cy a I F G) H → va_D A (xC_w cy a I F G) → va_S A s.heap H locs → lv_has ls 3 [(0, .ref (a 12)), (1, .ref (a 2)), (2, .int y2)] → WW H locs (F0 m 115 ls [])) → K y2 I F G) ∧ (∀ (y2 : Int32) (I : xw_I) (F : xw_F) (G : xw_G), K y2 I F G → (∀ (H : Heap) (locs : List Loc) (ls : Array Slot), va_P D vwCl (xC_w cy a I F G) H → va_D A (xC_w cy a I F G) → va_S A s.heap H locs → lv_has ls 3 [(0, .ref (a 12)), (1, .ref (a 2)), (2, .int y2)] → WW H locs (F0 m 115 ls []))) := ⟨fun (y2 : Int32) (I : xw_I) (F : xw_F) (G : xw_G) => (∀ (H : Heap) (locs : List Loc) (ls : Array Slot), va_P D vwCl (xC_w cy a I F G) H → va_D A (xC_w cy a I F G) → va_S A s.heap H locs → lv_has ls 3 [(0, .ref (a 12)), (1, .ref (a 2)), (2, .int y2)] → WW H locs (F0 m 115 ls [])), fun _ _ _ _ h => h, fun _ _ _ _ h => h⟩
  have rl42 : ∀ (y2 : Int32) (I : xw_I) (F : xw_F) (G : xw_G), (bd_X4_copyC_42 post k42 k115 y2 I F G) → k42 y2 I F G := by
    intro y2 I F G h
    refine mk42 _ _ _ _ ?_
    intro H locs ls hP hD hS hl
    refine (hWW _ _ _).mpr ?_
    unfold bd_X4_copyC_42 at h
    refine lv_iload_n hx hb dX4_copy_42 rfl (lv_at hl 2 rfl) ?_
    refine lv_iconst (v := 5) hx hb dX4_copy_43 (by decide) ?_
    refine lv_icmp_ge (tgt := 113) hx hb dX4_copy_44 (by decide) (fun c24 => ?_) (fun c24 => ?_)
    · have h := h.1 c24
      refine lv_iconst (v := 0) hx hb dX4_copy_113 (by decide) ?_
      refine lv_istore_n (lv' := [(2, .int (0 : Int32)), (0, .ref (a 12)), (1, .ref (a 2))]) hx hb dX4_copy_114 rfl hl (by decide) rfl (fun ls hl => ?_)
      exact (hWW _ _ _).mp (el115 _ _ _ _ h _ _ ls hP hD hS (lv_sub hl [1, 2, 0] rfl))
    · have h := h.2 c24
      refine lv_aload_n hx hb dX4_copy_47 rfl (lv_at hl 0 rfl) ?_
      refine va_get (D := D) (ci := 4) (v := .ref (a 13)) (C := RX4) (T := TX4) (N := 12) hx hb hts mX4_copyC_inX4 hown hB.1 hP 12 xC_c12 rfl 5 (by decide) (hts _ mX4_copyC_6) (fun _ h9 => h9) rfl dX4_copy_48 ?_
      refine lv_iload_n hx hb dX4_copy_51 rfl (lv_at hl 2 rfl) ?_
      refine lv_aload_n hx hb dX4_copy_52 rfl (lv_at hl 1 rfl) ?_
      refine va_get (D := D) (ci := 4) (v := .ref (a 3)) (C := RX4) (T := TX4) (N := 12) hx hb hts mX4_copyC_inX4 hown hB.1 hP 2 xC_c2 rfl 5 (by decide) (hts _ mX4_copyC_6) (fun _ h9 => h9) rfl dX4_copy_53 ?_
      refine lv_iload_n hx hb dX4_copy_56 rfl (lv_at hl 2 rfl) ?_
      refine xw_iald hx hb hB hP 3 xC_c3 h.1 dX4_copy_57 (fun v25 ev25 => ?_)
      have h := h.2 v25 ev25
      refine xw_iast hx hb hB hP hD hS 13 xC_c13 h.1 xC_f13 dX4_copy_58 (fun H locs hP hD hS => ?_)
      have h := h.2
      obtain ⟨F26, eF26⟩ : ∃ f : xw_F, f = xw_up F 13 (upd (F 13) y2.toNatClampNeg v25) := ⟨_, rfl⟩
      rw [← eF26] at hP hD
      have h := h F26 eF26
      refine lv_aload_n hx hb dX4_copy_59 rfl (lv_at hl 0 rfl) ?_
      refine va_get (D := D) (ci := 4) (v := .ref (a 14)) (C := RX4) (T := TX4) (N := 12) hx hb hts mX4_copyC_inX4 hown hB.1 hP 12 xC_c12 rfl 6 (by decide) (hts _ mX4_copyC_7) (fun _ h9 => h9) rfl dX4_copy_60 ?_
      refine lv_iload_n hx hb dX4_copy_63 rfl (lv_at hl 2 rfl) ?_
      refine lv_aload_n hx hb dX4_copy_64 rfl (lv_at hl 1 rfl) ?_
      refine va_get (D := D) (ci := 4) (v := .ref (a 4)) (C := RX4) (T := TX4) (N := 12) hx hb hts mX4_copyC_inX4 hown hB.1 hP 2 xC_c2 rfl 6 (by decide) (hts _ mX4_copyC_7) (fun _ h9 => h9) rfl dX4_copy_65 ?_
      refine lv_iload_n hx hb dX4_copy_68 rfl (lv_at hl 2 rfl) ?_
      refine xw_iald hx hb hB hP 4 xC_c4 h.1 dX4_copy_69 (fun v27 ev27 => ?_)
      have h := h.2 v27 ev27
      refine xw_iast hx hb hB hP hD hS 14 xC_c14 h.1 xC_f14 dX4_copy_70 (fun H locs hP hD hS => ?_)
      have h := h.2
      obtain ⟨F28, eF28⟩ : ∃ f : xw_F, f = xw_up F26 14 (upd (F26 14) y2.toNatClampNeg v27) := ⟨_, rfl⟩
      rw [← eF28] at hP hD
      have h := h F28 eF28
      refine lv_aload_n hx hb dX4_copy_71 rfl (lv_at hl 0 rfl) ?_
      refine va_get (D := D) (ci := 4) (v := .ref (a 15)) (C := RX4) (T := TX4) (N := 12) hx hb hts mX4_copyC_inX4 hown hB.1 hP 12 xC_c12 rfl 7 (by decide) (hts _ mX4_copyC_8) (fun _ h9 => h9) rfl dX4_copy_72 ?_
      refine lv_iload_n hx hb dX4_copy_75 rfl (lv_at hl 2 rfl) ?_
      refine lv_aload_n hx hb dX4_copy_76 rfl (lv_at hl 1 rfl) ?_
      refine va_get (D := D) (ci := 4) (v := .ref (a 5)) (C := RX4) (T := TX4) (N := 12) hx hb hts mX4_copyC_inX4 hown hB.1 hP 2 xC_c2 rfl 7 (by decide) (hts _ mX4_copyC_8) (fun _ h9 => h9) rfl dX4_copy_77 ?_
      refine lv_iload_n hx hb dX4_copy_80 rfl (lv_at hl 2 rfl) ?_
      refine xw_iald hx hb hB hP 5 xC_c5 h.1 dX4_copy_81 (fun v29 ev29 => ?_)
      have h := h.2 v29 ev29
      refine xw_iast hx hb hB hP hD hS 15 xC_c15 h.1 xC_f15 dX4_copy_82 (fun H locs hP hD hS => ?_)
      have h := h.2
      obtain ⟨F30, eF30⟩ : ∃ f : xw_F, f = xw_up F28 15 (upd (F28 15) y2.toNatClampNeg v29) := ⟨_, rfl⟩
      rw [← eF30] at hP hD
      have h := h F30 eF30
      refine lv_aload_n hx hb dX4_copy_83 rfl (lv_at hl 0 rfl) ?_
      refine va_get (D := D) (ci := 4) (v := .ref (a 16)) (C := RX4) (T := TX4) (N := 12) hx hb hts mX4_copyC_inX4 hown hB.1 hP 12 xC_c12 rfl 8 (by decide) (hts _ mX4_copyC_9) (fun _ h9 => h9) rfl dX4_copy_84 ?_
      refine lv_iload_n hx hb dX4_copy_87 rfl (lv_at hl 2 rfl) ?_
      refine lv_aload_n hx hb dX4_copy_88 rfl (lv_at hl 1 rfl) ?_
      refine va_get (D := D) (ci := 4) (v := .ref (a 6)) (C := RX4) (T := TX4) (N := 12) hx hb hts mX4_copyC_inX4 hown hB.1 hP 2 xC_c2 rfl 8 (by decide) (hts _ mX4_copyC_9) (fun _ h9 => h9) rfl dX4_copy_89 ?_
      refine lv_iload_n hx hb dX4_copy_92 rfl (lv_at hl 2 rfl) ?_
      refine xw_iald hx hb hB hP 6 xC_c6 h.1 dX4_copy_93 (fun v31 ev31 => ?_)
      have h := h.2 v31 ev31
      refine xw_iast hx hb hB hP hD hS 16 xC_c16 h.1 xC_f16 dX4_copy_94 (fun H locs hP hD hS => ?_)
      have h := h.2
      obtain ⟨F32, eF32⟩ : ∃ f : xw_F, f = xw_up F30 16 (upd (F30 16) y2.toNatClampNeg v31) := ⟨_, rfl⟩
      rw [← eF32] at hP hD
      have h := h F32 eF32
      refine lv_aload_n hx hb dX4_copy_95 rfl (lv_at hl 0 rfl) ?_
      refine va_get (D := D) (ci := 4) (v := .ref (a 19)) (C := RX4) (T := TX4) (N := 12) hx hb hts mX4_copyC_inX4 hown hB.1 hP 12 xC_c12 rfl 11 (by decide) (hts _ mX4_copyC_10) (fun _ h9 => h9) rfl dX4_copy_96 ?_
      refine lv_iload_n hx hb dX4_copy_99 rfl (lv_at hl 2 rfl) ?_
      refine lv_aload_n hx hb dX4_copy_100 rfl (lv_at hl 1 rfl) ?_
      refine va_get (D := D) (ci := 4) (v := .ref (a 9)) (C := RX4) (T := TX4) (N := 12) hx hb hts mX4_copyC_inX4 hown hB.1 hP 2 xC_c2 rfl 11 (by decide) (hts _ mX4_copyC_10) (fun _ h9 => h9) rfl dX4_copy_101 ?_
      refine lv_iload_n hx hb dX4_copy_104 rfl (lv_at hl 2 rfl) ?_
      refine xw_iald hx hb hB hP 9 xC_c9 h.1 dX4_copy_105 (fun v33 ev33 => ?_)
      have h := h.2 v33 ev33
      refine xw_iast hx hb hB hP hD hS 19 xC_c19 h.1 xC_f19 dX4_copy_106 (fun H locs hP hD hS => ?_)
      have h := h.2
      obtain ⟨F34, eF34⟩ : ∃ f : xw_F, f = xw_up F32 19 (upd (F32 19) y2.toNatClampNeg v33) := ⟨_, rfl⟩
      rw [← eF34] at hP hD
      have h := h F34 eF34
      obtain ⟨v35, ev35⟩ : ∃ y : Int32, y = y2 + 1 := ⟨_, rfl⟩
      have h := h v35 ev35
      refine lv_iinc (v := v35) (lv' := [(2, .int v35), (0, .ref (a 12)), (1, .ref (a 2))]) hx hb dX4_copy_107 hl (k := 2) rfl (by rw [ev35]; rfl) (by decide) rfl (fun ls hl => ?_)
      refine lv_goto (tgt := 42) hx hb dX4_copy_110 (by decide) ?_
      exact (hWW _ _ _).mp (el42 _ _ _ _ h _ _ ls hP hD hS (lv_sub hl [1, 2, 0] rfl))
  have rl115 : ∀ (y2 : Int32) (I : xw_I) (F : xw_F) (G : xw_G), (bd_X4_copyC_115 post k42 k115 y2 I F G) → k115 y2 I F G := by
    intro y2 I F G h
    refine mk115 _ _ _ _ ?_
    intro H locs ls hP hD hS hl
    refine (hWW _ _ _).mpr ?_
    unfold bd_X4_copyC_115 at h
    refine lv_iload_n hx hb dX4_copy_115 rfl (lv_at hl 2 rfl) ?_
    refine lv_iconst (v := 3) hx hb dX4_copy_116 (by decide) ?_
    refine lv_icmp_ge (tgt := 150) hx hb dX4_copy_117 (by decide) (fun c36 => ?_) (fun c36 => ?_)
    · have h := h.1 c36
      exact xw_wretv hx hb hr hlocks hP hD hS h dX4_copy_150
    · have h := h.2 c36
      refine lv_aload_n hx hb dX4_copy_120 rfl (lv_at hl 0 rfl) ?_
      refine va_get (D := D) (ci := 4) (v := .ref (a 17)) (C := RX4) (T := TX4) (N := 12) hx hb hts mX4_copyC_inX4 hown hB.1 hP 12 xC_c12 rfl 9 (by decide) (hts _ mX4_copyC_11) (fun _ h9 => h9) rfl dX4_copy_121 ?_
      refine lv_iload_n hx hb dX4_copy_124 rfl (lv_at hl 2 rfl) ?_
      refine lv_aload_n hx hb dX4_copy_125 rfl (lv_at hl 1 rfl) ?_
      refine va_get (D := D) (ci := 4) (v := .ref (a 7)) (C := RX4) (T := TX4) (N := 12) hx hb hts mX4_copyC_inX4 hown hB.1 hP 2 xC_c2 rfl 9 (by decide) (hts _ mX4_copyC_11) (fun _ h9 => h9) rfl dX4_copy_126 ?_
      refine lv_iload_n hx hb dX4_copy_129 rfl (lv_at hl 2 rfl) ?_
      refine xw_iald hx hb hB hP 7 xC_c7 h.1 dX4_copy_130 (fun v37 ev37 => ?_)
      have h := h.2 v37 ev37
      refine xw_iast hx hb hB hP hD hS 17 xC_c17 h.1 xC_f17 dX4_copy_131 (fun H locs hP hD hS => ?_)
      have h := h.2
      obtain ⟨F38, eF38⟩ : ∃ f : xw_F, f = xw_up F 17 (upd (F 17) y2.toNatClampNeg v37) := ⟨_, rfl⟩
      rw [← eF38] at hP hD
      have h := h F38 eF38
      refine lv_aload_n hx hb dX4_copy_132 rfl (lv_at hl 0 rfl) ?_
      refine va_get (D := D) (ci := 4) (v := .ref (a 18)) (C := RX4) (T := TX4) (N := 12) hx hb hts mX4_copyC_inX4 hown hB.1 hP 12 xC_c12 rfl 10 (by decide) (hts _ mX4_copyC_12) (fun _ h9 => h9) rfl dX4_copy_133 ?_
      refine lv_iload_n hx hb dX4_copy_136 rfl (lv_at hl 2 rfl) ?_
      refine lv_aload_n hx hb dX4_copy_137 rfl (lv_at hl 1 rfl) ?_
      refine va_get (D := D) (ci := 4) (v := .ref (a 8)) (C := RX4) (T := TX4) (N := 12) hx hb hts mX4_copyC_inX4 hown hB.1 hP 2 xC_c2 rfl 10 (by decide) (hts _ mX4_copyC_12) (fun _ h9 => h9) rfl dX4_copy_138 ?_
      refine lv_iload_n hx hb dX4_copy_141 rfl (lv_at hl 2 rfl) ?_
      refine xw_iald hx hb hB hP 8 xC_c8 h.1 dX4_copy_142 (fun v39 ev39 => ?_)
      have h := h.2 v39 ev39
      refine xw_iast hx hb hB hP hD hS 18 xC_c18 h.1 xC_f18 dX4_copy_143 (fun H locs hP hD hS => ?_)
      have h := h.2
      obtain ⟨F40, eF40⟩ : ∃ f : xw_F, f = xw_up F38 18 (upd (F38 18) y2.toNatClampNeg v39) := ⟨_, rfl⟩
      rw [← eF40] at hP hD
      have h := h F40 eF40
      obtain ⟨v41, ev41⟩ : ∃ y : Int32, y = y2 + 1 := ⟨_, rfl⟩
      have h := h v41 ev41
      refine lv_iinc (v := v41) (lv' := [(2, .int v41), (0, .ref (a 12)), (1, .ref (a 2))]) hx hb dX4_copy_144 hl (k := 2) rfl (by rw [ev41]; rfl) (by decide) rfl (fun ls hl => ?_)
      refine lv_goto (tgt := 115) hx hb dX4_copy_147 (by decide) ?_
      exact (hWW _ _ _).mp (el115 _ _ _ _ h _ _ ls hP hD hS (lv_sub hl [1, 2, 0] rfl))
  have h := h k42 k115 rl42 rl115
  unfold bd_X4_copyC_0 at h
  refine lv_aload_n hx hb dX4_copy_0 rfl (lv_at hl 0 rfl) ?_
  refine lv_aload_n hx hb dX4_copy_1 rfl (lv_at hl 1 rfl) ?_
  refine va_get (D := D) (ci := 4) (v := .int (I 2)) (C := RX4) (T := TX4) (N := 12) hx hb hts mX4_copyC_inX4 hown hB.1 hP 2 xC_c2 rfl 0 (by decide) (hts _ mX4_copyC_1) (fun _ h9 => h9) rfl dX4_copy_2 ?_
  refine xw_put (D := D) (ci := 4) (v := .int (I 2)) (ty := .int) (C := RX4) (T := TX4) (N := 12) hx hb hts mX4_copyC_inX4 tyX4 tyX4_ok nmX4 hown hB hP hD hS 12 xC_c12 rfl 0 (by decide) (hts _ mX4_copyC_1) (fun _ h9 => h9) rfl (by decide +kernel) rfl rfl (Nat.le_of_ble_eq_true rfl) xC_i7 dX4_copy_5 (fun H locs hP hD hS => ?_)
  obtain ⟨I19, eI19⟩ : ∃ f : xw_I, f = xw_up I 7 (I 2) := ⟨_, rfl⟩
  rw [← eI19] at hP hD
  have h := h I19 eI19
  refine lv_aload_n hx hb dX4_copy_8 rfl (lv_at hl 0 rfl) ?_
  refine lv_aload_n hx hb dX4_copy_9 rfl (lv_at hl 1 rfl) ?_
  refine va_get (D := D) (ci := 4) (v := .int (I19 3)) (C := RX4) (T := TX4) (N := 12) hx hb hts mX4_copyC_inX4 hown hB.1 hP 2 xC_c2 rfl 1 (by decide) (hts _ mX4_copyC_2) (fun _ h9 => h9) rfl dX4_copy_10 ?_
  refine xw_put (D := D) (ci := 4) (v := .int (I19 3)) (ty := .int) (C := RX4) (T := TX4) (N := 12) hx hb hts mX4_copyC_inX4 tyX4 tyX4_ok nmX4 hown hB hP hD hS 12 xC_c12 rfl 1 (by decide) (hts _ mX4_copyC_2) (fun _ h9 => h9) rfl (by decide +kernel) rfl rfl (Nat.le_of_ble_eq_true rfl) xC_i8 dX4_copy_13 (fun H locs hP hD hS => ?_)
  obtain ⟨I20, eI20⟩ : ∃ f : xw_I, f = xw_up I19 8 (I19 3) := ⟨_, rfl⟩
  rw [← eI20] at hP hD
  have h := h I20 eI20
  refine lv_aload_n hx hb dX4_copy_16 rfl (lv_at hl 0 rfl) ?_
  refine lv_aload_n hx hb dX4_copy_17 rfl (lv_at hl 1 rfl) ?_
  refine va_get (D := D) (ci := 4) (v := .int (I20 4)) (C := RX4) (T := TX4) (N := 12) hx hb hts mX4_copyC_inX4 hown hB.1 hP 2 xC_c2 rfl 2 (by decide) (hts _ mX4_copyC_3) (fun _ h9 => h9) rfl dX4_copy_18 ?_
  refine xw_put (D := D) (ci := 4) (v := .int (I20 4)) (ty := .int) (C := RX4) (T := TX4) (N := 12) hx hb hts mX4_copyC_inX4 tyX4 tyX4_ok nmX4 hown hB hP hD hS 12 xC_c12 rfl 2 (by decide) (hts _ mX4_copyC_3) (fun _ h9 => h9) rfl (by decide +kernel) rfl rfl (Nat.le_of_ble_eq_true rfl) xC_i9 dX4_copy_21 (fun H locs hP hD hS => ?_)
  obtain ⟨I21, eI21⟩ : ∃ f : xw_I, f = xw_up I20 9 (I20 4) := ⟨_, rfl⟩
  rw [← eI21] at hP hD
  have h := h I21 eI21
  refine lv_aload_n hx hb dX4_copy_24 rfl (lv_at hl 0 rfl) ?_
  refine lv_aload_n hx hb dX4_copy_25 rfl (lv_at hl 1 rfl) ?_
  refine va_get (D := D) (ci := 4) (v := .int (I21 5)) (C := RX4) (T := TX4) (N := 12) hx hb hts mX4_copyC_inX4 hown hB.1 hP 2 xC_c2 rfl 3 (by decide) (hts _ mX4_copyC_4) (fun _ h9 => h9) rfl dX4_copy_26 ?_
  refine xw_put (D := D) (ci := 4) (v := .int (I21 5)) (ty := .int) (C := RX4) (T := TX4) (N := 12) hx hb hts mX4_copyC_inX4 tyX4 tyX4_ok nmX4 hown hB hP hD hS 12 xC_c12 rfl 3 (by decide) (hts _ mX4_copyC_4) (fun _ h9 => h9) rfl (by decide +kernel) rfl rfl (Nat.le_of_ble_eq_true rfl) xC_i10 dX4_copy_29 (fun H locs hP hD hS => ?_)
  obtain ⟨I22, eI22⟩ : ∃ f : xw_I, f = xw_up I21 10 (I21 5) := ⟨_, rfl⟩
  rw [← eI22] at hP hD
  have h := h I22 eI22
  refine lv_aload_n hx hb dX4_copy_32 rfl (lv_at hl 0 rfl) ?_
  refine lv_aload_n hx hb dX4_copy_33 rfl (lv_at hl 1 rfl) ?_
  refine va_get (D := D) (ci := 4) (v := .int (I22 6)) (C := RX4) (T := TX4) (N := 12) hx hb hts mX4_copyC_inX4 hown hB.1 hP 2 xC_c2 rfl 4 (by decide) (hts _ mX4_copyC_5) (fun _ h9 => h9) rfl dX4_copy_34 ?_
  refine xw_put (D := D) (ci := 4) (v := .int (I22 6)) (ty := .int) (C := RX4) (T := TX4) (N := 12) hx hb hts mX4_copyC_inX4 tyX4 tyX4_ok nmX4 hown hB hP hD hS 12 xC_c12 rfl 4 (by decide) (hts _ mX4_copyC_5) (fun _ h9 => h9) rfl (by decide +kernel) rfl rfl (Nat.le_of_ble_eq_true rfl) xC_i11 dX4_copy_37 (fun H locs hP hD hS => ?_)
  obtain ⟨I23, eI23⟩ : ∃ f : xw_I, f = xw_up I22 11 (I22 6) := ⟨_, rfl⟩
  rw [← eI23] at hP hD
  have h := h I23 eI23
  refine lv_iconst (v := 0) hx hb dX4_copy_40 (by decide) ?_
  refine lv_istore_n (lv' := [(2, .int (0 : Int32)), (0, .ref (a 12)), (1, .ref (a 2))]) hx hb dX4_copy_41 rfl hl (by decide) rfl (fun ls hl => ?_)
  exact (hWW _ _ _).mp (el42 _ _ _ _ h _ _ ls hP hD hS (lv_sub hl [1, 2, 0] rfl))

theorem mX4_copyT_1 : Cond.fieldLink RX4 33 "TagCarrier$Source" "words" "I" ∈ wsX4_copy := List.mem_of_getElem? (i := 1) rfl
theorem mX4_copyT_inX4 : ∀ w ∈ u_ws RX4 TX4 12, w ∈ wsX4_copy := by decide +kernel
theorem mX4_copyT_2 : Cond.fieldLink RX4 37 "TagCarrier$Source" "pairs" "I" ∈ wsX4_copy := List.mem_of_getElem? (i := 2) rfl
theorem mX4_copyT_3 : Cond.fieldLink RX4 40 "TagCarrier$Source" "marks" "I" ∈ wsX4_copy := List.mem_of_getElem? (i := 3) rfl
theorem mX4_copyT_4 : Cond.fieldLink RX4 43 "TagCarrier$Source" "markCount" "I" ∈ wsX4_copy := List.mem_of_getElem? (i := 4) rfl
theorem mX4_copyT_5 : Cond.fieldLink RX4 46 "TagCarrier$Source" "openCount" "I" ∈ wsX4_copy := List.mem_of_getElem? (i := 5) rfl
theorem mX4_copyT_6 : Cond.fieldLink RX4 9 "TagCarrier$Source" "opens" "[I" ∈ wsX4_copy := List.mem_of_getElem? (i := 6) rfl
theorem mX4_copyT_7 : Cond.fieldLink RX4 15 "TagCarrier$Source" "closes" "[I" ∈ wsX4_copy := List.mem_of_getElem? (i := 7) rfl
theorem mX4_copyT_8 : Cond.fieldLink RX4 18 "TagCarrier$Source" "holds" "[I" ∈ wsX4_copy := List.mem_of_getElem? (i := 8) rfl
theorem mX4_copyT_9 : Cond.fieldLink RX4 21 "TagCarrier$Source" "heldBy" "[I" ∈ wsX4_copy := List.mem_of_getElem? (i := 9) rfl
theorem mX4_copyT_10 : Cond.fieldLink RX4 30 "TagCarrier$Source" "openRow" "[I" ∈ wsX4_copy := List.mem_of_getElem? (i := 10) rfl
theorem mX4_copyT_11 : Cond.fieldLink RX4 24 "TagCarrier$Source" "markGap" "[I" ∈ wsX4_copy := List.mem_of_getElem? (i := 11) rfl
theorem mX4_copyT_12 : Cond.fieldLink RX4 27 "TagCarrier$Source" "markRow" "[I" ∈ wsX4_copy := List.mem_of_getElem? (i := 12) rfl
set_option maxHeartbeats 4000000 in
set_option maxRecDepth 100000 in
theorem c_X4_copyT (l : Launch) (D : va_G) (cy : Nat → ClassId) (a : Nat → Nat) (I : xw_I) (F : xw_F) (G : xw_G) (post : xw_I → xw_F → xw_G → Prop) (h : sm_X4_copyT I F G post) : xw_Wv l yX4_copy wsX4_copy ({ frames := 0, cells := 0, slots := 0, locals := 0 }) D cy [.ref (a 1), .ref (a 11)] (xT_w cy a I F G) (xT_w cy a) post := by
  intro A
  refine Met.ofW (cc := cX4_copy) (maxL := 3) (ret := none) (by decide) rfl ?_
  intro p e s m args below meth c s₁ B hml hv
  obtain ⟨rfl, hP, hB, hD⟩ := hv
  have hP : va_P D vwCl (xT_w cy a I F G) s.heap := hP
  have hx := B.exec
  have hb := B.bytes
  have hr := B.returns
  have hts := atoms_spec (ws := wsX4_copy) B.pre
  have hown : s.vm.findClass RX4 = some m.cls := findClass_of_methodNamed B.named
  have hlocks := B.notSynchronized
  have hS : va_S A s.heap s.heap [] := va_S.rf
  refine xw_go (fun WW hWW => ?_)
  have hl := lv_entry ([.ref (a 1), .ref (a 11)]) (n := 3) (Nat.le_of_ble_eq_true rfl)
  rw [lg_entry_eq]
  generalize (lg_sl ([.ref (a 1), .ref (a 11)]) ++ List.replicate (3 - (lg_sl ([.ref (a 1), .ref (a 11)])).length) Slot.unset).toArray = ls at hl ⊢
  have hl : lv_has ls 3 [(0, .ref (a 1)), (1, .ref (a 11))] := hl
  obtain ⟨k42, mk42, el42⟩ : ∃ K : Int32 → xw_I → xw_F → xw_G → Prop, (∀ (y2 : Int32) (I : xw_I) (F : xw_F) (G : xw_G), (∀ (H : Heap) (locs : List Loc) (ls : Array Slot), va_P D vwCl (xT_w cy a I F G) H → va_D A (xT_w cy a I F G) → va_S A s.heap H locs → lv_has ls 3 [(0, .ref (a 1)), (1, .ref (a 11)), (2, .int y2)] → WW H locs (F0 m 42 ls [])) → K y2 I F G) ∧ (∀ (y2 : Int32) (I : xw_I) (F : xw_F) (G : xw_G), K y2 I F G → (∀ (H : Heap) (locs : List Loc) (ls : Array Slot), va_P D vwCl (xT_w cy a I F G) H → va_D A (xT_w cy a I F G) → va_S A s.heap H locs → lv_has ls 3 [(0, .ref (a 1)), (1, .ref (a 11)), (2, .int y2)] → WW H locs (F0 m 42 ls []))) := ⟨fun (y2 : Int32) (I : xw_I) (F : xw_F) (G : xw_G) => (∀ (H : Heap) (locs : List Loc) (ls : Array Slot), va_P D vwCl (xT_w cy a I F G) H → va_D A (xT_w cy a I F G) → va_S A s.heap H locs → lv_has ls 3 [(0, .ref (a 1)), (1, .ref (a 11)), (2, .int y2)] → WW H locs (F0 m 42 ls [])), fun _ _ _ _ h => h, fun _ _ _ _ h => h⟩
  obtain ⟨k115, mk115, el115⟩ : ∃ K : Int32 → xw_I → xw_F → xw_G → Prop, (∀ (y2 : Int32) (I : xw_I) (F : xw_F) (G : xw_G), (∀ (H : Heap) (locs : List Loc) (ls : Array Slot), va_P D vwCl (xT_w cy a I F G) H → va_D A (xT_w cy a I F G) → va_S A s.heap H locs → lv_has ls 3 [(0, .ref (a 1)), (1, .ref (a 11)), (2, .int y2)] → WW H locs (F0 m 115 ls [])) → K y2 I F G) ∧ (∀ (y2 : Int32) (I : xw_I) (F : xw_F) (G : xw_G), K y2 I F G → (∀ (H : Heap) (locs : List Loc) (ls : Array Slot), va_P D vwCl (xT_w cy a I F G) H → va_D A (xT_w cy a I F G) → va_S A s.heap H locs → lv_has ls 3 [(0, .ref (a 1)), (1, .ref (a 11)), (2, .int y2)] → WW H locs (F0 m 115 ls []))) := ⟨fun (y2 : Int32) (I : xw_I) (F : xw_F) (G : xw_G) => (∀ (H : Heap) (locs : List Loc) (ls : Array Slot), va_P D vwCl (xT_w cy a I F G) H → va_D A (xT_w cy a I F G) → va_S A s.heap H locs → lv_has ls 3 [(0, .ref (a 1)), (1, .ref (a 11)), (2, .int y2)] → WW H locs (F0 m 115 ls [])), fun _ _ _ _ h => h, fun _ _ _ _ h => h⟩
  have rl42 : ∀ (y2 : Int32) (I : xw_I) (F : xw_F) (G : xw_G), (bd_X4_copyT_42 post k42 k115 y2 I F G) → k42 y2 I F G := by
    intro y2 I F G h
    refine mk42 _ _ _ _ ?_
    intro H locs ls hP hD hS hl
    refine (hWW _ _ _).mpr ?_
    unfold bd_X4_copyT_42 at h
    refine lv_iload_n hx hb dX4_copy_42 rfl (lv_at hl 2 rfl) ?_
    refine lv_iconst (v := 5) hx hb dX4_copy_43 (by decide) ?_
    refine lv_icmp_ge (tgt := 113) hx hb dX4_copy_44 (by decide) (fun c24 => ?_) (fun c24 => ?_)
    · have h := h.1 c24
      refine lv_iconst (v := 0) hx hb dX4_copy_113 (by decide) ?_
      refine lv_istore_n (lv' := [(2, .int (0 : Int32)), (0, .ref (a 1)), (1, .ref (a 11))]) hx hb dX4_copy_114 rfl hl (by decide) rfl (fun ls hl => ?_)
      exact (hWW _ _ _).mp (el115 _ _ _ _ h _ _ ls hP hD hS (lv_sub hl [1, 2, 0] rfl))
    · have h := h.2 c24
      refine lv_aload_n hx hb dX4_copy_47 rfl (lv_at hl 0 rfl) ?_
      refine va_get (D := D) (ci := 4) (v := .ref (a 2)) (C := RX4) (T := TX4) (N := 12) hx hb hts mX4_copyT_inX4 hown hB.1 hP 1 xT_c1 rfl 5 (by decide) (hts _ mX4_copyT_6) (fun _ h9 => h9) rfl dX4_copy_48 ?_
      refine lv_iload_n hx hb dX4_copy_51 rfl (lv_at hl 2 rfl) ?_
      refine lv_aload_n hx hb dX4_copy_52 rfl (lv_at hl 1 rfl) ?_
      refine va_get (D := D) (ci := 4) (v := .ref (a 12)) (C := RX4) (T := TX4) (N := 12) hx hb hts mX4_copyT_inX4 hown hB.1 hP 11 xT_c11 rfl 5 (by decide) (hts _ mX4_copyT_6) (fun _ h9 => h9) rfl dX4_copy_53 ?_
      refine lv_iload_n hx hb dX4_copy_56 rfl (lv_at hl 2 rfl) ?_
      refine xw_iald hx hb hB hP 12 xT_c12 h.1 dX4_copy_57 (fun v25 ev25 => ?_)
      have h := h.2 v25 ev25
      refine xw_iast hx hb hB hP hD hS 2 xT_c2 h.1 xT_f2 dX4_copy_58 (fun H locs hP hD hS => ?_)
      have h := h.2
      obtain ⟨F26, eF26⟩ : ∃ f : xw_F, f = xw_up F 2 (upd (F 2) y2.toNatClampNeg v25) := ⟨_, rfl⟩
      rw [← eF26] at hP hD
      have h := h F26 eF26
      refine lv_aload_n hx hb dX4_copy_59 rfl (lv_at hl 0 rfl) ?_
      refine va_get (D := D) (ci := 4) (v := .ref (a 3)) (C := RX4) (T := TX4) (N := 12) hx hb hts mX4_copyT_inX4 hown hB.1 hP 1 xT_c1 rfl 6 (by decide) (hts _ mX4_copyT_7) (fun _ h9 => h9) rfl dX4_copy_60 ?_
      refine lv_iload_n hx hb dX4_copy_63 rfl (lv_at hl 2 rfl) ?_
      refine lv_aload_n hx hb dX4_copy_64 rfl (lv_at hl 1 rfl) ?_
      refine va_get (D := D) (ci := 4) (v := .ref (a 13)) (C := RX4) (T := TX4) (N := 12) hx hb hts mX4_copyT_inX4 hown hB.1 hP 11 xT_c11 rfl 6 (by decide) (hts _ mX4_copyT_7) (fun _ h9 => h9) rfl dX4_copy_65 ?_
      refine lv_iload_n hx hb dX4_copy_68 rfl (lv_at hl 2 rfl) ?_
      refine xw_iald hx hb hB hP 13 xT_c13 h.1 dX4_copy_69 (fun v27 ev27 => ?_)
      have h := h.2 v27 ev27
      refine xw_iast hx hb hB hP hD hS 3 xT_c3 h.1 xT_f3 dX4_copy_70 (fun H locs hP hD hS => ?_)
      have h := h.2
      obtain ⟨F28, eF28⟩ : ∃ f : xw_F, f = xw_up F26 3 (upd (F26 3) y2.toNatClampNeg v27) := ⟨_, rfl⟩
      rw [← eF28] at hP hD
      have h := h F28 eF28
      refine lv_aload_n hx hb dX4_copy_71 rfl (lv_at hl 0 rfl) ?_
      refine va_get (D := D) (ci := 4) (v := .ref (a 4)) (C := RX4) (T := TX4) (N := 12) hx hb hts mX4_copyT_inX4 hown hB.1 hP 1 xT_c1 rfl 7 (by decide) (hts _ mX4_copyT_8) (fun _ h9 => h9) rfl dX4_copy_72 ?_
      refine lv_iload_n hx hb dX4_copy_75 rfl (lv_at hl 2 rfl) ?_
      refine lv_aload_n hx hb dX4_copy_76 rfl (lv_at hl 1 rfl) ?_
      refine va_get (D := D) (ci := 4) (v := .ref (a 14)) (C := RX4) (T := TX4) (N := 12) hx hb hts mX4_copyT_inX4 hown hB.1 hP 11 xT_c11 rfl 7 (by decide) (hts _ mX4_copyT_8) (fun _ h9 => h9) rfl dX4_copy_77 ?_
      refine lv_iload_n hx hb dX4_copy_80 rfl (lv_at hl 2 rfl) ?_
      refine xw_iald hx hb hB hP 14 xT_c14 h.1 dX4_copy_81 (fun v29 ev29 => ?_)
      have h := h.2 v29 ev29
      refine xw_iast hx hb hB hP hD hS 4 xT_c4 h.1 xT_f4 dX4_copy_82 (fun H locs hP hD hS => ?_)
      have h := h.2
      obtain ⟨F30, eF30⟩ : ∃ f : xw_F, f = xw_up F28 4 (upd (F28 4) y2.toNatClampNeg v29) := ⟨_, rfl⟩
      rw [← eF30] at hP hD
      have h := h F30 eF30
      refine lv_aload_n hx hb dX4_copy_83 rfl (lv_at hl 0 rfl) ?_
      refine va_get (D := D) (ci := 4) (v := .ref (a 5)) (C := RX4) (T := TX4) (N := 12) hx hb hts mX4_copyT_inX4 hown hB.1 hP 1 xT_c1 rfl 8 (by decide) (hts _ mX4_copyT_9) (fun _ h9 => h9) rfl dX4_copy_84 ?_
      refine lv_iload_n hx hb dX4_copy_87 rfl (lv_at hl 2 rfl) ?_
      refine lv_aload_n hx hb dX4_copy_88 rfl (lv_at hl 1 rfl) ?_
      refine va_get (D := D) (ci := 4) (v := .ref (a 15)) (C := RX4) (T := TX4) (N := 12) hx hb hts mX4_copyT_inX4 hown hB.1 hP 11 xT_c11 rfl 8 (by decide) (hts _ mX4_copyT_9) (fun _ h9 => h9) rfl dX4_copy_89 ?_
      refine lv_iload_n hx hb dX4_copy_92 rfl (lv_at hl 2 rfl) ?_
      refine xw_iald hx hb hB hP 15 xT_c15 h.1 dX4_copy_93 (fun v31 ev31 => ?_)
      have h := h.2 v31 ev31
      refine xw_iast hx hb hB hP hD hS 5 xT_c5 h.1 xT_f5 dX4_copy_94 (fun H locs hP hD hS => ?_)
      have h := h.2
      obtain ⟨F32, eF32⟩ : ∃ f : xw_F, f = xw_up F30 5 (upd (F30 5) y2.toNatClampNeg v31) := ⟨_, rfl⟩
      rw [← eF32] at hP hD
      have h := h F32 eF32
      refine lv_aload_n hx hb dX4_copy_95 rfl (lv_at hl 0 rfl) ?_
      refine va_get (D := D) (ci := 4) (v := .ref (a 8)) (C := RX4) (T := TX4) (N := 12) hx hb hts mX4_copyT_inX4 hown hB.1 hP 1 xT_c1 rfl 11 (by decide) (hts _ mX4_copyT_10) (fun _ h9 => h9) rfl dX4_copy_96 ?_
      refine lv_iload_n hx hb dX4_copy_99 rfl (lv_at hl 2 rfl) ?_
      refine lv_aload_n hx hb dX4_copy_100 rfl (lv_at hl 1 rfl) ?_
      refine va_get (D := D) (ci := 4) (v := .ref (a 18)) (C := RX4) (T := TX4) (N := 12) hx hb hts mX4_copyT_inX4 hown hB.1 hP 11 xT_c11 rfl 11 (by decide) (hts _ mX4_copyT_10) (fun _ h9 => h9) rfl dX4_copy_101 ?_
      refine lv_iload_n hx hb dX4_copy_104 rfl (lv_at hl 2 rfl) ?_
      refine xw_iald hx hb hB hP 18 xT_c18 h.1 dX4_copy_105 (fun v33 ev33 => ?_)
      have h := h.2 v33 ev33
      refine xw_iast hx hb hB hP hD hS 8 xT_c8 h.1 xT_f8 dX4_copy_106 (fun H locs hP hD hS => ?_)
      have h := h.2
      obtain ⟨F34, eF34⟩ : ∃ f : xw_F, f = xw_up F32 8 (upd (F32 8) y2.toNatClampNeg v33) := ⟨_, rfl⟩
      rw [← eF34] at hP hD
      have h := h F34 eF34
      obtain ⟨v35, ev35⟩ : ∃ y : Int32, y = y2 + 1 := ⟨_, rfl⟩
      have h := h v35 ev35
      refine lv_iinc (v := v35) (lv' := [(2, .int v35), (0, .ref (a 1)), (1, .ref (a 11))]) hx hb dX4_copy_107 hl (k := 2) rfl (by rw [ev35]; rfl) (by decide) rfl (fun ls hl => ?_)
      refine lv_goto (tgt := 42) hx hb dX4_copy_110 (by decide) ?_
      exact (hWW _ _ _).mp (el42 _ _ _ _ h _ _ ls hP hD hS (lv_sub hl [1, 2, 0] rfl))
  have rl115 : ∀ (y2 : Int32) (I : xw_I) (F : xw_F) (G : xw_G), (bd_X4_copyT_115 post k42 k115 y2 I F G) → k115 y2 I F G := by
    intro y2 I F G h
    refine mk115 _ _ _ _ ?_
    intro H locs ls hP hD hS hl
    refine (hWW _ _ _).mpr ?_
    unfold bd_X4_copyT_115 at h
    refine lv_iload_n hx hb dX4_copy_115 rfl (lv_at hl 2 rfl) ?_
    refine lv_iconst (v := 3) hx hb dX4_copy_116 (by decide) ?_
    refine lv_icmp_ge (tgt := 150) hx hb dX4_copy_117 (by decide) (fun c36 => ?_) (fun c36 => ?_)
    · have h := h.1 c36
      exact xw_wretv hx hb hr hlocks hP hD hS h dX4_copy_150
    · have h := h.2 c36
      refine lv_aload_n hx hb dX4_copy_120 rfl (lv_at hl 0 rfl) ?_
      refine va_get (D := D) (ci := 4) (v := .ref (a 6)) (C := RX4) (T := TX4) (N := 12) hx hb hts mX4_copyT_inX4 hown hB.1 hP 1 xT_c1 rfl 9 (by decide) (hts _ mX4_copyT_11) (fun _ h9 => h9) rfl dX4_copy_121 ?_
      refine lv_iload_n hx hb dX4_copy_124 rfl (lv_at hl 2 rfl) ?_
      refine lv_aload_n hx hb dX4_copy_125 rfl (lv_at hl 1 rfl) ?_
      refine va_get (D := D) (ci := 4) (v := .ref (a 16)) (C := RX4) (T := TX4) (N := 12) hx hb hts mX4_copyT_inX4 hown hB.1 hP 11 xT_c11 rfl 9 (by decide) (hts _ mX4_copyT_11) (fun _ h9 => h9) rfl dX4_copy_126 ?_
      refine lv_iload_n hx hb dX4_copy_129 rfl (lv_at hl 2 rfl) ?_
      refine xw_iald hx hb hB hP 16 xT_c16 h.1 dX4_copy_130 (fun v37 ev37 => ?_)
      have h := h.2 v37 ev37
      refine xw_iast hx hb hB hP hD hS 6 xT_c6 h.1 xT_f6 dX4_copy_131 (fun H locs hP hD hS => ?_)
      have h := h.2
      obtain ⟨F38, eF38⟩ : ∃ f : xw_F, f = xw_up F 6 (upd (F 6) y2.toNatClampNeg v37) := ⟨_, rfl⟩
      rw [← eF38] at hP hD
      have h := h F38 eF38
      refine lv_aload_n hx hb dX4_copy_132 rfl (lv_at hl 0 rfl) ?_
      refine va_get (D := D) (ci := 4) (v := .ref (a 7)) (C := RX4) (T := TX4) (N := 12) hx hb hts mX4_copyT_inX4 hown hB.1 hP 1 xT_c1 rfl 10 (by decide) (hts _ mX4_copyT_12) (fun _ h9 => h9) rfl dX4_copy_133 ?_
      refine lv_iload_n hx hb dX4_copy_136 rfl (lv_at hl 2 rfl) ?_
      refine lv_aload_n hx hb dX4_copy_137 rfl (lv_at hl 1 rfl) ?_
      refine va_get (D := D) (ci := 4) (v := .ref (a 17)) (C := RX4) (T := TX4) (N := 12) hx hb hts mX4_copyT_inX4 hown hB.1 hP 11 xT_c11 rfl 10 (by decide) (hts _ mX4_copyT_12) (fun _ h9 => h9) rfl dX4_copy_138 ?_
      refine lv_iload_n hx hb dX4_copy_141 rfl (lv_at hl 2 rfl) ?_
      refine xw_iald hx hb hB hP 17 xT_c17 h.1 dX4_copy_142 (fun v39 ev39 => ?_)
      have h := h.2 v39 ev39
      refine xw_iast hx hb hB hP hD hS 7 xT_c7 h.1 xT_f7 dX4_copy_143 (fun H locs hP hD hS => ?_)
      have h := h.2
      obtain ⟨F40, eF40⟩ : ∃ f : xw_F, f = xw_up F38 7 (upd (F38 7) y2.toNatClampNeg v39) := ⟨_, rfl⟩
      rw [← eF40] at hP hD
      have h := h F40 eF40
      obtain ⟨v41, ev41⟩ : ∃ y : Int32, y = y2 + 1 := ⟨_, rfl⟩
      have h := h v41 ev41
      refine lv_iinc (v := v41) (lv' := [(2, .int v41), (0, .ref (a 1)), (1, .ref (a 11))]) hx hb dX4_copy_144 hl (k := 2) rfl (by rw [ev41]; rfl) (by decide) rfl (fun ls hl => ?_)
      refine lv_goto (tgt := 115) hx hb dX4_copy_147 (by decide) ?_
      exact (hWW _ _ _).mp (el115 _ _ _ _ h _ _ ls hP hD hS (lv_sub hl [1, 2, 0] rfl))
  have h := h k42 k115 rl42 rl115
  unfold bd_X4_copyT_0 at h
  refine lv_aload_n hx hb dX4_copy_0 rfl (lv_at hl 0 rfl) ?_
  refine lv_aload_n hx hb dX4_copy_1 rfl (lv_at hl 1 rfl) ?_
  refine va_get (D := D) (ci := 4) (v := .int (I 6)) (C := RX4) (T := TX4) (N := 12) hx hb hts mX4_copyT_inX4 hown hB.1 hP 11 xT_c11 rfl 0 (by decide) (hts _ mX4_copyT_1) (fun _ h9 => h9) rfl dX4_copy_2 ?_
  refine xw_put (D := D) (ci := 4) (v := .int (I 6)) (ty := .int) (C := RX4) (T := TX4) (N := 12) hx hb hts mX4_copyT_inX4 tyX4 tyX4_ok nmX4 hown hB hP hD hS 1 xT_c1 rfl 0 (by decide) (hts _ mX4_copyT_1) (fun _ h9 => h9) rfl (by decide +kernel) rfl rfl (Nat.le_of_ble_eq_true rfl) xT_i0 dX4_copy_5 (fun H locs hP hD hS => ?_)
  obtain ⟨I19, eI19⟩ : ∃ f : xw_I, f = xw_up I 0 (I 6) := ⟨_, rfl⟩
  rw [← eI19] at hP hD
  have h := h I19 eI19
  refine lv_aload_n hx hb dX4_copy_8 rfl (lv_at hl 0 rfl) ?_
  refine lv_aload_n hx hb dX4_copy_9 rfl (lv_at hl 1 rfl) ?_
  refine va_get (D := D) (ci := 4) (v := .int (I19 7)) (C := RX4) (T := TX4) (N := 12) hx hb hts mX4_copyT_inX4 hown hB.1 hP 11 xT_c11 rfl 1 (by decide) (hts _ mX4_copyT_2) (fun _ h9 => h9) rfl dX4_copy_10 ?_
  refine xw_put (D := D) (ci := 4) (v := .int (I19 7)) (ty := .int) (C := RX4) (T := TX4) (N := 12) hx hb hts mX4_copyT_inX4 tyX4 tyX4_ok nmX4 hown hB hP hD hS 1 xT_c1 rfl 1 (by decide) (hts _ mX4_copyT_2) (fun _ h9 => h9) rfl (by decide +kernel) rfl rfl (Nat.le_of_ble_eq_true rfl) xT_i1 dX4_copy_13 (fun H locs hP hD hS => ?_)
  obtain ⟨I20, eI20⟩ : ∃ f : xw_I, f = xw_up I19 1 (I19 7) := ⟨_, rfl⟩
  rw [← eI20] at hP hD
  have h := h I20 eI20
  refine lv_aload_n hx hb dX4_copy_16 rfl (lv_at hl 0 rfl) ?_
  refine lv_aload_n hx hb dX4_copy_17 rfl (lv_at hl 1 rfl) ?_
  refine va_get (D := D) (ci := 4) (v := .int (I20 8)) (C := RX4) (T := TX4) (N := 12) hx hb hts mX4_copyT_inX4 hown hB.1 hP 11 xT_c11 rfl 2 (by decide) (hts _ mX4_copyT_3) (fun _ h9 => h9) rfl dX4_copy_18 ?_
  refine xw_put (D := D) (ci := 4) (v := .int (I20 8)) (ty := .int) (C := RX4) (T := TX4) (N := 12) hx hb hts mX4_copyT_inX4 tyX4 tyX4_ok nmX4 hown hB hP hD hS 1 xT_c1 rfl 2 (by decide) (hts _ mX4_copyT_3) (fun _ h9 => h9) rfl (by decide +kernel) rfl rfl (Nat.le_of_ble_eq_true rfl) xT_i2 dX4_copy_21 (fun H locs hP hD hS => ?_)
  obtain ⟨I21, eI21⟩ : ∃ f : xw_I, f = xw_up I20 2 (I20 8) := ⟨_, rfl⟩
  rw [← eI21] at hP hD
  have h := h I21 eI21
  refine lv_aload_n hx hb dX4_copy_24 rfl (lv_at hl 0 rfl) ?_
  refine lv_aload_n hx hb dX4_copy_25 rfl (lv_at hl 1 rfl) ?_
  refine va_get (D := D) (ci := 4) (v := .int (I21 9)) (C := RX4) (T := TX4) (N := 12) hx hb hts mX4_copyT_inX4 hown hB.1 hP 11 xT_c11 rfl 3 (by decide) (hts _ mX4_copyT_4) (fun _ h9 => h9) rfl dX4_copy_26 ?_
  refine xw_put (D := D) (ci := 4) (v := .int (I21 9)) (ty := .int) (C := RX4) (T := TX4) (N := 12) hx hb hts mX4_copyT_inX4 tyX4 tyX4_ok nmX4 hown hB hP hD hS 1 xT_c1 rfl 3 (by decide) (hts _ mX4_copyT_4) (fun _ h9 => h9) rfl (by decide +kernel) rfl rfl (Nat.le_of_ble_eq_true rfl) xT_i3 dX4_copy_29 (fun H locs hP hD hS => ?_)
  obtain ⟨I22, eI22⟩ : ∃ f : xw_I, f = xw_up I21 3 (I21 9) := ⟨_, rfl⟩
  rw [← eI22] at hP hD
  have h := h I22 eI22
  refine lv_aload_n hx hb dX4_copy_32 rfl (lv_at hl 0 rfl) ?_
  refine lv_aload_n hx hb dX4_copy_33 rfl (lv_at hl 1 rfl) ?_
  refine va_get (D := D) (ci := 4) (v := .int (I22 10)) (C := RX4) (T := TX4) (N := 12) hx hb hts mX4_copyT_inX4 hown hB.1 hP 11 xT_c11 rfl 4 (by decide) (hts _ mX4_copyT_5) (fun _ h9 => h9) rfl dX4_copy_34 ?_
  refine xw_put (D := D) (ci := 4) (v := .int (I22 10)) (ty := .int) (C := RX4) (T := TX4) (N := 12) hx hb hts mX4_copyT_inX4 tyX4 tyX4_ok nmX4 hown hB hP hD hS 1 xT_c1 rfl 4 (by decide) (hts _ mX4_copyT_5) (fun _ h9 => h9) rfl (by decide +kernel) rfl rfl (Nat.le_of_ble_eq_true rfl) xT_i4 dX4_copy_37 (fun H locs hP hD hS => ?_)
  obtain ⟨I23, eI23⟩ : ∃ f : xw_I, f = xw_up I22 4 (I22 10) := ⟨_, rfl⟩
  rw [← eI23] at hP hD
  have h := h I23 eI23
  refine lv_iconst (v := 0) hx hb dX4_copy_40 (by decide) ?_
  refine lv_istore_n (lv' := [(2, .int (0 : Int32)), (0, .ref (a 1)), (1, .ref (a 11))]) hx hb dX4_copy_41 rfl hl (by decide) rfl (fun ls hl => ?_)
  exact (hWW _ _ _).mp (el42 _ _ _ _ h _ _ ls hP hD hS (lv_sub hl [1, 2, 0] rfl))

theorem mX3_copyT_1 : Cond.fieldLink RX3 12 "TagCarrier$Sentences" "source" "LTagCarrier$Source;" ∈ wsX3_copy := List.mem_of_getElem? (i := 1) rfl
theorem mX3_copyT_inX3 : ∀ w ∈ u_ws RX3 TX3 3, w ∈ wsX3_copy := by decide +kernel
theorem mX3_copyT_2 : Cond.fieldLink RX3 26 "TagCarrier$Sentences" "targetWords" "I" ∈ wsX3_copy := List.mem_of_getElem? (i := 2) rfl
theorem mX3_copyT_3 : Cond.fieldLink RX3 18 "TagCarrier$Sentences" "links" "[I" ∈ wsX3_copy := List.mem_of_getElem? (i := 3) rfl
set_option maxHeartbeats 4000000 in
set_option maxRecDepth 100000 in
theorem c_X3_copyT (l : Launch) (D : va_G) (cy : Nat → ClassId) (a : Nat → Nat) (I : xw_I) (F : xw_F) (G : xw_G) (post : xw_I → xw_F → xw_G → Prop) (h : sm_X3_copyT I F G post) : xw_Wv l yX3_copy wsX3_copy ({ frames := 1, cells := 0, slots := 0, locals := 22 }) D cy [.ref (a 0), .ref (a 10)] (xT_w cy a I F G) (xT_w cy a) post := by
  intro A
  refine Met.ofW (cc := cX3_copy) (maxL := 3) (ret := none) (by decide) rfl ?_
  intro p e s m args below meth c s₁ B hml hv
  obtain ⟨rfl, hP, hB, hD⟩ := hv
  have hP : va_P D vwCl (xT_w cy a I F G) s.heap := hP
  have hx := B.exec
  have hb := B.bytes
  have hr := B.returns
  have hts := atoms_spec (ws := wsX3_copy) B.pre
  have hown : s.vm.findClass RX3 = some m.cls := findClass_of_methodNamed B.named
  have hlocks := B.notSynchronized
  have hS : va_S A s.heap s.heap [] := va_S.rf
  refine xw_go (fun WW hWW => ?_)
  have hl := lv_entry ([.ref (a 0), .ref (a 10)]) (n := 3) (Nat.le_of_ble_eq_true rfl)
  rw [lg_entry_eq]
  generalize (lg_sl ([.ref (a 0), .ref (a 10)]) ++ List.replicate (3 - (lg_sl ([.ref (a 0), .ref (a 10)])).length) Slot.unset).toArray = ls at hl ⊢
  have hl : lv_has ls 3 [(0, .ref (a 0)), (1, .ref (a 10))] := hl
  obtain ⟨k21, mk21, el21⟩ : ∃ K : Int32 → xw_I → xw_F → xw_G → Prop, (∀ (y2 : Int32) (I : xw_I) (F : xw_F) (G : xw_G), (∀ (H : Heap) (locs : List Loc) (ls : Array Slot), va_P D vwCl (xT_w cy a I F G) H → va_D A (xT_w cy a I F G) → va_S A s.heap H locs → lv_has ls 3 [(0, .ref (a 0)), (1, .ref (a 10)), (2, .int y2)] → WW H locs (F0 m 21 ls [])) → K y2 I F G) ∧ (∀ (y2 : Int32) (I : xw_I) (F : xw_F) (G : xw_G), K y2 I F G → (∀ (H : Heap) (locs : List Loc) (ls : Array Slot), va_P D vwCl (xT_w cy a I F G) H → va_D A (xT_w cy a I F G) → va_S A s.heap H locs → lv_has ls 3 [(0, .ref (a 0)), (1, .ref (a 10)), (2, .int y2)] → WW H locs (F0 m 21 ls []))) := ⟨fun (y2 : Int32) (I : xw_I) (F : xw_F) (G : xw_G) => (∀ (H : Heap) (locs : List Loc) (ls : Array Slot), va_P D vwCl (xT_w cy a I F G) H → va_D A (xT_w cy a I F G) → va_S A s.heap H locs → lv_has ls 3 [(0, .ref (a 0)), (1, .ref (a 10)), (2, .int y2)] → WW H locs (F0 m 21 ls [])), fun _ _ _ _ h => h, fun _ _ _ _ h => h⟩
  have rl21 : ∀ (y2 : Int32) (I : xw_I) (F : xw_F) (G : xw_G), (bd_X3_copyT_21 post k21 y2 I F G) → k21 y2 I F G := by
    intro y2 I F G h
    refine mk21 _ _ _ _ ?_
    intro H locs ls hP hD hS hl
    refine (hWW _ _ _).mpr ?_
    unfold bd_X3_copyT_21 at h
    refine lv_iload_n hx hb dX3_copy_21 rfl (lv_at hl 2 rfl) ?_
    refine lv_bipush (v := 12) hx hb dX3_copy_22 (by decide) ?_
    refine lv_icmp_ge (tgt := 45) hx hb dX3_copy_24 (by decide) (fun c7 => ?_) (fun c7 => ?_)
    · have h := h.1 c7
      exact xw_wretv hx hb hr hlocks hP hD hS h dX3_copy_45
    · have h := h.2 c7
      refine lv_aload_n hx hb dX3_copy_27 rfl (lv_at hl 0 rfl) ?_
      refine va_get (D := D) (ci := 3) (v := .ref (a 9)) (C := RX3) (T := TX3) (N := 3) hx hb hts mX3_copyT_inX3 hown hB.1 hP 0 xT_c0 rfl 1 (by decide) (hts _ mX3_copyT_3) (fun _ h9 => h9) rfl dX3_copy_28 ?_
      refine lv_iload_n hx hb dX3_copy_31 rfl (lv_at hl 2 rfl) ?_
      refine lv_aload_n hx hb dX3_copy_32 rfl (lv_at hl 1 rfl) ?_
      refine va_get (D := D) (ci := 3) (v := .ref (a 19)) (C := RX3) (T := TX3) (N := 3) hx hb hts mX3_copyT_inX3 hown hB.1 hP 10 xT_c10 rfl 1 (by decide) (hts _ mX3_copyT_3) (fun _ h9 => h9) rfl dX3_copy_33 ?_
      refine lv_iload_n hx hb dX3_copy_36 rfl (lv_at hl 2 rfl) ?_
      refine xw_iald hx hb hB hP 19 xT_c19 h.1 dX3_copy_37 (fun v8 ev8 => ?_)
      have h := h.2 v8 ev8
      refine xw_iast hx hb hB hP hD hS 9 xT_c9 h.1 xT_f9 dX3_copy_38 (fun H locs hP hD hS => ?_)
      have h := h.2
      obtain ⟨F9, eF9⟩ : ∃ f : xw_F, f = xw_up F 9 (upd (F 9) y2.toNatClampNeg v8) := ⟨_, rfl⟩
      rw [← eF9] at hP hD
      have h := h F9 eF9
      obtain ⟨v10, ev10⟩ : ∃ y : Int32, y = y2 + 1 := ⟨_, rfl⟩
      have h := h v10 ev10
      refine lv_iinc (v := v10) (lv' := [(2, .int v10), (0, .ref (a 0)), (1, .ref (a 10))]) hx hb dX3_copy_39 hl (k := 2) rfl (by rw [ev10]; rfl) (by decide) rfl (fun ls hl => ?_)
      refine lv_goto (tgt := 21) hx hb dX3_copy_42 (by decide) ?_
      exact (hWW _ _ _).mp (el21 _ _ _ _ h _ _ ls hP hD hS (lv_sub hl [1, 2, 0] rfl))
  have h := h k21 rl21
  unfold bd_X3_copyT_0 at h
  refine lv_aload_n hx hb dX3_copy_0 rfl (lv_at hl 0 rfl) ?_
  refine va_get (D := D) (ci := 3) (v := .ref (a 1)) (C := RX3) (T := TX3) (N := 3) hx hb hts mX3_copyT_inX3 hown hB.1 hP 0 xT_c0 rfl 0 (by decide) (hts _ mX3_copyT_1) (fun _ h9 => h9) rfl dX3_copy_1 ?_
  refine lv_aload_n hx hb dX3_copy_4 rfl (lv_at hl 1 rfl) ?_
  refine va_get (D := D) (ci := 3) (v := .ref (a 11)) (C := RX3) (T := TX3) (N := 3) hx hb hts mX3_copyT_inX3 hown hB.1 hP 10 xT_c10 rfl 0 (by decide) (hts _ mX3_copyT_1) (fun _ h9 => h9) rfl dX3_copy_5 ?_
  refine xw_wv (va_runV (rm := { frames := 0, cells := 0, slots := 0, locals := 0 }) (As := [.ref (a 11)]) (rest := []) ⟨hx, hb, hml, hown, hts⟩ (c_X4_copyT l D cy a I F G _ h A) (cwV 1 hts gX3_copy_X4_copy rfl rfl rfl (by decide +kernel) ⟨Nat.le_of_ble_eq_true rfl, Nat.le_of_ble_eq_true rfl⟩) (xw_preV hB hP hD (ci := 4) rfl xT_c1) rfl rfl hl.1 rfl (lv_room (Nat.le_of_ble_eq_true rfl)) dX3_copy_8 ⟨Nat.le_of_ble_eq_true rfl, Nat.le_of_ble_eq_true rfl⟩) hS (fun I5 F5 G5 H locs h hP hD hS => ?_)
  refine lv_aload_n hx hb dX3_copy_11 rfl (lv_at hl 0 rfl) ?_
  refine lv_aload_n hx hb dX3_copy_12 rfl (lv_at hl 1 rfl) ?_
  refine va_get (D := D) (ci := 3) (v := .int (I5 11)) (C := RX3) (T := TX3) (N := 3) hx hb hts mX3_copyT_inX3 hown hB.1 hP 10 xT_c10 rfl 2 (by decide) (hts _ mX3_copyT_2) (fun _ h9 => h9) rfl dX3_copy_13 ?_
  refine xw_put (D := D) (ci := 3) (v := .int (I5 11)) (ty := .int) (C := RX3) (T := TX3) (N := 3) hx hb hts mX3_copyT_inX3 tyX3 tyX3_ok nmX3 hown hB hP hD hS 0 xT_c0 rfl 2 (by decide) (hts _ mX3_copyT_2) (fun _ h9 => h9) rfl (by decide +kernel) rfl rfl (Nat.le_of_ble_eq_true rfl) xT_i5 dX3_copy_16 (fun H locs hP hD hS => ?_)
  obtain ⟨I6, eI6⟩ : ∃ f : xw_I, f = xw_up I5 5 (I5 11) := ⟨_, rfl⟩
  rw [← eI6] at hP hD
  have h := h I6 eI6
  refine lv_iconst (v := 0) hx hb dX3_copy_19 (by decide) ?_
  refine lv_istore_n (lv' := [(2, .int (0 : Int32)), (0, .ref (a 0)), (1, .ref (a 10))]) hx hb dX3_copy_20 rfl hl (by decide) rfl (fun ls hl => ?_)
  exact (hWW _ _ _).mp (el21 _ _ _ _ h _ _ ls hP hD hS (lv_sub hl [1, 2, 0] rfl))

theorem mX7_load_1 : Cond.fieldLink RX7 12 "TagCarrier" "pad" "LTagCarrier$Pad;" ∈ wsX7_load := List.mem_of_getElem? (i := 1) rfl
theorem mX7_load_inX7 : ∀ w ∈ u_ws RX7 TX7 8, w ∈ wsX7_load := by decide +kernel
theorem mX7_load_2 : Cond.fieldLink RX7 19 "TagCarrier" "now" "LTagCarrier$Sentences;" ∈ wsX7_load := List.mem_of_getElem? (i := 2) rfl
theorem mX7_load_3 : Cond.fieldLink RX7 71 "TagCarrier$Sentences" "source" "LTagCarrier$Source;" ∈ wsX7_load := List.mem_of_getElem? (i := 3) rfl
theorem mX7_load_inX3 : ∀ w ∈ u_ws RX3 TX3 3, w ∈ wsX7_load := by decide +kernel
theorem mX7_load_4 : Cond.fieldLink RX7 75 "TagCarrier$Pad" "source" "LTagCarrier$Source;" ∈ wsX7_load := List.mem_of_getElem? (i := 4) rfl
theorem mX7_load_inX1 : ∀ w ∈ u_ws RX1 TX1 3, w ∈ wsX7_load := by decide +kernel
theorem mX7_load_5 : Cond.fieldLink RX7 63 "TagCarrier$Pad" "count" "I" ∈ wsX7_load := List.mem_of_getElem? (i := 5) rfl
theorem mX7_load_6 : Cond.fieldLink RX7 55 "TagCarrier" "stale" "Z" ∈ wsX7_load := List.mem_of_getElem? (i := 6) rfl
theorem mX7_load_7 : Cond.fieldLink RX7 85 "TagCarrier$Source" "words" "I" ∈ wsX7_load := List.mem_of_getElem? (i := 7) rfl
theorem mX7_load_inX4 : ∀ w ∈ u_ws RX4 TX4 12, w ∈ wsX7_load := by decide +kernel
set_option maxHeartbeats 4000000 in
set_option maxRecDepth 100000 in
theorem c_X7_load (l : Launch) (D : va_G) (cy : Nat → ClassId) (a : Nat → Nat) (I : xw_I) (F : xw_F) (G : xw_G) (post : Int32 → xw_I → xw_F → xw_G → Prop) (h : sm_X7_load I F G post) : xw_Wi l yX7_load wsX7_load ({ frames := 4, cells := 0, slots := 0, locals := 85 }) D cy [.ref (a 0)] (xC_w cy a I F G) (xC_w cy a) post := by
  intro A
  refine Met.ofW (cc := cX7_load) (maxL := 1) (ret := (some .int)) (by decide) rfl ?_
  intro p e s m args below meth c s₁ B hml hv
  obtain ⟨rfl, hP, hB, hD⟩ := hv
  have hP : va_P D vwCl (xC_w cy a I F G) s.heap := hP
  have hx := B.exec
  have hb := B.bytes
  have hr := B.returns
  have hts := atoms_spec (ws := wsX7_load) B.pre
  have hown : s.vm.findClass RX7 = some m.cls := findClass_of_methodNamed B.named
  have hlocks := B.notSynchronized
  have hS : va_S A s.heap s.heap [] := va_S.rf
  refine xw_go (fun WW hWW => ?_)
  have hl := lv_entry ([.ref (a 0)]) (n := 1) (Nat.le_of_ble_eq_true rfl)
  rw [lg_entry_eq]
  generalize (lg_sl ([.ref (a 0)]) ++ List.replicate (1 - (lg_sl ([.ref (a 0)])).length) Slot.unset).toArray = ls at hl ⊢
  have hl : lv_has ls 1 [(0, .ref (a 0))] := hl
  unfold sm_X7_load at h
  refine lv_aload_n hx hb dX7_load_0 rfl (lv_at hl 0 rfl) ?_
  refine va_get (D := D) (ci := 7) (v := .ref (a 1)) (C := RX7) (T := TX7) (N := 8) hx hb hts mX7_load_inX7 hown hB.1 hP 0 xC_c0 rfl 0 (by decide) (hts _ mX7_load_1) (fun _ h9 => h9) rfl dX7_load_1 ?_
  refine xw_wi (va_runV (rm := { frames := 3, cells := 0, slots := 0, locals := 64 }) (As := []) (rest := []) ⟨hx, hb, hml, hown, hts⟩ (c_X1_read l D cy a I F G _ h A) (cwV 0 hts gX7_load_X1_read rfl rfl rfl (by decide +kernel) ⟨Nat.le_of_ble_eq_true rfl, Nat.le_of_ble_eq_true rfl⟩) (xw_preV hB hP hD (ci := 1) rfl xC_c1) rfl rfl hl.1 rfl (lv_room (Nat.le_of_ble_eq_true rfl)) dX7_load_4 ⟨Nat.le_of_ble_eq_true rfl, Nat.le_of_ble_eq_true rfl⟩) hS (fun r2 I2 F2 G2 H locs h hP hD hS => ?_)
  refine lv_bipush (v := -6) hx hb dX7_load_7 (by decide) ?_
  refine lv_icmp_eq (tgt := 15) hx hb dX7_load_9 (by decide) (fun c3 => ?_) (fun c3 => ?_)
  · have h := h.1 c3
    refine lv_aload_n hx hb dX7_load_15 rfl (lv_at hl 0 rfl) ?_
    refine va_get (D := D) (ci := 7) (v := .ref (a 11)) (C := RX7) (T := TX7) (N := 8) hx hb hts mX7_load_inX7 hown hB.1 hP 0 xC_c0 rfl 1 (by decide) (hts _ mX7_load_2) (fun _ h9 => h9) rfl dX7_load_16 ?_
    refine va_get (D := D) (ci := 3) (v := .ref (a 12)) (C := RX3) (T := TX3) (N := 3) hx hb hts mX7_load_inX3 hown hB.1 hP 11 xC_c11 rfl 0 (by decide) (hts _ mX7_load_3) (fun _ h9 => h9) rfl dX7_load_19 ?_
    refine lv_aload_n hx hb dX7_load_22 rfl (lv_at hl 0 rfl) ?_
    refine va_get (D := D) (ci := 7) (v := .ref (a 1)) (C := RX7) (T := TX7) (N := 8) hx hb hts mX7_load_inX7 hown hB.1 hP 0 xC_c0 rfl 0 (by decide) (hts _ mX7_load_1) (fun _ h9 => h9) rfl dX7_load_23 ?_
    refine va_get (D := D) (ci := 1) (v := .ref (a 2)) (C := RX1) (T := TX1) (N := 3) hx hb hts mX7_load_inX1 hown hB.1 hP 1 xC_c1 rfl 0 (by decide) (hts _ mX7_load_4) (fun _ h9 => h9) rfl dX7_load_26 ?_
    refine xw_wv (va_runV (rm := { frames := 0, cells := 0, slots := 0, locals := 0 }) (As := [.ref (a 2)]) (rest := []) ⟨hx, hb, hml, hown, hts⟩ (c_X4_copyC l D cy a I2 F2 G2 _ h A) (cwV 1 hts gX7_load_X4_copy rfl rfl rfl (by decide +kernel) ⟨Nat.le_of_ble_eq_true rfl, Nat.le_of_ble_eq_true rfl⟩) (xw_preV hB hP hD (ci := 4) rfl xC_c12) rfl rfl hl.1 rfl (lv_room (Nat.le_of_ble_eq_true rfl)) dX7_load_29 ⟨Nat.le_of_ble_eq_true rfl, Nat.le_of_ble_eq_true rfl⟩) hS (fun I4 F4 G4 H locs h hP hD hS => ?_)
    refine lv_aload_n hx hb dX7_load_32 rfl (lv_at hl 0 rfl) ?_
    refine va_get (D := D) (ci := 7) (v := .ref (a 11)) (C := RX7) (T := TX7) (N := 8) hx hb hts mX7_load_inX7 hown hB.1 hP 0 xC_c0 rfl 1 (by decide) (hts _ mX7_load_2) (fun _ h9 => h9) rfl dX7_load_33 ?_
    refine xw_wv (va_runV (rm := { frames := 0, cells := 0, slots := 0, locals := 0 }) (As := []) (rest := []) ⟨hx, hb, hml, hown, hts⟩ (c_X3_dropLinks l D cy a I4 F4 G4 _ h A) (cwV 0 hts gX7_load_X3_dropLinks rfl rfl rfl (by decide +kernel) ⟨Nat.le_of_ble_eq_true rfl, Nat.le_of_ble_eq_true rfl⟩) (xw_preV hB hP hD (ci := 3) rfl xC_c11) rfl rfl hl.1 rfl (lv_room (Nat.le_of_ble_eq_true rfl)) dX7_load_36 ⟨Nat.le_of_ble_eq_true rfl, Nat.le_of_ble_eq_true rfl⟩) hS (fun I5 F5 G5 H locs h hP hD hS => ?_)
    refine lv_aload_n hx hb dX7_load_39 rfl (lv_at hl 0 rfl) ?_
    refine va_get (D := D) (ci := 7) (v := .ref (a 1)) (C := RX7) (T := TX7) (N := 8) hx hb hts mX7_load_inX7 hown hB.1 hP 0 xC_c0 rfl 0 (by decide) (hts _ mX7_load_1) (fun _ h9 => h9) rfl dX7_load_40 ?_
    refine lv_iconst (v := 0) hx hb dX7_load_43 (by decide) ?_
    refine xw_put (D := D) (ci := 1) (v := .int (0 : Int32)) (ty := .int) (C := RX1) (T := TX1) (N := 3) hx hb hts mX7_load_inX1 tyX1 tyX1_ok nmX1 hown hB hP hD hS 1 xC_c1 rfl 1 (by decide) (hts _ mX7_load_5) (fun _ h9 => h9) rfl (by decide +kernel) rfl rfl (Nat.le_of_ble_eq_true rfl) xC_i1 dX7_load_44 (fun H locs hP hD hS => ?_)
    obtain ⟨I6, eI6⟩ : ∃ f : xw_I, f = xw_up I5 1 (0 : Int32) := ⟨_, rfl⟩
    rw [← eI6] at hP hD
    have h := h I6 eI6
    refine lv_aload_n hx hb dX7_load_47 rfl (lv_at hl 0 rfl) ?_
    refine lv_iconst (v := 1) hx hb dX7_load_48 (by decide) ?_
    refine xw_put (D := D) (ci := 7) (v := .int (1 : Int32)) (ty := .boolean) (C := RX7) (T := TX7) (N := 8) hx hb hts mX7_load_inX7 tyX7 tyX7_ok nmX7 hown hB hP hD hS 0 xC_c0 rfl 7 (by decide) (hts _ mX7_load_6) (fun _ h9 => h9) rfl (by decide +kernel) rfl rfl (Nat.le_of_ble_eq_true rfl) xC_i0 dX7_load_49 (fun H locs hP hD hS => ?_)
    obtain ⟨I7, eI7⟩ : ∃ f : xw_I, f = xw_up I6 0 (1 : Int32) := ⟨_, rfl⟩
    rw [← eI7] at hP hD
    have h := h I7 eI7
    refine lv_aload_n hx hb dX7_load_52 rfl (lv_at hl 0 rfl) ?_
    refine va_get (D := D) (ci := 7) (v := .ref (a 11)) (C := RX7) (T := TX7) (N := 8) hx hb hts mX7_load_inX7 hown hB.1 hP 0 xC_c0 rfl 1 (by decide) (hts _ mX7_load_2) (fun _ h9 => h9) rfl dX7_load_53 ?_
    refine va_get (D := D) (ci := 3) (v := .ref (a 12)) (C := RX3) (T := TX3) (N := 3) hx hb hts mX7_load_inX3 hown hB.1 hP 11 xC_c11 rfl 0 (by decide) (hts _ mX7_load_3) (fun _ h9 => h9) rfl dX7_load_56 ?_
    refine va_get (D := D) (ci := 4) (v := .int (I7 7)) (C := RX4) (T := TX4) (N := 12) hx hb hts mX7_load_inX4 hown hB.1 hP 12 xC_c12 rfl 0 (by decide) (hts _ mX7_load_7) (fun _ h9 => h9) rfl dX7_load_59 ?_
    exact xw_wreti hx hb hr hlocks hP hD hS h dX7_load_62
  · have h := h.2 c3
    refine lv_bipush (v := -5) hx hb dX7_load_12 (by decide) ?_
    exact xw_wreti hx hb hr hlocks hP hD hS h dX7_load_14
