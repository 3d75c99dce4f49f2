def R_law : String := "TagCarrierLaw"
def lw_P (b : Addr) (xs : List Int32) (args : Array Value) (s : State) : Prop := args = #[.ref b] ∧ s.IntsAt b xs ∧ xs.length ≤ 1536 ∧ (Jvm.Cond.and given_1 narrow_1).before args s = true
def lw_Q (_ : Array Value) (s : State) (o : Outcome) (t : State) : Prop := o = .returned (some (.int 1)) ∧ Framed s o t [] 600000 7302250
def lw_Z (below : List Frame) (a : Array Value) (s : State) : State → Prop := fun t => ∃ o, t.status = .running ∧ Ended t below o ∧ lw_Q a s o t
/-- the law's own end, with 1 on the stack, nothing written that was there before, its room as the claim has it -/
theorem lw_ret {p : Program} {l : Launch} {e : Env} {s : State} {m : MethodId} {below : List Frame} {meth : Method} {c : Code} {b : Nat} (hx : p.tables.exec = Jvm.exec) (hb : c.code = code) (hr : meth.sig.returnType = ret) (hlocks : meth.locks = false) {pc : Nat} {H : Heap} {ls : Array Slot} (hdg : decode code pc = .ok (.ireturn, 1)) : W p l e room_1 s m #[Value.ref b] below meth c H [] 600000 7302250 (lw_Z below #[Value.ref b] s) (F0 m pc ls [.int 1]) := by
  intro T hT X
  obtain ⟨fs, hret, hrun, hended, hW, hframe⟩ := X.leave (v := some (.int 1)) (hlocks := hlocks) (fun h => by rw [hr] at h; cases h)
  have hmeth' : T.vm.method? m = some meth := X.method'
  refine ⟨T.setFrames fs, ?_, .returned (some (.int 1)), hrun, hended, rfl, ⟨_, rfl⟩, hW, hframe⟩
  jvm_step X.here [X.here.top, hx, hb, hdg, hmeth', hr, ret, narrow_b1]
  (try refine ⟨rfl, ?_⟩); (try refine ⟨rfl, ?_⟩)
  first | (intro acts; rw [hret _ acts rfl rfl rfl]) | rw [hret _ _ rfl rfl rfl]
  exact Steps.refl _
/-- what holds at the law's entry: the machine, the code, the tables' words (any of lw_tbl by 'hts w (by decide +kernel)'), the script of L ints xs at the cell b, what the Statement gives of the start (any of its parts by flat_of_before) -/
def lw_At (p : Program) (s : State) (m : MethodId) (meth : Method) (c : Code) (b L : Nat) (xs : Nat → Int32) : Prop :=
  p.tables.exec = Jvm.exec ∧ c.code = code ∧ meth.sig.returnType = ret ∧ c.maxLocals = 4 ∧ s.vm.findClass R_law = some m.cls ∧ (∀ w ∈ lw_tbl, w.before #[Value.ref b] s = true) ∧ va_X b L xs s s.heap ∧ b < s.heap.size ∧ meth.locks = false ∧ (Jvm.Cond.and given_1 narrow_1).before #[Value.ref b] s = true
/-! ===== the arms of the law's switch ===== -/
theorem xj_Dw {A : Nat → Prop} {ws : va_W} : va_D A ws ↔ ws.Pairwise (fun p q => p.1 ≠ q.1) ∧ ∀ q ∈ ws, A q.1 := by
  constructor
  · intro h
    refine ⟨List.pairwise_iff_getElem.mpr (fun i j hi hj hij e => ?_), fun q hq => ?_⟩
    · have := h.1 i j _ _ (List.getElem?_eq_getElem hi) (List.getElem?_eq_getElem hj) e
      omega
    · obtain ⟨k, hk⟩ := List.getElem?_of_mem hq
      exact h.2 k q hk
  · intro h
    refine ⟨fun i j p q hi hj e => ?_, fun k q hk => h.2 q (List.mem_of_getElem? hk)⟩
    obtain ⟨hi1, rfl⟩ := List.getElem?_eq_some_iff.mp hi
    obtain ⟨hj1, rfl⟩ := List.getElem?_eq_some_iff.mp hj
    have hw := List.pairwise_iff_getElem.mp h.1
    rcases Nat.lt_trichotomy i j with z | z | z
    · exact absurd e (hw i j hi1 hj1 z)
    · exact z
    · exact absurd e.symm (hw j i hj1 hi1 z)
theorem xj_Dp {A : Nat → Prop} {w1 w2 : va_W} (hp : w1.Perm w2) (h : va_D A w1) : va_D A w2 := by
  have h := xj_Dw.mp h
  exact xj_Dw.mpr ⟨(hp.pairwise_iff (fun z => Ne.symm z)).mp h.1, fun q hq => h.2 q (hp.mem_iff.mpr hq)⟩
theorem xj_Pp {D : va_G} {cl : List vw_C} {w1 w2 : va_W} {H : Heap} (hp : w1.Perm w2) (h : va_P D cl w1 H) : va_P D cl w2 H := fun k q hk => by
  obtain ⟨j, hj⟩ := List.getElem?_of_mem (hp.mem_iff.mpr (List.mem_of_getElem? hk))
  exact h j q hj
def xK_o (cy : Nat → ClassId) (b : Nat → Nat) (o : Option (xw_I × xw_F)) : va_W := match o with
  | none => []
  | some u => xK_w cy b u.1 u.2
def xz (o : Option (xw_I × xw_F)) : Nat := match o with
  | none => 1
  | some _ => 0
def xv_Y (cy : Nat → ClassId) (a : Nat → Nat) (f : Nat → Option Nat) (b : Nat → Nat → Nat) (kp : Nat → Option (xw_I × xw_F)) : va_W := xC_im cy a f :: (xK_o cy (b 0) (kp 0) ++ xK_o cy (b 1) (kp 1))
def xv_S (D : va_G) (cy : Nat → ClassId) (s : State) (a d : Nat → Nat) (kp : Nat → Option (xw_I × xw_F)) (f : Nat → Option Nat) (b : Nat → Nat → Nat) (I : xw_I) (F : xw_F) (G : xw_G) (J : xw_I) (K : xw_F) (L : xw_G) (H : Heap) (locs : List Loc) (cells slots : Nat) : Prop :=
  xr_A I F G kp J K ∧ (∀ n, n < 2 → f n = (kp n).map (fun _ => b n 0)) ∧ va_P D vwCl ((xC_w cy a I F G ++ xv_Y cy a f b kp) ++ xM_w cy d J K L) H ∧ va_D (fun q : Nat => s.heap.size ≤ q) ((xC_w cy a I F G ++ xv_Y cy a f b kp) ++ xM_w cy d J K L) ∧ va_S (fun q : Nat => s.heap.size ≤ q) s.heap H locs ∧ cells + 10 * (xz (kp 0) + xz (kp 1)) ≤ 100 ∧ slots + 58 * (xz (kp 0) + xz (kp 1)) ≤ 10000
def xv_at (p : Program) (l : Launch) (e : Env) (s : State) (m : MethodId) (below : List Frame) (meth : Method) (c : Code) (D : va_G) (cy : Nat → ClassId) (sb : Nat) (a d : Nat → Nat) (i pc : Nat) : Prop := ∀ (kp : Nat → Option (xw_I × xw_F)) (f : Nat → Option Nat) (b : Nat → Nat → Nat) (I : xw_I) (F : xw_F) (G : xw_G) (J : xw_I) (K : xw_F) (L : xw_G) (H : Heap) (locs : List Loc) (cells slots : Nat) (ls : Array Slot), xv_S D cy s a d kp f b I F G J K L H locs cells slots → lv_has ls 4 [(3, .int (nI i)), (2, .ref (d 0)), (1, .ref (a 0)), (0, .ref sb)] → W p l e room_1 s m #[Value.ref sb] below meth c H locs cells slots (lw_Z below #[Value.ref sb] s) (F0 m pc ls [])
theorem xv_p0 {C K0 K1 M : va_W} {im : Nat × va_E} : ((C ++ (im :: (K0 ++ K1))) ++ M).Perm ((C ++ (im :: K0)) ++ (K1 ++ M)) := by
  exact List.Perm.of_eq (by simp only [List.append_assoc, List.cons_append])
theorem xv_p1 {C K0 K1 M : va_W} {im : Nat × va_E} : ((C ++ (im :: (K0 ++ K1))) ++ M).Perm ((C ++ (im :: K1)) ++ (K0 ++ M)) := by
  simp only [List.append_assoc, List.cons_append]
  exact List.Perm.append_left C (List.Perm.cons im (List.perm_append_comm_assoc K0 K1 M))
theorem xv_hf {f : Nat → Option Nat} {kp : Nat → Option (xw_I × xw_F)} {b : Nat → Nat → Nat} {u : Nat → Nat} {v : xw_I × xw_F} {k : Nat} (_ : k < 2) (hf : ∀ n, n < 2 → f n = (kp n).map (fun _ => b n 0)) : ∀ n, n < 2 → va_up f k (some (u 0)) n = (xw_up kp k (some v) n).map (fun _ => xw_up b k u n 0) := by
  intro n hn
  by_cases h : n = k
  · subst h; rw [va_up_self, xw_ups, xw_ups]; rfl
  · rw [va_up_ne _ _ h, xw_upn h, xw_upn h]; exact hf n hn
theorem xv_hfS {f : Nat → Option Nat} {kp : Nat → Option (xw_I × xw_F)} {b : Nat → Nat → Nat} {v : xw_I × xw_F} {k : Nat} (_ : k < 2) (hk : f k = some (b k 0)) (hf : ∀ n, n < 2 → f n = (kp n).map (fun _ => b n 0)) : ∀ n, n < 2 → f n = (xw_up kp k (some v) n).map (fun _ => xw_up b k (b k) n 0) := by
  intro n hn
  by_cases h : n = k
  · subst h; rw [xw_ups, xw_ups, hk]; rfl
  · rw [xw_upn h, xw_upn h]; exact hf n hn
theorem xv_z0 {kp : Nat → Option (xw_I × xw_F)} {v : xw_I × xw_F} (h : kp 0 = none) : xz (xw_up kp 0 (some v) 0) + xz (xw_up kp 0 (some v) 1) + 1 = xz (kp 0) + xz (kp 1) := by
  rw [xw_ups, xw_upn (by decide), h]
  simp only [xz]
  try omega
theorem xv_zS0 {kp : Nat → Option (xw_I × xw_F)} {v : xw_I × xw_F} : xz (xw_up kp 0 (some v) 0) + xz (xw_up kp 0 (some v) 1) ≤ xz (kp 0) + xz (kp 1) := by
  rw [xw_ups, xw_upn (by decide)]
  simp only [xz]
  try omega
theorem xv_n0P {cy : Nat → ClassId} {a d : Nat → Nat} {I : xw_I} {F : xw_F} {G : xw_G} {f : Nat → Option Nat} {b : Nat → Nat → Nat} {kp : Nat → Option (xw_I × xw_F)} {J : xw_I} {K : xw_F} {L : xw_G} {D : va_G} {H : Heap} (h : kp 0 = none) (hw : va_P D vwCl (((xC_w cy a I F G ++ xv_Y cy a f b kp) ++ xM_w cy d J K L)) H) : va_P D vwCl ((xC_w cy a I F G ++ [xC_im cy a f]) ++ (xK_o cy (b 1) (kp 1) ++ xM_w cy d J K L)) H := by
  have hw := xj_Pp xv_p0 hw
  rw [(show xK_o cy (b 0) (kp 0) = [] by rw [h]; rfl)] at hw
  exact hw
theorem xv_m0P {cy : Nat → ClassId} {a d : Nat → Nat} {I : xw_I} {F : xw_F} {G : xw_G} {f : Nat → Option Nat} {b : Nat → Nat → Nat} {kp : Nat → Option (xw_I × xw_F)} {J : xw_I} {K : xw_F} {L : xw_G} {D : va_G} {H : Heap} (h : kp 0 = none) (hw : va_P D vwCl ((xC_w cy a I F G ++ [xC_im cy a f]) ++ (xK_o cy (b 1) (kp 1) ++ xM_w cy d J K L)) H) : va_P D vwCl (((xC_w cy a I F G ++ xv_Y cy a f b kp) ++ xM_w cy d J K L)) H := by
  refine xj_Pp xv_p0.symm ?_
  rw [(show xK_o cy (b 0) (kp 0) = [] by rw [h]; rfl)]
  exact hw
theorem xv_n0D {cy : Nat → ClassId} {a d : Nat → Nat} {I : xw_I} {F : xw_F} {G : xw_G} {f : Nat → Option Nat} {b : Nat → Nat → Nat} {kp : Nat → Option (xw_I × xw_F)} {J : xw_I} {K : xw_F} {L : xw_G} {A : Nat → Prop} (h : kp 0 = none) (hw : va_D A (((xC_w cy a I F G ++ xv_Y cy a f b kp) ++ xM_w cy d J K L))) : va_D A ((xC_w cy a I F G ++ [xC_im cy a f]) ++ (xK_o cy (b 1) (kp 1) ++ xM_w cy d J K L)) := by
  have hw := xj_Dp xv_p0 hw
  rw [(show xK_o cy (b 0) (kp 0) = [] by rw [h]; rfl)] at hw
  exact hw
theorem xv_m0D {cy : Nat → ClassId} {a d : Nat → Nat} {I : xw_I} {F : xw_F} {G : xw_G} {f : Nat → Option Nat} {b : Nat → Nat → Nat} {kp : Nat → Option (xw_I × xw_F)} {J : xw_I} {K : xw_F} {L : xw_G} {A : Nat → Prop} (h : kp 0 = none) (hw : va_D A ((xC_w cy a I F G ++ [xC_im cy a f]) ++ (xK_o cy (b 1) (kp 1) ++ xM_w cy d J K L))) : va_D A (((xC_w cy a I F G ++ xv_Y cy a f b kp) ++ xM_w cy d J K L)) := by
  refine xj_Dp xv_p0.symm ?_
  rw [(show xK_o cy (b 0) (kp 0) = [] by rw [h]; rfl)]
  exact hw
theorem xv_s0P {cy : Nat → ClassId} {a d : Nat → Nat} {I : xw_I} {F : xw_F} {G : xw_G} {f : Nat → Option Nat} {b : Nat → Nat → Nat} {kp : Nat → Option (xw_I × xw_F)} {J : xw_I} {K : xw_F} {L : xw_G} {D : va_G} {H : Heap} {i0 : xw_I} {r0 : xw_F} (h : kp 0 = some (i0, r0)) (hw : va_P D vwCl (((xC_w cy a I F G ++ xv_Y cy a f b kp) ++ xM_w cy d J K L)) H) : va_P D vwCl ((xC_w cy a I F G ++ (xC_im cy a f :: xK_w cy (b 0) i0 r0)) ++ (xK_o cy (b 1) (kp 1) ++ xM_w cy d J K L)) H := by
  have hw := xj_Pp xv_p0 hw
  rw [(show xK_o cy (b 0) (kp 0) = xK_w cy (b 0) i0 r0 by rw [h]; rfl)] at hw
  exact hw
theorem xv_t0P {cy : Nat → ClassId} {a d : Nat → Nat} {I : xw_I} {F : xw_F} {G : xw_G} {f : Nat → Option Nat} {b : Nat → Nat → Nat} {kp : Nat → Option (xw_I × xw_F)} {J : xw_I} {K : xw_F} {L : xw_G} {D : va_G} {H : Heap} {i0 : xw_I} {r0 : xw_F} (h : kp 0 = some (i0, r0)) (hw : va_P D vwCl ((xC_w cy a I F G ++ (xC_im cy a f :: xK_w cy (b 0) i0 r0)) ++ (xK_o cy (b 1) (kp 1) ++ xM_w cy d J K L)) H) : va_P D vwCl (((xC_w cy a I F G ++ xv_Y cy a f b kp) ++ xM_w cy d J K L)) H := by
  refine xj_Pp xv_p0.symm ?_
  rw [(show xK_o cy (b 0) (kp 0) = xK_w cy (b 0) i0 r0 by rw [h]; rfl)]
  exact hw
theorem xv_s0D {cy : Nat → ClassId} {a d : Nat → Nat} {I : xw_I} {F : xw_F} {G : xw_G} {f : Nat → Option Nat} {b : Nat → Nat → Nat} {kp : Nat → Option (xw_I × xw_F)} {J : xw_I} {K : xw_F} {L : xw_G} {A : Nat → Prop} {i0 : xw_I} {r0 : xw_F} (h : kp 0 = some (i0, r0)) (hw : va_D A (((xC_w cy a I F G ++ xv_Y cy a f b kp) ++ xM_w cy d J K L))) : va_D A ((xC_w cy a I F G ++ (xC_im cy a f :: xK_w cy (b 0) i0 r0)) ++ (xK_o cy (b 1) (kp 1) ++ xM_w cy d J K L)) := by
  have hw := xj_Dp xv_p0 hw
  rw [(show xK_o cy (b 0) (kp 0) = xK_w cy (b 0) i0 r0 by rw [h]; rfl)] at hw
  exact hw
theorem xv_t0D {cy : Nat → ClassId} {a d : Nat → Nat} {I : xw_I} {F : xw_F} {G : xw_G} {f : Nat → Option Nat} {b : Nat → Nat → Nat} {kp : Nat → Option (xw_I × xw_F)} {J : xw_I} {K : xw_F} {L : xw_G} {A : Nat → Prop} {i0 : xw_I} {r0 : xw_F} (h : kp 0 = some (i0, r0)) (hw : va_D A ((xC_w cy a I F G ++ (xC_im cy a f :: xK_w cy (b 0) i0 r0)) ++ (xK_o cy (b 1) (kp 1) ++ xM_w cy d J K L))) : va_D A (((xC_w cy a I F G ++ xv_Y cy a f b kp) ++ xM_w cy d J K L)) := by
  refine xj_Dp xv_p0.symm ?_
  rw [(show xK_o cy (b 0) (kp 0) = xK_w cy (b 0) i0 r0 by rw [h]; rfl)]
  exact hw
theorem xv_i0P {cy : Nat → ClassId} {a d : Nat → Nat} {I : xw_I} {F : xw_F} {G : xw_G} {f : Nat → Option Nat} {b : Nat → Nat → Nat} {kp : Nat → Option (xw_I × xw_F)} {J : xw_I} {K : xw_F} {L : xw_G} {D : va_G} {H : Heap} {u : Nat → Nat} {i1 : xw_I} {r1 : xw_F} (hw : va_P D vwCl ((xC_w cy a I F G ++ (xC_im cy a f :: xK_w cy u i1 r1)) ++ (xK_o cy (b 1) (kp 1) ++ xM_w cy d J K L)) H) : va_P D vwCl (((xC_w cy a I F G ++ xv_Y cy a f (xw_up b 0 u) (xw_up kp 0 (some (i1, r1)))) ++ xM_w cy d J K L)) H := by
  refine xj_Pp xv_p0.symm ?_
  rw [xw_ups, xw_ups, xw_upn (by decide), xw_upn (by decide)]
  exact hw
theorem xv_i0D {cy : Nat → ClassId} {a d : Nat → Nat} {I : xw_I} {F : xw_F} {G : xw_G} {f : Nat → Option Nat} {b : Nat → Nat → Nat} {kp : Nat → Option (xw_I × xw_F)} {J : xw_I} {K : xw_F} {L : xw_G} {A : Nat → Prop} {u : Nat → Nat} {i1 : xw_I} {r1 : xw_F} (hw : va_D A ((xC_w cy a I F G ++ (xC_im cy a f :: xK_w cy u i1 r1)) ++ (xK_o cy (b 1) (kp 1) ++ xM_w cy d J K L))) : va_D A (((xC_w cy a I F G ++ xv_Y cy a f (xw_up b 0 u) (xw_up kp 0 (some (i1, r1)))) ++ xM_w cy d J K L)) := by
  refine xj_Dp xv_p0.symm ?_
  rw [xw_ups, xw_ups, xw_upn (by decide), xw_upn (by decide)]
  exact hw
theorem xv_z1 {kp : Nat → Option (xw_I × xw_F)} {v : xw_I × xw_F} (h : kp 1 = none) : xz (xw_up kp 1 (some v) 0) + xz (xw_up kp 1 (some v) 1) + 1 = xz (kp 0) + xz (kp 1) := by
  rw [xw_ups, xw_upn (by decide), h]
  simp only [xz]
  try omega
theorem xv_zS1 {kp : Nat → Option (xw_I × xw_F)} {v : xw_I × xw_F} : xz (xw_up kp 1 (some v) 0) + xz (xw_up kp 1 (some v) 1) ≤ xz (kp 0) + xz (kp 1) := by
  rw [xw_ups, xw_upn (by decide)]
  simp only [xz]
  try omega
theorem xv_n1P {cy : Nat → ClassId} {a d : Nat → Nat} {I : xw_I} {F : xw_F} {G : xw_G} {f : Nat → Option Nat} {b : Nat → Nat → Nat} {kp : Nat → Option (xw_I × xw_F)} {J : xw_I} {K : xw_F} {L : xw_G} {D : va_G} {H : Heap} (h : kp 1 = none) (hw : va_P D vwCl (((xC_w cy a I F G ++ xv_Y cy a f b kp) ++ xM_w cy d J K L)) H) : va_P D vwCl ((xC_w cy a I F G ++ [xC_im cy a f]) ++ (xK_o cy (b 0) (kp 0) ++ xM_w cy d J K L)) H := by
  have hw := xj_Pp xv_p1 hw
  rw [(show xK_o cy (b 1) (kp 1) = [] by rw [h]; rfl)] at hw
  exact hw
theorem xv_m1P {cy : Nat → ClassId} {a d : Nat → Nat} {I : xw_I} {F : xw_F} {G : xw_G} {f : Nat → Option Nat} {b : Nat → Nat → Nat} {kp : Nat → Option (xw_I × xw_F)} {J : xw_I} {K : xw_F} {L : xw_G} {D : va_G} {H : Heap} (h : kp 1 = none) (hw : va_P D vwCl ((xC_w cy a I F G ++ [xC_im cy a f]) ++ (xK_o cy (b 0) (kp 0) ++ xM_w cy d J K L)) H) : va_P D vwCl (((xC_w cy a I F G ++ xv_Y cy a f b kp) ++ xM_w cy d J K L)) H := by
  refine xj_Pp xv_p1.symm ?_
  rw [(show xK_o cy (b 1) (kp 1) = [] by rw [h]; rfl)]
  exact hw
theorem xv_n1D {cy : Nat → ClassId} {a d : Nat → Nat} {I : xw_I} {F : xw_F} {G : xw_G} {f : Nat → Option Nat} {b : Nat → Nat → Nat} {kp : Nat → Option (xw_I × xw_F)} {J : xw_I} {K : xw_F} {L : xw_G} {A : Nat → Prop} (h : kp 1 = none) (hw : va_D A (((xC_w cy a I F G ++ xv_Y cy a f b kp) ++ xM_w cy d J K L))) : va_D A ((xC_w cy a I F G ++ [xC_im cy a f]) ++ (xK_o cy (b 0) (kp 0) ++ xM_w cy d J K L)) := by
  have hw := xj_Dp xv_p1 hw
  rw [(show xK_o cy (b 1) (kp 1) = [] by rw [h]; rfl)] at hw
  exact hw
theorem xv_m1D {cy : Nat → ClassId} {a d : Nat → Nat} {I : xw_I} {F : xw_F} {G : xw_G} {f : Nat → Option Nat} {b : Nat → Nat → Nat} {kp : Nat → Option (xw_I × xw_F)} {J : xw_I} {K : xw_F} {L : xw_G} {A : Nat → Prop} (h : kp 1 = none) (hw : va_D A ((xC_w cy a I F G ++ [xC_im cy a f]) ++ (xK_o cy (b 0) (kp 0) ++ xM_w cy d J K L))) : va_D A (((xC_w cy a I F G ++ xv_Y cy a f b kp) ++ xM_w cy d J K L)) := by
  refine xj_Dp xv_p1.symm ?_
  rw [(show xK_o cy (b 1) (kp 1) = [] by rw [h]; rfl)]
  exact hw
theorem xv_s1P {cy : Nat → ClassId} {a d : Nat → Nat} {I : xw_I} {F : xw_F} {G : xw_G} {f : Nat → Option Nat} {b : Nat → Nat → Nat} {kp : Nat → Option (xw_I × xw_F)} {J : xw_I} {K : xw_F} {L : xw_G} {D : va_G} {H : Heap} {i0 : xw_I} {r0 : xw_F} (h : kp 1 = some (i0, r0)) (hw : va_P D vwCl (((xC_w cy a I F G ++ xv_Y cy a f b kp) ++ xM_w cy d J K L)) H) : va_P D vwCl ((xC_w cy a I F G ++ (xC_im cy a f :: xK_w cy (b 1) i0 r0)) ++ (xK_o cy (b 0) (kp 0) ++ xM_w cy d J K L)) H := by
  have hw := xj_Pp xv_p1 hw
  rw [(show xK_o cy (b 1) (kp 1) = xK_w cy (b 1) i0 r0 by rw [h]; rfl)] at hw
  exact hw
theorem xv_t1P {cy : Nat → ClassId} {a d : Nat → Nat} {I : xw_I} {F : xw_F} {G : xw_G} {f : Nat → Option Nat} {b : Nat → Nat → Nat} {kp : Nat → Option (xw_I × xw_F)} {J : xw_I} {K : xw_F} {L : xw_G} {D : va_G} {H : Heap} {i0 : xw_I} {r0 : xw_F} (h : kp 1 = some (i0, r0)) (hw : va_P D vwCl ((xC_w cy a I F G ++ (xC_im cy a f :: xK_w cy (b 1) i0 r0)) ++ (xK_o cy (b 0) (kp 0) ++ xM_w cy d J K L)) H) : va_P D vwCl (((xC_w cy a I F G ++ xv_Y cy a f b kp) ++ xM_w cy d J K L)) H := by
  refine xj_Pp xv_p1.symm ?_
  rw [(show xK_o cy (b 1) (kp 1) = xK_w cy (b 1) i0 r0 by rw [h]; rfl)]
  exact hw
theorem xv_s1D {cy : Nat → ClassId} {a d : Nat → Nat} {I : xw_I} {F : xw_F} {G : xw_G} {f : Nat → Option Nat} {b : Nat → Nat → Nat} {kp : Nat → Option (xw_I × xw_F)} {J : xw_I} {K : xw_F} {L : xw_G} {A : Nat → Prop} {i0 : xw_I} {r0 : xw_F} (h : kp 1 = some (i0, r0)) (hw : va_D A (((xC_w cy a I F G ++ xv_Y cy a f b kp) ++ xM_w cy d J K L))) : va_D A ((xC_w cy a I F G ++ (xC_im cy a f :: xK_w cy (b 1) i0 r0)) ++ (xK_o cy (b 0) (kp 0) ++ xM_w cy d J K L)) := by
  have hw := xj_Dp xv_p1 hw
  rw [(show xK_o cy (b 1) (kp 1) = xK_w cy (b 1) i0 r0 by rw [h]; rfl)] at hw
  exact hw
theorem xv_t1D {cy : Nat → ClassId} {a d : Nat → Nat} {I : xw_I} {F : xw_F} {G : xw_G} {f : Nat → Option Nat} {b : Nat → Nat → Nat} {kp : Nat → Option (xw_I × xw_F)} {J : xw_I} {K : xw_F} {L : xw_G} {A : Nat → Prop} {i0 : xw_I} {r0 : xw_F} (h : kp 1 = some (i0, r0)) (hw : va_D A ((xC_w cy a I F G ++ (xC_im cy a f :: xK_w cy (b 1) i0 r0)) ++ (xK_o cy (b 0) (kp 0) ++ xM_w cy d J K L))) : va_D A (((xC_w cy a I F G ++ xv_Y cy a f b kp) ++ xM_w cy d J K L)) := by
  refine xj_Dp xv_p1.symm ?_
  rw [(show xK_o cy (b 1) (kp 1) = xK_w cy (b 1) i0 r0 by rw [h]; rfl)]
  exact hw
theorem xv_i1P {cy : Nat → ClassId} {a d : Nat → Nat} {I : xw_I} {F : xw_F} {G : xw_G} {f : Nat → Option Nat} {b : Nat → Nat → Nat} {kp : Nat → Option (xw_I × xw_F)} {J : xw_I} {K : xw_F} {L : xw_G} {D : va_G} {H : Heap} {u : Nat → Nat} {i1 : xw_I} {r1 : xw_F} (hw : va_P D vwCl ((xC_w cy a I F G ++ (xC_im cy a f :: xK_w cy u i1 r1)) ++ (xK_o cy (b 0) (kp 0) ++ xM_w cy d J K L)) H) : va_P D vwCl (((xC_w cy a I F G ++ xv_Y cy a f (xw_up b 1 u) (xw_up kp 1 (some (i1, r1)))) ++ xM_w cy d J K L)) H := by
  refine xj_Pp xv_p1.symm ?_
  rw [xw_ups, xw_ups, xw_upn (by decide), xw_upn (by decide)]
  exact hw
theorem xv_i1D {cy : Nat → ClassId} {a d : Nat → Nat} {I : xw_I} {F : xw_F} {G : xw_G} {f : Nat → Option Nat} {b : Nat → Nat → Nat} {kp : Nat → Option (xw_I × xw_F)} {J : xw_I} {K : xw_F} {L : xw_G} {A : Nat → Prop} {u : Nat → Nat} {i1 : xw_I} {r1 : xw_F} (hw : va_D A ((xC_w cy a I F G ++ (xC_im cy a f :: xK_w cy u i1 r1)) ++ (xK_o cy (b 0) (kp 0) ++ xM_w cy d J K L))) : va_D A (((xC_w cy a I F G ++ xv_Y cy a f (xw_up b 1 u) (xw_up kp 1 (some (i1, r1)))) ++ xM_w cy d J K L)) := by
  refine xj_Dp xv_p1.symm ?_
  rw [xw_ups, xw_ups, xw_upn (by decide), xw_upn (by decide)]
  exact hw
