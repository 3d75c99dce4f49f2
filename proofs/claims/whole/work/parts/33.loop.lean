/-! ===== the law's loop ===== -/
theorem xv_len {L i : Nat} (hL : L ≤ 1536) (h1 : i ≤ L) (h : ¬ Int32.ofNat L - 3 < nI i) : i + 3 ≤ L := by
  by_cases h3 : 3 ≤ L
  · obtain ⟨k, rfl⟩ : ∃ k, L = k + 3 := ⟨L - 3, by omega⟩
    have e : Int32.ofNat (k + 3) - 3 = nI k := by
      rw [show Int32.ofNat (k + 3) = nI (k + 3) from rfl, ← nI_add k 3]
      exact Int32.add_sub_cancel _ _
    rw [e] at h
    have := (not_congr (xn_lt (a := k) (b := i) (by omega) (by omega))).mp h
    omega
  · have hh : (L = 0 ∧ i = 0) ∨ (L = 1 ∧ i = 0) ∨ (L = 1 ∧ i = 1) ∨ (L = 2 ∧ i = 0) ∨ (L = 2 ∧ i = 1) ∨ (L = 2 ∧ i = 2) := by omega
    rcases hh with ⟨rfl, rfl⟩ | ⟨rfl, rfl⟩ | ⟨rfl, rfl⟩ | ⟨rfl, rfl⟩ | ⟨rfl, rfl⟩ | ⟨rfl, rfl⟩ <;> exact absurd (by decide) h
set_option maxHeartbeats 4000000 in
set_option maxRecDepth 100000 in
theorem law_loop {p : Program} {l : Launch} {e : Env} {s : State} {m : MethodId} {below : List Frame} {meth : Method} {c : Code} {D : va_G} {cy : Nat → ClassId} {sb L : Nat} {xs : Nat → Int32} {a d : Nat → Nat} (hL : L ≤ 1536) (C0 : lw_At p s m meth c sb L xs) (hB : xw_B D cy s) : ∀ (n i : Nat), i ≤ L → L + 1 ≤ i + n → xv_at p l e s m below meth c D cy sb a d i 18 := by
  have C1 := C0
  obtain ⟨hx, hb, hr, hml, hown, hts0, hX, hbl, hlocks, hgv⟩ := C1
  have hbA : ¬ (fun q : Nat => s.heap.size ≤ q) sb := Nat.not_le.mpr hbl
  intro n
  induction n with
  | zero => intro i h1 h2; exact absurd h2 (by omega)
  | succ n ih =>
    intro i h1 h2
    have hnext : i + 3 ≤ L → xv_at p l e s m below meth c D cy sb a d i 399 := by
      intro hi kp f b I F G J K G2 H locs cells slots ls hZ hl
      refine lv_iinc (v := nI (i + 3)) (lv' := [(3, .int (nI (i + 3))), (2, .ref (d 0)), (1, .ref (a 0)), (0, .ref sb)]) hx hb dL_law_399 hl (k := 0) rfl (by rw [show Int32.ofInt 3 = nI 3 from rfl]; exact nI_add i 3) (by decide) rfl (fun ls hl => ?_)
      refine lv_goto (tgt := 18) hx hb dL_law_402 (by decide) ?_
      exact ih (i + 3) hi (by omega) kp f b I F G J K G2 H locs cells slots ls hZ hl
    intro kp f b I F G J K G2 H locs cells slots ls hZ hl
    have hZ0 := hZ
    obtain ⟨hR, hf, hP, hD, hS, hc1, hc2⟩ := hZ0
    refine lv_iload_n hx hb dL_law_18 rfl (lv_at hl 0 rfl) ?_
    refine lv_aload_n hx hb dL_law_19 rfl (lv_at hl 3 rfl) ?_
    refine va_slen hx hb hX hbl hbA hS dL_law_20 ?_
    refine lv_iconst (v := 3) hx hb dL_law_21 (by decide) ?_
    refine lv_isub hx hb dL_law_22 ?_
    refine lv_icmp_gt (tgt := 405) hx hb dL_law_23 (by decide) (fun _ => ?_) (fun c1 => ?_)
    · refine lv_iconst (v := 1) hx hb dL_law_405 (by decide) ?_
      refine va_forget (fun q hq => hS.2.2 q hq) ?_
      refine W.widen (k := 600000) (n := 7302250) (by omega) (by omega) ?_
      exact lw_ret hx hb hr hlocks dL_law_406
    · have hi : i + 3 ≤ L := xv_len hL h1 c1
      refine lv_aload_n hx hb dL_law_26 rfl (lv_at hl 3 rfl) ?_
      refine lv_iload_n hx hb dL_law_27 rfl (lv_at hl 0 rfl) ?_
      refine va_sld hx hb hX hbl hbA hS (vp_in_nI (show i < L by omega) (by omega)) dL_law_28 ?_
      refine lv_bipush (v := 15) hx hb dL_law_29 (by decide) ?_
      refine lv_iand hx hb dL_law_31 ?_
      refine lv_topi (fun v _ => ?_)
      by_cases c0 : v = 0
      · refine lv_tableIn (tgt := 100) hx hb dL_law_32 (by rw [c0]; decide) (by rw [c0]; decide) (by rw [c0]; rfl) (by decide) ?_
        exact xv_say hL hi C0 hB (hnext hi) kp f b I F G J K G2 H locs cells slots ls hZ hl
      by_cases c1 : v = 1
      · refine lv_tableIn (tgt := 123) hx hb dL_law_32 (by rw [c1]; decide) (by rw [c1]; decide) (by rw [c1]; rfl) (by decide) ?_
        exact xv_wipe hL hi C0 hB (hnext hi) kp f b I F G J K G2 H locs cells slots ls hZ hl
      by_cases c2 : v = 2
      · refine lv_tableIn (tgt := 136) hx hb dL_law_32 (by rw [c2]; decide) (by rw [c2]; decide) (by rw [c2]; rfl) (by decide) ?_
        exact xv_fault hL hi C0 hB (hnext hi) kp f b I F G J K G2 H locs cells slots ls hZ hl
      by_cases c3 : v = 3
      · refine lv_tableIn (tgt := 149) hx hb dL_law_32 (by rw [c3]; decide) (by rw [c3]; decide) (by rw [c3]; rfl) (by decide) ?_
        exact xv_load hL hi C0 hB (hnext hi) kp f b I F G J K G2 H locs cells slots ls hZ hl
      by_cases c4 : v = 4
      · refine lv_tableIn (tgt := 162) hx hb dL_law_32 (by rw [c4]; decide) (by rw [c4]; decide) (by rw [c4]; rfl) (by decide) ?_
        exact xv_target hL hi C0 hB (hnext hi) kp f b I F G J K G2 H locs cells slots ls hZ hl
      by_cases c5 : v = 5
      · refine lv_tableIn (tgt := 185) hx hb dL_law_32 (by rw [c5]; decide) (by rw [c5]; decide) (by rw [c5]; rfl) (by decide) ?_
        exact xv_link hL hi C0 hB (hnext hi) kp f b I F G J K G2 H locs cells slots ls hZ hl
      by_cases c6 : v = 6
      · refine lv_tableIn (tgt := 218) hx hb dL_law_32 (by rw [c6]; decide) (by rw [c6]; decide) (by rw [c6]; rfl) (by decide) ?_
        exact xv_pair hL hi C0 hB (hnext hi) kp f b I F G J K G2 H locs cells slots ls hZ hl
      by_cases c7 : v = 7
      · refine lv_tableIn (tgt := 251) hx hb dL_law_32 (by rw [c7]; decide) (by rw [c7]; decide) (by rw [c7]; rfl) (by decide) ?_
        exact xv_mark hL hi C0 hB (hnext hi) kp f b I F G J K G2 H locs cells slots ls hZ hl
      by_cases c8 : v = 8
      · refine lv_tableIn (tgt := 284) hx hb dL_law_32 (by rw [c8]; decide) (by rw [c8]; decide) (by rw [c8]; rfl) (by decide) ?_
        exact xv_total hL hi C0 hB (hnext hi) kp f b I F G J K G2 H locs cells slots ls hZ hl
      by_cases c9 : v = 9
      · refine lv_tableIn (tgt := 307) hx hb dL_law_32 (by rw [c9]; decide) (by rw [c9]; decide) (by rw [c9]; rfl) (by decide) ?_
        exact xv_sign hL hi C0 hB (hnext hi) kp f b I F G J K G2 H locs cells slots ls hZ hl
      by_cases c10 : v = 10
      · refine lv_tableIn (tgt := 330) hx hb dL_law_32 (by rw [c10]; decide) (by rw [c10]; decide) (by rw [c10]; rfl) (by decide) ?_
        exact xv_image hL hi C0 hB (hnext hi) kp f b I F G J K G2 H locs cells slots ls hZ hl
      by_cases c11 : v = 11
      · refine lv_tableIn (tgt := 353) hx hb dL_law_32 (by rw [c11]; decide) (by rw [c11]; decide) (by rw [c11]; rfl) (by decide) ?_
        exact xv_restore hL hi C0 hB (hnext hi) kp f b I F G J K G2 H locs cells slots ls hZ hl
      by_cases c12 : v = 12
      · refine lv_tableIn (tgt := 376) hx hb dL_law_32 (by rw [c12]; decide) (by rw [c12]; decide) (by rw [c12]; rfl) (by decide) ?_
        exact xv_told hL hi C0 hB (hnext hi) kp f b I F G J K G2 H locs cells slots ls hZ hl
      refine lv_tableOut (tgt := 399) hx hb dL_law_32 (xw_tab12 c0 c1 c2 c3 c4 c5 c6 c7 c8 c9 c10 c11 c12) (by decide) ?_
      exact hnext hi kp f b I F G J K G2 H locs cells slots ls hZ hl
