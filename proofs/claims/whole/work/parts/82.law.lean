set_option maxHeartbeats 4000000 in
set_option maxRecDepth 100000 in
theorem law_loop {p : Program} {l : Launch} {e : Env} {s : State} {m : MethodId} {below : List Frame} {meth : Method} {c : Code} {D : va_G} {cI cS : ClassId} {adx adm : Nat → Nat} {b L : Nat} {xs : Nat → Int32} (hL : L ≤ 3072) (C0 : lw_At p s m meth c b L xs) (C1 : LwC D cI cS s adx adm) :
    ∀ (fuel i : Nat), i ≤ L → L + 6 ≤ i + fuel → ∀ (H : Heap) (locs : List Loc), LwS D cI cS adx adm H → va_S (LwA s) s.heap H locs → ∀ ls : Array Slot, lv_has ls 4 [(0, .ref b), (1, .ref (adx 0)), (2, .ref (adm 0)), (3, .int (nI i))] → W p l e room_1 s m #[Value.ref b] below meth c H locs 600000 7302250 (lw_Z below #[Value.ref b] s) (F0 m 18 ls []) := by
  have hbA : ¬ LwA s b := Nat.not_le.mpr C0.2.2.2.2.2.2.2.1
  obtain ⟨hx, hb, hr, hml, hown, hts0, hX, hbl, hlocks, hgv⟩ := id C0
  intro fuel
  induction fuel with
  | zero => intro i h1 h2; exact absurd h2 (by omega)
  | succ fuel ih =>
    intro i hi hfu H locs hI hS ls hl
    refine lv_iload_n hx hb dL_law_18 rfl (lv_at hl 3 rfl) ?_
    refine lv_aload_n hx hb dL_law_19 rfl (lv_at hl 0 rfl) ?_
    refine va_slen hx hb hX hbl hbA hS dL_law_20 ?_
    refine xtop (x' := nI L) rfl ?_
    refine lv_bipush (v := nI 6) hx hb dL_law_21 (by decide) ?_
    refine lv_isub hx hb dL_law_23 ?_
    refine lv_icmp_gt (tgt := 1097) hx hb dL_law_24 (by decide) (fun c_24 => ?_) (fun c_24 => ?_)
    · refine lv_iconst (v := 1) hx hb dL_law_1097 (by decide) ?_
      refine va_forget (fun q hq => hS.2.2 q hq) ?_
      exact lw_ret hx hb hr hlocks dL_law_1098
    · replace c_24 := (not_congr (lw6 hL hi)).mp c_24
      have hi6 : i + 6 ≤ L := by omega
      have kk : ∀ (H : Heap) (locs : List Loc), LwS D cI cS adx adm H → va_S (LwA s) s.heap H locs → W p l e room_1 s m #[Value.ref b] below meth c H locs 600000 7302250 (lw_Z below #[Value.ref b] s) (F0 m 1091 ls []) := by
        intro H locs hI hS
        refine lv_iinc (v := nI (i + 6)) (lv' := [(3, .int (nI (i + 6))), (0, .ref b), (1, .ref (adx 0)), (2, .ref (adm 0))]) hx hb dL_law_1091 hl (k := 3) rfl xinc6 (by decide) rfl (fun ls hl => ?_)
        refine lv_goto (tgt := 18) hx hb dL_law_1094 (by decide) ?_
        exact ih (i + 6) hi6 (by omega) H locs hI hS ls (lv_sub hl [1, 2, 3, 0] rfl)
      refine lv_aload_n hx hb dL_law_27 rfl (lv_at hl 0 rfl) ?_
      refine lv_iload_n hx hb dL_law_28 rfl (lv_at hl 3 rfl) ?_
      refine xsld hx hb hX hbl hbA hS i rfl (by omega) hL dL_law_29 ?_
      refine lv_bipush (v := nI 31) hx hb dL_law_30 (by decide) ?_
      refine lv_iand hx hb dL_law_32 ?_
      obtain ⟨v9, hv9⟩ : ∃ z, z = xs i &&& nI 31 := ⟨_, rfl⟩
      refine xtop (x' := v9) hv9.symm ?_
      by_cases c_0 : v9 = nI 0
      · refine lv_tableIn (off := 135) (tgt := 168) hx hb dL_law_33 (by rw [c_0]; decide) (by rw [c_0]; decide) (by rw [c_0]; decide) (by decide) ?_
        exact law_c0 hL hi6 C0 C1 hI hS hl kk
      by_cases c_1 : v9 = nI 1
      · refine lv_tableIn (off := 188) (tgt := 221) hx hb dL_law_33 (by rw [c_1]; decide) (by rw [c_1]; decide) (by rw [c_1]; decide) (by decide) ?_
        exact law_c1 hL hi6 C0 C1 hI hS hl kk
      by_cases c_2 : v9 = nI 2
      · refine lv_tableIn (off := 221) (tgt := 254) hx hb dL_law_33 (by rw [c_2]; decide) (by rw [c_2]; decide) (by rw [c_2]; decide) (by decide) ?_
        exact law_c2 hL hi6 C0 C1 hI hS hl kk
      by_cases c_3 : v9 = nI 3
      · refine lv_tableIn (off := 254) (tgt := 287) hx hb dL_law_33 (by rw [c_3]; decide) (by rw [c_3]; decide) (by rw [c_3]; decide) (by decide) ?_
        exact law_c3 hL hi6 C0 C1 hI hS hl kk
      by_cases c_4 : v9 = nI 4
      · refine lv_tableIn (off := 287) (tgt := 320) hx hb dL_law_33 (by rw [c_4]; decide) (by rw [c_4]; decide) (by rw [c_4]; decide) (by decide) ?_
        exact law_c4 hL hi6 C0 C1 hI hS hl kk
      by_cases c_5 : v9 = nI 5
      · refine lv_tableIn (off := 310) (tgt := 343) hx hb dL_law_33 (by rw [c_5]; decide) (by rw [c_5]; decide) (by rw [c_5]; decide) (by decide) ?_
        exact law_c5 hL hi6 C0 C1 hI hS hl kk
      by_cases c_6 : v9 = nI 6
      · refine lv_tableIn (off := 343) (tgt := 376) hx hb dL_law_33 (by rw [c_6]; decide) (by rw [c_6]; decide) (by rw [c_6]; decide) (by decide) ?_
        exact law_c6 hL hi6 C0 C1 hI hS hl kk
      by_cases c_7 : v9 = nI 7
      · refine lv_tableIn (off := 376) (tgt := 409) hx hb dL_law_33 (by rw [c_7]; decide) (by rw [c_7]; decide) (by rw [c_7]; decide) (by decide) ?_
        exact law_c7 hL hi6 C0 C1 hI hS hl kk
      by_cases c_8 : v9 = nI 8
      · refine lv_tableIn (off := 389) (tgt := 422) hx hb dL_law_33 (by rw [c_8]; decide) (by rw [c_8]; decide) (by rw [c_8]; decide) (by decide) ?_
        exact law_c8 hL hi6 C0 C1 hI hS hl kk
      by_cases c_9 : v9 = nI 9
      · refine lv_tableIn (off := 412) (tgt := 445) hx hb dL_law_33 (by rw [c_9]; decide) (by rw [c_9]; decide) (by rw [c_9]; decide) (by decide) ?_
        exact law_c9 hL hi6 C0 C1 hI hS hl kk
      by_cases c_10 : v9 = nI 10
      · refine lv_tableIn (off := 475) (tgt := 508) hx hb dL_law_33 (by rw [c_10]; decide) (by rw [c_10]; decide) (by rw [c_10]; decide) (by decide) ?_
        exact law_c10 hL hi6 C0 C1 hI hS hl kk
      by_cases c_11 : v9 = nI 11
      · refine lv_tableIn (off := 488) (tgt := 521) hx hb dL_law_33 (by rw [c_11]; decide) (by rw [c_11]; decide) (by rw [c_11]; decide) (by decide) ?_
        exact law_c11 hL hi6 C0 C1 hI hS hl kk
      by_cases c_12 : v9 = nI 12
      · refine lv_tableIn (off := 511) (tgt := 544) hx hb dL_law_33 (by rw [c_12]; decide) (by rw [c_12]; decide) (by rw [c_12]; decide) (by decide) ?_
        exact law_c12 hL hi6 C0 C1 hI hS hl kk
      by_cases c_13 : v9 = nI 13
      · refine lv_tableIn (off := 544) (tgt := 577) hx hb dL_law_33 (by rw [c_13]; decide) (by rw [c_13]; decide) (by rw [c_13]; decide) (by decide) ?_
        exact law_c13 hL hi6 C0 C1 hI hS hl kk
      by_cases c_14 : v9 = nI 14
      · refine lv_tableIn (off := 578) (tgt := 611) hx hb dL_law_33 (by rw [c_14]; decide) (by rw [c_14]; decide) (by rw [c_14]; decide) (by decide) ?_
        exact law_c14 hL hi6 C0 C1 hI hS hl kk
      by_cases c_15 : v9 = nI 15
      · refine lv_tableIn (off := 611) (tgt := 644) hx hb dL_law_33 (by rw [c_15]; decide) (by rw [c_15]; decide) (by rw [c_15]; decide) (by decide) ?_
        exact law_c15 hL hi6 C0 C1 hI hS hl kk
      by_cases c_16 : v9 = nI 16
      · refine lv_tableIn (off := 634) (tgt := 667) hx hb dL_law_33 (by rw [c_16]; decide) (by rw [c_16]; decide) (by rw [c_16]; decide) (by decide) ?_
        exact law_c16 hL hi6 C0 C1 hI hS hl kk
      by_cases c_17 : v9 = nI 17
      · refine lv_tableIn (off := 657) (tgt := 690) hx hb dL_law_33 (by rw [c_17]; decide) (by rw [c_17]; decide) (by rw [c_17]; decide) (by decide) ?_
        exact law_c17 hL hi6 C0 C1 hI hS hl kk
      by_cases c_18 : v9 = nI 18
      · refine lv_tableIn (off := 680) (tgt := 713) hx hb dL_law_33 (by rw [c_18]; decide) (by rw [c_18]; decide) (by rw [c_18]; decide) (by decide) ?_
        exact law_c18 hL hi6 C0 C1 hI hS hl kk
      by_cases c_19 : v9 = nI 19
      · refine lv_tableIn (off := 714) (tgt := 747) hx hb dL_law_33 (by rw [c_19]; decide) (by rw [c_19]; decide) (by rw [c_19]; decide) (by decide) ?_
        exact law_c19 hL hi6 C0 C1 hI hS hl kk
      by_cases c_20 : v9 = nI 20
      · refine lv_tableIn (off := 757) (tgt := 790) hx hb dL_law_33 (by rw [c_20]; decide) (by rw [c_20]; decide) (by rw [c_20]; decide) (by decide) ?_
        exact law_c20 hL hi6 C0 C1 hI hS hl kk
      by_cases c_21 : v9 = nI 21
      · refine lv_tableIn (off := 780) (tgt := 813) hx hb dL_law_33 (by rw [c_21]; decide) (by rw [c_21]; decide) (by rw [c_21]; decide) (by decide) ?_
        exact law_c21 hL hi6 C0 C1 hI hS hl kk
      by_cases c_22 : v9 = nI 22
      · refine lv_tableIn (off := 823) (tgt := 856) hx hb dL_law_33 (by rw [c_22]; decide) (by rw [c_22]; decide) (by rw [c_22]; decide) (by decide) ?_
        exact law_c22 hL hi6 C0 C1 hI hS hl kk
      by_cases c_23 : v9 = nI 23
      · refine lv_tableIn (off := 867) (tgt := 900) hx hb dL_law_33 (by rw [c_23]; decide) (by rw [c_23]; decide) (by rw [c_23]; decide) (by decide) ?_
        exact law_c23 hL hi6 C0 C1 hI hS hl kk
      by_cases c_24 : v9 = nI 24
      · refine lv_tableIn (off := 930) (tgt := 963) hx hb dL_law_33 (by rw [c_24]; decide) (by rw [c_24]; decide) (by rw [c_24]; decide) (by decide) ?_
        exact law_c24 hL hi6 C0 C1 hI hS hl kk
      by_cases c_25 : v9 = nI 25
      · refine lv_tableIn (off := 953) (tgt := 986) hx hb dL_law_33 (by rw [c_25]; decide) (by rw [c_25]; decide) (by rw [c_25]; decide) (by decide) ?_
        exact law_c25 hL hi6 C0 C1 hI hS hl kk
      by_cases c_26 : v9 = nI 26
      · refine lv_tableIn (off := 976) (tgt := 1009) hx hb dL_law_33 (by rw [c_26]; decide) (by rw [c_26]; decide) (by rw [c_26]; decide) (by decide) ?_
        exact law_c26 hL hi6 C0 C1 hI hS hl kk
      by_cases c_27 : v9 = nI 27
      · refine lv_tableIn (off := 1009) (tgt := 1042) hx hb dL_law_33 (by rw [c_27]; decide) (by rw [c_27]; decide) (by rw [c_27]; decide) (by decide) ?_
        exact law_c27 hL hi6 C0 C1 hI hS hl kk
      by_cases c_28 : v9 = nI 28
      · refine lv_tableIn (off := 1022) (tgt := 1055) hx hb dL_law_33 (by rw [c_28]; decide) (by rw [c_28]; decide) (by rw [c_28]; decide) (by decide) ?_
        exact law_c28 hL hi6 C0 C1 hI hS hl kk
      by_cases c_29 : v9 = nI 29
      · refine lv_tableIn (off := 1035) (tgt := 1068) hx hb dL_law_33 (by rw [c_29]; decide) (by rw [c_29]; decide) (by rw [c_29]; decide) (by decide) ?_
        exact law_c29 hL hi6 C0 C1 hI hS hl kk
      refine lv_tableOut (tgt := 1091) hx hb dL_law_33 (by exact xtabN (N := 30) (by decide) (fun j hj => by match j, hj with | 0, _ => exact c_0 | 1, _ => exact c_1 | 2, _ => exact c_2 | 3, _ => exact c_3 | 4, _ => exact c_4 | 5, _ => exact c_5 | 6, _ => exact c_6 | 7, _ => exact c_7 | 8, _ => exact c_8 | 9, _ => exact c_9 | 10, _ => exact c_10 | 11, _ => exact c_11 | 12, _ => exact c_12 | 13, _ => exact c_13 | 14, _ => exact c_14 | 15, _ => exact c_15 | 16, _ => exact c_16 | 17, _ => exact c_17 | 18, _ => exact c_18 | 19, _ => exact c_19 | 20, _ => exact c_20 | 21, _ => exact c_21 | 22, _ => exact c_22 | 23, _ => exact c_23 | 24, _ => exact c_24 | 25, _ => exact c_25 | 26, _ => exact c_26 | 27, _ => exact c_27 | 28, _ => exact c_28 | 29, _ => exact c_29 | j + 30, hj => exact absurd hj (by omega))) (by decide) ?_
      exact kk H locs hI hS
set_option maxHeartbeats 4000000 in
set_option maxRecDepth 100000 in
theorem whole_start {p : Program} {e : Env} {s : State} {m : MethodId} {below : List Frame} {meth : Method} {c : Code} (l : Launch) (hflags : l.flags = flags0) {b L : Nat} {xs : Nat → Int32} (hL : L ≤ 3072) (C0 : lw_At p s m meth c b L xs) : W p l e room_1 s m #[Value.ref b] below meth c s.heap [] 0 0 (lw_Z below #[Value.ref b] s) (entryFrame m ([Value.ref b] : List Value).toArray 4) := by
  obtain ⟨hx, hb, hr, hml, hown, hts0, hX, hbl, hlocks, hgv⟩ := id C0
  have hA : ∀ q : Nat, s.heap.size ≤ q → LwA s q := fun _ h => h
  have hts : ∀ w ∈ wsL_law, w.before #[Value.ref b] s = true := fun w h => hts0 w (wsL_law_in w h)
  have hF : CallFix p m c cL_law 4 s _ wsL_law RL := ⟨hx, hb, hml, hown, hts⟩
  have yX0 : ∀ w ∈ u_ws RX0 TX0 6, w.before #[Value.ref b] s = true := fun w h => hts w (inlX0 w h)
  obtain ⟨c0, i0, hK0⟩ := u_known (C := RX0) (T := TX0) (N := 6) (n := 6) yX0 (fun _ h => h) (hts0 (.instantiable RX0 6) (by decide +kernel))
  have yX1 : ∀ w ∈ u_ws RX1 TX1 4, w.before #[Value.ref b] s = true := fun w h => hts w (inlX1 w h)
  obtain ⟨c1, i1, hK1⟩ := u_known (C := RX1) (T := TX1) (N := 4) (n := 4) yX1 (fun _ h => h) (hts0 (.instantiable RX1 4) (by decide +kernel))
  have yX2 : ∀ w ∈ u_ws RX2 TX2 9, w.before #[Value.ref b] s = true := fun w h => hts w (inlX2 w h)
  obtain ⟨c2, i2, hK2⟩ := u_known (C := RX2) (T := TX2) (N := 9) (n := 9) yX2 (fun _ h => h) (hts0 (.instantiable RX2 9) (by decide +kernel))
  have yX3 : ∀ w ∈ u_ws RX3 TX3 23, w.before #[Value.ref b] s = true := fun w h => hts w (inlX3 w h)
  obtain ⟨c3, i3, hK3⟩ := u_known (C := RX3) (T := TX3) (N := 23) (n := 23) yX3 (fun _ h => h) (hts0 (.instantiable RX3 23) (by decide +kernel))
  obtain ⟨cI, kI, pI, fI1, fI2, fI3⟩ := Cond.arrayClass_spec (hts0 (.arrayClass .int) (by decide +kernel))
  have hAO : va_AO "ChairBallot$Sheet" s := va_AO.of (hts0 (.arrayOver (.object "ChairBallot$Sheet")) (by decide +kernel))
  obtain ⟨pS, cS, kS, fS1, fS2, fS3, fS4, fS5⟩ := Cond.arrayOver_spec hAO
  obtain ⟨D, hKc⟩ : ∃ D : va_G, ∀ (k : Nat) (q : vw_C), vwCl[k]? = some q → u_Kn s q.1 q.2.1 q.2.2 (D.1 k) (D.2 k) := by
    refine ⟨(fun k => if k = 0 then c0 else if k = 1 then c1 else if k = 2 then c2 else c3, fun k => if k = 0 then i0 else if k = 1 then i1 else if k = 2 then i2 else i3), ?_⟩
    intro k q hq
    match k, hq with
    | 0, hq => cases hq; exact hK0
    | 1, hq => cases hq; exact hK1
    | 2, hq => cases hq; exact hK2
    | 3, hq => cases hq; exact hK3
    | k + 4, hq => simp [vwCl] at hq
  have hK : va_K D vwCl [(cI, .int), (cS, .object "ChairBallot$Sheet")] s := by
    refine ⟨hKc, fun k q hq => ?_⟩
    match k, hq with
    | 0, hq => cases hq; exact ⟨fun _ _ => ⟨(fun _ h => by cases h), kI, fI2, pI, fI3⟩, fI1⟩
    | 1, hq => cases hq; exact ⟨fun _ _ => ⟨(fun _ h => by cases h), kS, fS3, pS, fS4⟩, kS, pS, fS3, fS4, fS1, fS5⟩
    | k + 2, hq => simp at hq
  have hG : Gk D cI cS s := ⟨hK, (va_Nw.of rfl (hts0 (.methodLinkNest RX0 41 yX2_votesAs RX2) (by decide +kernel))), (va_Nw.of rfl (hts0 (.methodLinkNest RX0 70 yX2_isIn RX2) (by decide +kernel)))⟩
  have hG2 : Gk2 D cI cS s := ⟨hG, hAO, (va_Nw.of rfl (hts0 (.methodLinkNest RX2 19 yX0_init RX2) (by decide +kernel))), (va_Nw.of rfl (hts0 (.methodLinkNest RX2 47 yX1_init RX2) (by decide +kernel)))⟩
  have hS : va_S (LwA s) s.heap s.heap [] := va_S.rf
  have hP : va_P D vwCl [] s.heap := fun k q h => by simp at h
  have hD : va_D (LwA s) [] := ⟨fun i j p q h => by simp at h, fun k q h => by simp at h⟩
  have hl := lv_entry ([.ref b]) (n := 4) (Nat.le_of_ble_eq_true rfl)
  rw [lg_entry_eq]
  generalize (lg_sl ([.ref b]) ++ List.replicate (4 - (lg_sl ([.ref b])).length) Slot.unset).toArray = ls at hl ⊢
  have hl : lv_has ls 4 [(0, .ref b)] := hl
  refine va_new (ci := 2) (fs := [.null, .null, .null, .null, .null, .null, .int (nI 0), .int (nI 0), .int (nI 0)]) (C := RX2) (T := TX2) (N := 9) hx hb yX2 (fun _ h => h) tyX2 tyX2_ok hown (hts0 (.classLink R_law 7 RX2) (by decide +kernel)) (hts0 (.instantiable RX2 9) (by decide +kernel)) (hts0 (.initialized RX2) (by decide +kernel)) hG.1 hP hD hS hA rfl (fun j hj => by match j, hj with | 0, _ => rfl | 1, _ => rfl | 2, _ => rfl | 3, _ => rfl | 4, _ => rfl | 5, _ => rfl | 6, _ => rfl | 7, _ => rfl | 8, _ => rfl | j + 9, hj => exact absurd hj (by simp)) (Nat.le_of_ble_eq_true rfl) (Nat.le_of_ble_eq_true rfl) dL_law_0 (fun ox H hP hD hS => ?_)
  have hP : va_P D vwCl [(ox, .inr (2, [.null, .null, .null, .null, .null, .null, .int (nI 0), .int (nI 0), .int (nI 0)]))] H := hP
  have hD : va_D (LwA s) [(ox, .inr (2, [.null, .null, .null, .null, .null, .null, .int (nI 0), .int (nI 0), .int (nI 0)]))] := hD
  refine lv_dup hx hb dL_law_3 rfl ?_
  have hPc := hP.sub (ws' := [(ox, .inr (2, [.null, .null, .null, .null, .null, .null, .int (nI 0), .int (nI 0), .int (nI 0)]))]) [0] rfl
  have hFc := va_free (wc := [(ox, .inr (2, [.null, .null, .null, .null, .null, .null, .int (nI 0), .int (nI 0), .int (nI 0)]))]) hD hS hA [0] rfl
  refine va_callv (va_runI (As := []) (rest := [.ref ox]) hF (c_X2_init l D cI cS ox H.size) (cwI 0 hts gL_law_X2_init rfl rfl rfl (hts0 (.initialized RX2) (by decide +kernel)) (hts0 (.methodLink R_law 9 yX2_init) (by decide +kernel)) (hts0 (.instanceMethod yX2_init) (by decide +kernel)) rfl (by decide +kernel) ⟨(Nat.le_of_ble_eq_true rfl), (Nat.le_of_ble_eq_true rfl)⟩) (PI.pre hG2 hPc) rfl rfl hl.1 rfl (lv_room (Nat.le_of_ble_eq_true rfl)) dL_law_4 ⟨(Nat.le_of_ble_eq_true rfl), (Nat.le_of_ble_eq_true rfl)⟩) hS (fun q _ h => hFc q h) hFc (fun adx t H1 locs ht hvm hw hB hz1 hk1 hS => ?_)
  obtain ⟨h0adx, hP1, hD1⟩ := hB
  rw [ht] at hP1
  obtain ⟨hP, hD⟩ := va_join (wr := []) (w1 := wX cI cS adx (fun _ => false) zN zN (fun _ => aI zN) 0 0 zN zN zN zN 0 0 zN zN zN zN (aI zN) zN zN 0 (nI 0) 0) hP hD [0] [] rfl rfl (by decide) (by decide) hk1 hFc hP1 hD1
  generalize H1 = H at hP hS ⊢
  have hP : va_P D vwCl (wX cI cS adx (fun _ => false) zN zN (fun _ => aI zN) 0 0 zN zN zN zN 0 0 zN zN zN zN (aI zN) zN zN 0 (nI 0) 0) H := hP
  have hD : va_D (LwA s) (wX cI cS adx (fun _ => false) zN zN (fun _ => aI zN) 0 0 zN zN zN zN 0 0 zN zN zN zN (aI zN) zN zN 0 (nI 0) 0) := hD
  refine lv_astore_n (lv' := [(1, .ref ox), (0, .ref b)]) hx hb dL_law_7 rfl hl (by decide) rfl (fun ls hl => ?_)
  refine va_new (ci := 3) (fs := [.int (nI 0), .int (nI 0), .int (nI 0), .null, .null, .null, .null, .int (nI 0), .int (nI 0), .null, .null, .null, .null, .int (nI 0), .null, .int (nI 0), .null, .null, .null, .null, .null, .null, .int (nI 0)]) (C := RX3) (T := TX3) (N := 23) hx hb yX3 (fun _ h => h) tyX3 tyX3_ok hown (hts0 (.classLink R_law 10 RX3) (by decide +kernel)) (hts0 (.instantiable RX3 23) (by decide +kernel)) (hts0 (.initialized RX3) (by decide +kernel)) hG.1 hP hD hS hA rfl (fun j hj => by match j, hj with | 0, _ => rfl | 1, _ => rfl | 2, _ => rfl | 3, _ => rfl | 4, _ => rfl | 5, _ => rfl | 6, _ => rfl | 7, _ => rfl | 8, _ => rfl | 9, _ => rfl | 10, _ => rfl | 11, _ => rfl | 12, _ => rfl | 13, _ => rfl | 14, _ => rfl | 15, _ => rfl | 16, _ => rfl | 17, _ => rfl | 18, _ => rfl | 19, _ => rfl | 20, _ => rfl | 21, _ => rfl | 22, _ => rfl | j + 23, hj => exact absurd hj (by simp)) (Nat.le_of_ble_eq_true rfl) (Nat.le_of_ble_eq_true rfl) dL_law_8 (fun om H hP hD hS => ?_)
  have hP : va_P D vwCl ((wX cI cS adx (fun _ => false) zN zN (fun _ => aI zN) 0 0 zN zN zN zN 0 0 zN zN zN zN (aI zN) zN zN 0 (nI 0) 0) ++ [(om, .inr (3, [.int (nI 0), .int (nI 0), .int (nI 0), .null, .null, .null, .null, .int (nI 0), .int (nI 0), .null, .null, .null, .null, .int (nI 0), .null, .int (nI 0), .null, .null, .null, .null, .null, .null, .int (nI 0)]))]) H := hP
  have hD : va_D (LwA s) ((wX cI cS adx (fun _ => false) zN zN (fun _ => aI zN) 0 0 zN zN zN zN 0 0 zN zN zN zN (aI zN) zN zN 0 (nI 0) 0) ++ [(om, .inr (3, [.int (nI 0), .int (nI 0), .int (nI 0), .null, .null, .null, .null, .int (nI 0), .int (nI 0), .null, .null, .null, .null, .int (nI 0), .null, .int (nI 0), .null, .null, .null, .null, .null, .null, .int (nI 0)]))]) := hD
  refine lv_dup hx hb dL_law_11 rfl ?_
  have hPc := hP.sub (ws' := [(om, .inr (3, [.int (nI 0), .int (nI 0), .int (nI 0), .null, .null, .null, .null, .int (nI 0), .int (nI 0), .null, .null, .null, .null, .int (nI 0), .null, .int (nI 0), .null, .null, .null, .null, .null, .null, .int (nI 0)]))]) [23] rfl
  have hFc := va_free (wc := [(om, .inr (3, [.int (nI 0), .int (nI 0), .int (nI 0), .null, .null, .null, .null, .int (nI 0), .int (nI 0), .null, .null, .null, .null, .int (nI 0), .null, .int (nI 0), .null, .null, .null, .null, .null, .null, .int (nI 0)]))]) hD hS hA [23] rfl
  refine va_callv (va_runI (As := []) (rest := [.ref om]) hF (c_X3_init l D cI cS om H.size) (cwI 0 hts gL_law_X3_init rfl rfl rfl (hts0 (.initialized RX3) (by decide +kernel)) (hts0 (.methodLink R_law 12 yX3_init) (by decide +kernel)) (hts0 (.instanceMethod yX3_init) (by decide +kernel)) rfl (by decide +kernel) ⟨(Nat.le_of_ble_eq_true rfl), (Nat.le_of_ble_eq_true rfl)⟩) (PI.pre hG2 hPc) rfl rfl hl.1 rfl (lv_room (Nat.le_of_ble_eq_true rfl)) dL_law_12 ⟨(Nat.le_of_ble_eq_true rfl), (Nat.le_of_ble_eq_true rfl)⟩) hS (fun q _ h => hFc q h) hFc (fun adm t H1 locs ht hvm hw hB hz1 hk1 hS => ?_)
  obtain ⟨h0adm, hP1, hD1⟩ := hB
  rw [ht] at hP1
  obtain ⟨hP, hD⟩ := va_join (wr := (wX cI cS adx (fun _ => false) zN zN (fun _ => aI zN) 0 0 zN zN zN zN 0 0 zN zN zN zN (aI zN) zN zN 0 (nI 0) 0)) (w1 := wM cI adm 0 0 0 zN zN zN zN 0 0 (aI zN) (aI zN) (aI zN) (aI zN) 0 zN 0 zN zN (fun _ => false) zN zN (aI zN) (aI zN) (nI 0)) hP hD [23] [0, 1, 2, 3, 4, 5, 6, 7, 8, 9, 10, 11, 12, 13, 14, 15, 16, 17, 18, 19, 20, 21, 22] rfl rfl (by decide) (by decide) hk1 hFc hP1 hD1
  generalize H1 = H at hP hS ⊢
  refine lv_astore_n (lv' := [(2, .ref om), (1, .ref ox), (0, .ref b)]) hx hb dL_law_15 rfl hl (by decide) rfl (fun ls hl => ?_)
  refine lv_iconst (v := nI 0) hx hb dL_law_16 (by decide) ?_
  refine lv_istore_n (lv' := [(3, .int (nI 0)), (2, .ref om), (1, .ref ox), (0, .ref b)]) hx hb dL_law_17 rfl hl (by decide) rfl (fun ls hl => ?_)
  have hPx := hP.sub (ws' := wX cI cS adx (fun _ => false) zN zN (fun _ => aI zN) 0 0 zN zN zN zN 0 0 zN zN zN zN (aI zN) zN zN 0 (nI 0) 0) [0, 1, 2, 3, 4, 5, 6, 7, 8, 9, 10, 11, 12, 13, 14, 15, 16, 17, 18, 19, 20, 21, 22] rfl
  have hPm := hP.sub (ws' := wM cI adm 0 0 0 zN zN zN zN 0 0 (aI zN) (aI zN) (aI zN) (aI zN) 0 zN 0 zN zN (fun _ => false) zN zN (aI zN) (aI zN) (nI 0)) [23, 24, 25, 26, 27, 28, 29, 30, 31, 32, 33, 34, 35, 36, 37, 38] rfl
  have hDx := hD.sub (ws' := wX cI cS adx (fun _ => false) zN zN (fun _ => aI zN) 0 0 zN zN zN zN 0 0 zN zN zN zN (aI zN) zN zN 0 (nI 0) 0) [0, 1, 2, 3, 4, 5, 6, 7, 8, 9, 10, 11, 12, 13, 14, 15, 16, 17, 18, 19, 20, 21, 22] (by decide) rfl
  have hDm := hD.sub (ws' := wM cI adm 0 0 0 zN zN zN zN 0 0 (aI zN) (aI zN) (aI zN) (aI zN) 0 zN 0 zN zN (fun _ => false) zN zN (aI zN) (aI zN) (nI 0)) [23, 24, 25, 26, 27, 28, 29, 30, 31, 32, 33, 34, 35, 36, 37, 38] (by decide) rfl
  have hnd : nd (adX adx ++ adM adm) := va_D.nd hD rfl
  subst h0adx
  subst h0adm
  have hdd : ∀ q, AW (adX adx) q → ¬ AW (adM adm) q := by
    intro q h1 h2
    obtain ⟨i, hi⟩ := List.getElem?_of_mem h1
    obtain ⟨j, hj⟩ := List.getElem?_of_mem h2
    have hi2 : i < (adX adx).length := (List.getElem?_eq_some_iff.mp hi).1
    have e9 := hnd i ((adX adx).length + j) q (by rw [List.getElem?_append_left hi2]; exact hi) (by rw [List.getElem?_append_right (by omega), Nat.add_sub_cancel_left]; exact hj)
    omega
  have C1 : LwC D cI cS s adx adm := ⟨hG, va_D.nd hDx rfl, va_D.nd hDm rfl, hdd, adAll hDx rfl, adAll hDm rfl⟩
  refine W.widen (k := 600000) (n := 7302250) (Nat.le_of_ble_eq_true rfl) (Nat.le_of_ble_eq_true rfl) ?_
  have hI : LwS D cI cS adx adm H := ⟨0, 0, zN, zN, zN, zN, 0, zN, zN, (fun _ => false), zN, zN, aI zN, nI 0, 0, 0, 0, zN, zN, zN, zN, aI zN, 0, 0, aI zN, aI zN, aI zN, aI zN, 0, zN, aI zN, st_0, wX_sf hPx (fun _ _ _ => rfl), hPm⟩
  exact law_loop hL C0 C1 (L + 7) 0 (Nat.zero_le _) (by omega) H _ hI hS ls (lv_sub hl [3, 2, 1, 0] rfl)
