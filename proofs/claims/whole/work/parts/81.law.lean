set_option maxHeartbeats 4000000 in
set_option maxRecDepth 100000 in
theorem law_c15 {p : Program} {l : Launch} {e : Env} {s : State} {m : MethodId} {below : List Frame} {meth : Method} {c : Code} {D : va_G} {cI cS : ClassId} {adx adm : Nat → Nat} {b L i : Nat} {xs : Nat → Int32} (hL : L ≤ 3072) (hi : i + 6 ≤ L) (C0 : lw_At p s m meth c b L xs) (C1 : LwC D cI cS s adx adm) {H : Heap} {locs : List Loc} (hI : LwS D cI cS adx adm H) (hS : va_S (LwA s) s.heap H locs) {ls : Array Slot} (hl : lv_has ls 4 [(0, .ref b), (1, .ref (adx 0)), (2, .ref (adm 0)), (3, .int (nI i))])
    (kk : ∀ (H : Heap) (locs : List Loc), LwS D cI cS adx adm H → va_S (LwA s) s.heap H locs → W p l e room_1 s m #[Value.ref b] below meth c H locs 600000 7302250 (lw_Z below #[Value.ref b] s) (F0 m 1091 ls [])) : W p l e room_1 s m #[Value.ref b] below meth c H locs 600000 7302250 (lw_Z below #[Value.ref b] s) (F0 m 644 ls []) := by
  obtain ⟨hx, hb, hr, hml, hown, hts0, hX, hbl, hlocks, hgv⟩ := id C0
  obtain ⟨hG, ndx, ndm, hdd, hAx, hAm⟩ := C1
  obtain ⟨n, fo, ki, st, we, lo, rd, rc, rv, sh, sla, sle, bg, tr, fa, n2, go, kj, sj, wj, lj, ti, ra, rch, q0, q1, q2, q3, fk, fc, hd, hB, hPx, hPm⟩ := hI
  obtain ⟨hn, hfo, hki, hst, hwe, hlo, hrd, hrc, hrv, hsla, hsle⟩ := id hB
  have hbA : ¬ LwA s b := Nat.not_le.mpr hbl
  have hts : ∀ w ∈ wsL_law, w.before #[Value.ref b] s = true := fun w h => hts0 w (wsL_law_in w h)
  have hF : CallFix p m c cL_law 4 s _ wsL_law RL := ⟨hx, hb, hml, hown, hts⟩
  refine lv_aload_n hx hb dL_law_644 rfl (lv_at hl 1 rfl) ?_
  refine lv_aload_n hx hb dL_law_645 rfl (lv_at hl 0 rfl) ?_
  refine lv_iload_n hx hb dL_law_646 rfl (lv_at hl 3 rfl) ?_
  refine lv_iconst (v := nI 1) hx hb dL_law_647 (by decide) ?_
  refine xaddN hx hb dL_law_648 ?_
  refine xsld hx hb hX hbl hbA hS (i + 1) rfl (by omega) hL dL_law_649 ?_
  refine lawI (va_runV (As := [.int (xs (i + 1))]) (rest := []) hF (c_X2_back l D cI cS adx sh sla sle (bigF bg) n fo ki st we lo n2 go kj sj wj lj ti rc rv rd tr fa (xs (i + 1)) ndx hrd) (cwV 1 hts gL_law_X2_back rfl rfl rfl hL_X2_back ⟨(Nat.le_of_ble_eq_true rfl), (Nat.le_of_ble_eq_true rfl)⟩) (PR.preV hG hPx (ci := 2) rfl rfl) rfl rfl hl.1 rfl (lv_room (Nat.le_of_ble_eq_true rfl)) dL_law_650 ⟨(Nat.le_of_ble_eq_true rfl), (Nat.le_of_ble_eq_true rfl)⟩) hS hAx hPm rfl hdd (fun r_0 u_0 H locs q_0 hPx hPm hS => ?_)
  try dsimp only at q_0 hPx
  have hPx : va_P D vwCl (wX cI cS adx sh sla sle (bigF bg) n fo ki st we lo n2 go kj sj wj lj ti rc rv (S_back rd (xs (i + 1))) tr fa) H := hPx
  have e_0 : r_0 = A_back rd (xs (i + 1)) := q_0
  subst e_0
  refine lv_aload_n hx hb dL_law_653 rfl (lv_at hl 2 rfl) ?_
  refine lv_aload_n hx hb dL_law_654 rfl (lv_at hl 0 rfl) ?_
  refine lv_iload_n hx hb dL_law_655 rfl (lv_at hl 3 rfl) ?_
  refine lv_iconst (v := nI 1) hx hb dL_law_656 (by decide) ?_
  refine xaddN hx hb dL_law_657 ?_
  refine xsld hx hb hX hbl hbA hS (i + 1) rfl (by omega) hL dL_law_658 ?_
  refine lawI (va_runV (As := [.int (xs (i + 1))]) (rest := [.int (A_back rd (xs (i + 1)))]) hF (c_X3_back l D cI cS adm fa n fo ki st we lo ra rch q0 q1 q2 q3 fk fc rd rc rv sh sle sla bg hd tr (xs (i + 1)) ndm hrd) (cwV 1 hts gL_law_X3_back rfl rfl rfl hL_X3_back ⟨(Nat.le_of_ble_eq_true rfl), (Nat.le_of_ble_eq_true rfl)⟩) (PR.preV hG hPm (ci := 3) rfl rfl) rfl rfl hl.1 rfl (lv_room (Nat.le_of_ble_eq_true rfl)) dL_law_659 ⟨(Nat.le_of_ble_eq_true rfl), (Nat.le_of_ble_eq_true rfl)⟩) hS hAm hPx rfl (fun q h1 h2 => hdd q h2 h1) (fun r_1 u_1 H locs q_1 hPm hPx hS => ?_)
  try dsimp only at q_1 hPm
  have hPm : va_P D vwCl (wM cI adm fa n fo ki st we lo ra rch q0 q1 q2 q3 fk fc (S_back rd (xs (i + 1))) rc rv sh sle sla bg hd tr) H := hPm
  have e_1 : r_1 = A_back rd (xs (i + 1)) := q_1
  subst e_1
  refine lv_icmp_eq (tgt := 1091) hx hb dL_law_662 (by decide) (fun c_9 => ?_) (fun c_9 => ?_)
  ·
    exact kk _ _ ⟨n, fo, ki, st, we, lo, S_back rd (xs (i + 1)), rc, rv, sh, sla, sle, bg, tr, fa, n2, go, kj, sj, wj, lj, ti, ra, rch, q0, q1, q2, q3, fk, fc, hd, st_back hB, hPx, hPm⟩ hS
  · exact absurd rfl c_9
set_option maxHeartbeats 4000000 in
set_option maxRecDepth 100000 in
theorem law_c16 {p : Program} {l : Launch} {e : Env} {s : State} {m : MethodId} {below : List Frame} {meth : Method} {c : Code} {D : va_G} {cI cS : ClassId} {adx adm : Nat → Nat} {b L i : Nat} {xs : Nat → Int32} (hL : L ≤ 3072) (hi : i + 6 ≤ L) (C0 : lw_At p s m meth c b L xs) (C1 : LwC D cI cS s adx adm) {H : Heap} {locs : List Loc} (hI : LwS D cI cS adx adm H) (hS : va_S (LwA s) s.heap H locs) {ls : Array Slot} (hl : lv_has ls 4 [(0, .ref b), (1, .ref (adx 0)), (2, .ref (adm 0)), (3, .int (nI i))])
    (kk : ∀ (H : Heap) (locs : List Loc), LwS D cI cS adx adm H → va_S (LwA s) s.heap H locs → W p l e room_1 s m #[Value.ref b] below meth c H locs 600000 7302250 (lw_Z below #[Value.ref b] s) (F0 m 1091 ls [])) : W p l e room_1 s m #[Value.ref b] below meth c H locs 600000 7302250 (lw_Z below #[Value.ref b] s) (F0 m 667 ls []) := by
  obtain ⟨hx, hb, hr, hml, hown, hts0, hX, hbl, hlocks, hgv⟩ := id C0
  obtain ⟨hG, ndx, ndm, hdd, hAx, hAm⟩ := C1
  obtain ⟨n, fo, ki, st, we, lo, rd, rc, rv, sh, sla, sle, bg, tr, fa, n2, go, kj, sj, wj, lj, ti, ra, rch, q0, q1, q2, q3, fk, fc, hd, hB, hPx, hPm⟩ := hI
  obtain ⟨hn, hfo, hki, hst, hwe, hlo, hrd, hrc, hrv, hsla, hsle⟩ := id hB
  have hbA : ¬ LwA s b := Nat.not_le.mpr hbl
  have hts : ∀ w ∈ wsL_law, w.before #[Value.ref b] s = true := fun w h => hts0 w (wsL_law_in w h)
  have hF : CallFix p m c cL_law 4 s _ wsL_law RL := ⟨hx, hb, hml, hown, hts⟩
  refine lv_aload_n hx hb dL_law_667 rfl (lv_at hl 1 rfl) ?_
  refine lv_aload_n hx hb dL_law_668 rfl (lv_at hl 0 rfl) ?_
  refine lv_iload_n hx hb dL_law_669 rfl (lv_at hl 3 rfl) ?_
  refine lv_iconst (v := nI 1) hx hb dL_law_670 (by decide) ?_
  refine xaddN hx hb dL_law_671 ?_
  refine xsld hx hb hX hbl hbA hS (i + 1) rfl (by omega) hL dL_law_672 ?_
  refine xrd (va_runV (As := [.int (xs (i + 1))]) (rest := []) hF (c_X2_weights l D cI cS adx sh sla sle (bigF bg) n fo ki st we lo n2 go kj sj wj lj ti rc rv rd tr fa (xs (i + 1)) hn hki hwe hrd hrc hrv) (cwV 1 hts gL_law_X2_weights rfl rfl rfl hL_X2_weights ⟨(Nat.le_of_ble_eq_true rfl), (Nat.le_of_ble_eq_true rfl)⟩) (PR.preV hG hPx (ci := 2) rfl rfl) rfl rfl hl.1 rfl (lv_room (Nat.le_of_ble_eq_true rfl)) dL_law_673 ⟨(Nat.le_of_ble_eq_true rfl), (Nat.le_of_ble_eq_true rfl)⟩) ?_
  refine lv_aload_n hx hb dL_law_676 rfl (lv_at hl 2 rfl) ?_
  refine lv_aload_n hx hb dL_law_677 rfl (lv_at hl 0 rfl) ?_
  refine lv_iload_n hx hb dL_law_678 rfl (lv_at hl 3 rfl) ?_
  refine lv_iconst (v := nI 1) hx hb dL_law_679 (by decide) ?_
  refine xaddN hx hb dL_law_680 ?_
  refine xsld hx hb hX hbl hbA hS (i + 1) rfl (by omega) hL dL_law_681 ?_
  refine lawI (va_runV (As := [.int (xs (i + 1))]) (rest := [.int (A_weights n rd rc rv ki we (xs (i + 1)))]) hF (c_X3_weights l D cI cS adm fa n fo ki st we lo ra rch q0 q1 q2 q3 fk fc rd rc rv sh sle sla bg hd tr (xs (i + 1)) ndm hn hki hwe hrd hrc hrv) (cwV 1 hts gL_law_X3_weights rfl rfl rfl hL_X3_weights ⟨(Nat.le_of_ble_eq_true rfl), (Nat.le_of_ble_eq_true rfl)⟩) (PR.preV hG hPm (ci := 3) rfl rfl) rfl rfl hl.1 rfl (lv_room (Nat.le_of_ble_eq_true rfl)) dL_law_682 ⟨(Nat.le_of_ble_eq_true rfl), (Nat.le_of_ble_eq_true rfl)⟩) hS hAm hPx rfl (fun q h1 h2 => hdd q h2 h1) (fun r_1 u_1 H locs q_1 hPm hPx hS => ?_)
  try dsimp only at q_1 hPm
  have hPm : va_P D vwCl (wM cI adm fa n fo ki st we lo ra rch q0 q1 q2 q3 fk fc rd rc rv sh sle sla bg hd tr) H := hPm
  have e_1 : r_1 = A_weights n rd rc rv ki we (xs (i + 1)) := q_1
  subst e_1
  refine lv_icmp_eq (tgt := 1091) hx hb dL_law_685 (by decide) (fun c_9 => ?_) (fun c_9 => ?_)
  ·
    exact kk _ _ ⟨n, fo, ki, st, we, lo, rd, rc, rv, sh, sla, sle, bg, tr, fa, n2, go, kj, sj, wj, lj, ti, ra, rch, q0, q1, q2, q3, fk, fc, hd, hB, hPx, hPm⟩ hS
  · exact absurd rfl c_9
set_option maxHeartbeats 4000000 in
set_option maxRecDepth 100000 in
theorem law_c17 {p : Program} {l : Launch} {e : Env} {s : State} {m : MethodId} {below : List Frame} {meth : Method} {c : Code} {D : va_G} {cI cS : ClassId} {adx adm : Nat → Nat} {b L i : Nat} {xs : Nat → Int32} (hL : L ≤ 3072) (hi : i + 6 ≤ L) (C0 : lw_At p s m meth c b L xs) (C1 : LwC D cI cS s adx adm) {H : Heap} {locs : List Loc} (hI : LwS D cI cS adx adm H) (hS : va_S (LwA s) s.heap H locs) {ls : Array Slot} (hl : lv_has ls 4 [(0, .ref b), (1, .ref (adx 0)), (2, .ref (adm 0)), (3, .int (nI i))])
    (kk : ∀ (H : Heap) (locs : List Loc), LwS D cI cS adx adm H → va_S (LwA s) s.heap H locs → W p l e room_1 s m #[Value.ref b] below meth c H locs 600000 7302250 (lw_Z below #[Value.ref b] s) (F0 m 1091 ls [])) : W p l e room_1 s m #[Value.ref b] below meth c H locs 600000 7302250 (lw_Z below #[Value.ref b] s) (F0 m 690 ls []) := by
  obtain ⟨hx, hb, hr, hml, hown, hts0, hX, hbl, hlocks, hgv⟩ := id C0
  obtain ⟨hG, ndx, ndm, hdd, hAx, hAm⟩ := C1
  obtain ⟨n, fo, ki, st, we, lo, rd, rc, rv, sh, sla, sle, bg, tr, fa, n2, go, kj, sj, wj, lj, ti, ra, rch, q0, q1, q2, q3, fk, fc, hd, hB, hPx, hPm⟩ := hI
  obtain ⟨hn, hfo, hki, hst, hwe, hlo, hrd, hrc, hrv, hsla, hsle⟩ := id hB
  have hbA : ¬ LwA s b := Nat.not_le.mpr hbl
  have hts : ∀ w ∈ wsL_law, w.before #[Value.ref b] s = true := fun w h => hts0 w (wsL_law_in w h)
  have hF : CallFix p m c cL_law 4 s _ wsL_law RL := ⟨hx, hb, hml, hown, hts⟩
  refine lv_aload_n hx hb dL_law_690 rfl (lv_at hl 1 rfl) ?_
  refine lv_aload_n hx hb dL_law_691 rfl (lv_at hl 0 rfl) ?_
  refine lv_iload_n hx hb dL_law_692 rfl (lv_at hl 3 rfl) ?_
  refine lv_iconst (v := nI 1) hx hb dL_law_693 (by decide) ?_
  refine xaddN hx hb dL_law_694 ?_
  refine xsld hx hb hX hbl hbA hS (i + 1) rfl (by omega) hL dL_law_695 ?_
  refine xrd (va_runV (As := [.int (xs (i + 1))]) (rest := []) hF (c_X2_kinds l D cI cS adx sh sla sle (bigF bg) n fo ki st we lo n2 go kj sj wj lj ti rc rv rd tr fa (xs (i + 1)) hn hki hwe hrd hrc hrv) (cwV 1 hts gL_law_X2_kinds rfl rfl rfl hL_X2_kinds ⟨(Nat.le_of_ble_eq_true rfl), (Nat.le_of_ble_eq_true rfl)⟩) (PR.preV hG hPx (ci := 2) rfl rfl) rfl rfl hl.1 rfl (lv_room (Nat.le_of_ble_eq_true rfl)) dL_law_696 ⟨(Nat.le_of_ble_eq_true rfl), (Nat.le_of_ble_eq_true rfl)⟩) ?_
  refine lv_aload_n hx hb dL_law_699 rfl (lv_at hl 2 rfl) ?_
  refine lv_aload_n hx hb dL_law_700 rfl (lv_at hl 0 rfl) ?_
  refine lv_iload_n hx hb dL_law_701 rfl (lv_at hl 3 rfl) ?_
  refine lv_iconst (v := nI 1) hx hb dL_law_702 (by decide) ?_
  refine xaddN hx hb dL_law_703 ?_
  refine xsld hx hb hX hbl hbA hS (i + 1) rfl (by omega) hL dL_law_704 ?_
  refine lawI (va_runV (As := [.int (xs (i + 1))]) (rest := [.int (A_kinds n rd rc rv ki we (xs (i + 1)))]) hF (c_X3_kinds l D cI cS adm fa n fo ki st we lo ra rch q0 q1 q2 q3 fk fc rd rc rv sh sle sla bg hd tr (xs (i + 1)) ndm hn hki hwe hrd hrc hrv) (cwV 1 hts gL_law_X3_kinds rfl rfl rfl hL_X3_kinds ⟨(Nat.le_of_ble_eq_true rfl), (Nat.le_of_ble_eq_true rfl)⟩) (PR.preV hG hPm (ci := 3) rfl rfl) rfl rfl hl.1 rfl (lv_room (Nat.le_of_ble_eq_true rfl)) dL_law_705 ⟨(Nat.le_of_ble_eq_true rfl), (Nat.le_of_ble_eq_true rfl)⟩) hS hAm hPx rfl (fun q h1 h2 => hdd q h2 h1) (fun r_1 u_1 H locs q_1 hPm hPx hS => ?_)
  try dsimp only at q_1 hPm
  have hPm : va_P D vwCl (wM cI adm fa n fo ki st we lo ra rch q0 q1 q2 q3 fk fc rd rc rv sh sle sla bg hd tr) H := hPm
  have e_1 : r_1 = A_kinds n rd rc rv ki we (xs (i + 1)) := q_1
  subst e_1
  refine lv_icmp_eq (tgt := 1091) hx hb dL_law_708 (by decide) (fun c_9 => ?_) (fun c_9 => ?_)
  ·
    exact kk _ _ ⟨n, fo, ki, st, we, lo, rd, rc, rv, sh, sla, sle, bg, tr, fa, n2, go, kj, sj, wj, lj, ti, ra, rch, q0, q1, q2, q3, fk, fc, hd, hB, hPx, hPm⟩ hS
  · exact absurd rfl c_9
set_option maxHeartbeats 4000000 in
set_option maxRecDepth 100000 in
theorem law_c18 {p : Program} {l : Launch} {e : Env} {s : State} {m : MethodId} {below : List Frame} {meth : Method} {c : Code} {D : va_G} {cI cS : ClassId} {adx adm : Nat → Nat} {b L i : Nat} {xs : Nat → Int32} (hL : L ≤ 3072) (hi : i + 6 ≤ L) (C0 : lw_At p s m meth c b L xs) (C1 : LwC D cI cS s adx adm) {H : Heap} {locs : List Loc} (hI : LwS D cI cS adx adm H) (hS : va_S (LwA s) s.heap H locs) {ls : Array Slot} (hl : lv_has ls 4 [(0, .ref b), (1, .ref (adx 0)), (2, .ref (adm 0)), (3, .int (nI i))])
    (kk : ∀ (H : Heap) (locs : List Loc), LwS D cI cS adx adm H → va_S (LwA s) s.heap H locs → W p l e room_1 s m #[Value.ref b] below meth c H locs 600000 7302250 (lw_Z below #[Value.ref b] s) (F0 m 1091 ls [])) : W p l e room_1 s m #[Value.ref b] below meth c H locs 600000 7302250 (lw_Z below #[Value.ref b] s) (F0 m 713 ls []) := by
  obtain ⟨hx, hb, hr, hml, hown, hts0, hX, hbl, hlocks, hgv⟩ := id C0
  obtain ⟨hG, ndx, ndm, hdd, hAx, hAm⟩ := C1
  obtain ⟨n, fo, ki, st, we, lo, rd, rc, rv, sh, sla, sle, bg, tr, fa, n2, go, kj, sj, wj, lj, ti, ra, rch, q0, q1, q2, q3, fk, fc, hd, hB, hPx, hPm⟩ := hI
  obtain ⟨hn, hfo, hki, hst, hwe, hlo, hrd, hrc, hrv, hsla, hsle⟩ := id hB
  have hbA : ¬ LwA s b := Nat.not_le.mpr hbl
  have hts : ∀ w ∈ wsL_law, w.before #[Value.ref b] s = true := fun w h => hts0 w (wsL_law_in w h)
  have hF : CallFix p m c cL_law 4 s _ wsL_law RL := ⟨hx, hb, hml, hown, hts⟩
  refine lv_aload_n hx hb dL_law_713 rfl (lv_at hl 1 rfl) ?_
  refine lv_aload_n hx hb dL_law_714 rfl (lv_at hl 0 rfl) ?_
  refine lv_iload_n hx hb dL_law_715 rfl (lv_at hl 3 rfl) ?_
  refine lv_iconst (v := nI 1) hx hb dL_law_716 (by decide) ?_
  refine xaddN hx hb dL_law_717 ?_
  refine xsld hx hb hX hbl hbA hS (i + 1) rfl (by omega) hL dL_law_718 ?_
  refine lv_aload_n hx hb dL_law_719 rfl (lv_at hl 0 rfl) ?_
  refine lv_iload_n hx hb dL_law_720 rfl (lv_at hl 3 rfl) ?_
  refine lv_iconst (v := nI 2) hx hb dL_law_721 (by decide) ?_
  refine xaddN hx hb dL_law_722 ?_
  refine xsld hx hb hX hbl hbA hS (i + 2) rfl (by omega) hL dL_law_723 ?_
  refine xrdl (va_runV (As := [.int (xs (i + 1)), .int (xs (i + 2))]) (rest := []) hF (c_X2_odds l D cI cS adx sh sla sle (bigF bg) n fo ki st we lo n2 go kj sj wj lj ti rc rv rd tr fa (xs (i + 1)) (xs (i + 2)) hn hfo hki hwe hst hlo) (cwV 2 hts gL_law_X2_odds rfl rfl rfl hL_X2_odds ⟨(Nat.le_of_ble_eq_true rfl), (Nat.le_of_ble_eq_true rfl)⟩) (PR.preV hG hPx (ci := 2) rfl rfl) rfl rfl hl.1 rfl (lv_room (Nat.le_of_ble_eq_true rfl)) dL_law_724 ⟨(Nat.le_of_ble_eq_true rfl), (Nat.le_of_ble_eq_true rfl)⟩) ?_
  refine lv_aload_n hx hb dL_law_727 rfl (lv_at hl 2 rfl) ?_
  refine lv_aload_n hx hb dL_law_728 rfl (lv_at hl 0 rfl) ?_
  refine lv_iload_n hx hb dL_law_729 rfl (lv_at hl 3 rfl) ?_
  refine lv_iconst (v := nI 1) hx hb dL_law_730 (by decide) ?_
  refine xaddN hx hb dL_law_731 ?_
  refine xsld hx hb hX hbl hbA hS (i + 1) rfl (by omega) hL dL_law_732 ?_
  refine lv_aload_n hx hb dL_law_733 rfl (lv_at hl 0 rfl) ?_
  refine lv_iload_n hx hb dL_law_734 rfl (lv_at hl 3 rfl) ?_
  refine lv_iconst (v := nI 2) hx hb dL_law_735 (by decide) ?_
  refine xaddN hx hb dL_law_736 ?_
  refine xsld hx hb hX hbl hbA hS (i + 2) rfl (by omega) hL dL_law_737 ?_
  refine xrdl (va_runV (As := [.int (xs (i + 1)), .int (xs (i + 2))]) (rest := [.long (A_odds n fo ki we (xs (i + 1)) (xs (i + 2)))]) hF (c_X3_odds l D cI cS adm fa n fo ki st we lo ra rch q0 q1 q2 q3 fk fc rd rc rv sh sle sla bg hd tr (xs (i + 1)) (xs (i + 2)) hn hfo hki hwe hst hlo) (cwV 2 hts gL_law_X3_odds rfl rfl rfl hL_X3_odds ⟨(Nat.le_of_ble_eq_true rfl), (Nat.le_of_ble_eq_true rfl)⟩) (PR.preV hG hPm (ci := 3) rfl rfl) rfl rfl hl.1 rfl (lv_room (Nat.le_of_ble_eq_true rfl)) dL_law_738 ⟨(Nat.le_of_ble_eq_true rfl), (Nat.le_of_ble_eq_true rfl)⟩) ?_
  refine W.lcmp hx hb dL_law_741 ?_
  refine lv_if_eq (tgt := 1091) hx hb dL_law_742 (by decide) (fun c_9 => ?_) (fun c_9 => ?_)
  ·
    exact kk _ _ ⟨n, fo, ki, st, we, lo, rd, rc, rv, sh, sla, sle, bg, tr, fa, n2, go, kj, sj, wj, lj, ti, ra, rch, q0, q1, q2, q3, fk, fc, hd, hB, hPx, hPm⟩ hS
  · exact (c_9 (by rw [lg_cmp_eq])).elim
set_option maxHeartbeats 4000000 in
set_option maxRecDepth 100000 in
theorem law_c19 {p : Program} {l : Launch} {e : Env} {s : State} {m : MethodId} {below : List Frame} {meth : Method} {c : Code} {D : va_G} {cI cS : ClassId} {adx adm : Nat → Nat} {b L i : Nat} {xs : Nat → Int32} (hL : L ≤ 3072) (hi : i + 6 ≤ L) (C0 : lw_At p s m meth c b L xs) (C1 : LwC D cI cS s adx adm) {H : Heap} {locs : List Loc} (hI : LwS D cI cS adx adm H) (hS : va_S (LwA s) s.heap H locs) {ls : Array Slot} (hl : lv_has ls 4 [(0, .ref b), (1, .ref (adx 0)), (2, .ref (adm 0)), (3, .int (nI i))])
    (kk : ∀ (H : Heap) (locs : List Loc), LwS D cI cS adx adm H → va_S (LwA s) s.heap H locs → W p l e room_1 s m #[Value.ref b] below meth c H locs 600000 7302250 (lw_Z below #[Value.ref b] s) (F0 m 1091 ls [])) : W p l e room_1 s m #[Value.ref b] below meth c H locs 600000 7302250 (lw_Z below #[Value.ref b] s) (F0 m 747 ls []) := by
  obtain ⟨hx, hb, hr, hml, hown, hts0, hX, hbl, hlocks, hgv⟩ := id C0
  obtain ⟨hG, ndx, ndm, hdd, hAx, hAm⟩ := C1
  obtain ⟨n, fo, ki, st, we, lo, rd, rc, rv, sh, sla, sle, bg, tr, fa, n2, go, kj, sj, wj, lj, ti, ra, rch, q0, q1, q2, q3, fk, fc, hd, hB, hPx, hPm⟩ := hI
  obtain ⟨hn, hfo, hki, hst, hwe, hlo, hrd, hrc, hrv, hsla, hsle⟩ := id hB
  have hbA : ¬ LwA s b := Nat.not_le.mpr hbl
  have hts : ∀ w ∈ wsL_law, w.before #[Value.ref b] s = true := fun w h => hts0 w (wsL_law_in w h)
  have hF : CallFix p m c cL_law 4 s _ wsL_law RL := ⟨hx, hb, hml, hown, hts⟩
  refine lv_aload_n hx hb dL_law_747 rfl (lv_at hl 1 rfl) ?_
  refine lv_aload_n hx hb dL_law_748 rfl (lv_at hl 0 rfl) ?_
  refine lv_iload_n hx hb dL_law_749 rfl (lv_at hl 3 rfl) ?_
  refine lv_iconst (v := nI 1) hx hb dL_law_750 (by decide) ?_
  refine xaddN hx hb dL_law_751 ?_
  refine xsld hx hb hX hbl hbA hS (i + 1) rfl (by omega) hL dL_law_752 ?_
  refine lv_aload_n hx hb dL_law_753 rfl (lv_at hl 0 rfl) ?_
  refine lv_iload_n hx hb dL_law_754 rfl (lv_at hl 3 rfl) ?_
  refine lv_iconst (v := nI 2) hx hb dL_law_755 (by decide) ?_
  refine xaddN hx hb dL_law_756 ?_
  refine xsld hx hb hX hbl hbA hS (i + 2) rfl (by omega) hL dL_law_757 ?_
  refine lv_aload_n hx hb dL_law_758 rfl (lv_at hl 0 rfl) ?_
  refine lv_iload_n hx hb dL_law_759 rfl (lv_at hl 3 rfl) ?_
  refine lv_iconst (v := nI 3) hx hb dL_law_760 (by decide) ?_
  refine xaddN hx hb dL_law_761 ?_
  refine xsld hx hb hX hbl hbA hS (i + 3) rfl (by omega) hL dL_law_762 ?_
  refine lawI (va_runV (As := [.int (xs (i + 1)), .int (xs (i + 2)), .int (xs (i + 3))]) (rest := []) hF (c_X2_sheet l D cI cS adx sh sla sle (bigF bg) n fo ki st we lo n2 go kj sj wj lj ti rc rv rd tr fa (xs (i + 1)) (xs (i + 2)) (xs (i + 3)) ndx hsla hsle) (cwV 3 hts gL_law_X2_sheet rfl rfl rfl hL_X2_sheet ⟨(Nat.le_of_ble_eq_true rfl), (Nat.le_of_ble_eq_true rfl)⟩) (PR.preV hG hPx (ci := 2) rfl rfl) rfl rfl hl.1 rfl (lv_room (Nat.le_of_ble_eq_true rfl)) dL_law_763 ⟨(Nat.le_of_ble_eq_true rfl), (Nat.le_of_ble_eq_true rfl)⟩) hS hAx hPm rfl hdd (fun r_0 u_0 H locs q_0 hPx hPm hS => ?_)
  try dsimp only at q_0 hPx
  have hPx : va_P D vwCl (wX cI cS adx (ifU (okSheet (xs (i + 1)) (xs (i + 2)) (xs (i + 3))) sh (xs (i + 1)).toNatClampNeg true) (ifU (okSheet (xs (i + 1)) (xs (i + 2)) (xs (i + 3))) sla (xs (i + 1)).toNatClampNeg (xs (i + 2)).toNatClampNeg) (ifU (okSheet (xs (i + 1)) (xs (i + 2)) (xs (i + 3))) sle (xs (i + 1)).toNatClampNeg (xs (i + 3)).toNatClampNeg) (ifU (okSheet (xs (i + 1)) (xs (i + 2)) (xs (i + 3))) (bigF bg) (xs (i + 1)).toNatClampNeg (clrF (xs (i + 3)).toNatClampNeg ((bigF bg) (xs (i + 1)).toNatClampNeg))) n fo ki st we lo n2 go kj sj wj lj ti rc rv rd tr (S_sheet (xs (i + 1)) (xs (i + 2)) (xs (i + 3)))) H := hPx
  have e_0 : r_0 = A_sheet (xs (i + 1)) (xs (i + 2)) (xs (i + 3)) := q_0
  subst e_0
  refine lv_aload_n hx hb dL_law_766 rfl (lv_at hl 2 rfl) ?_
  refine lv_aload_n hx hb dL_law_767 rfl (lv_at hl 0 rfl) ?_
  refine lv_iload_n hx hb dL_law_768 rfl (lv_at hl 3 rfl) ?_
  refine lv_iconst (v := nI 1) hx hb dL_law_769 (by decide) ?_
  refine xaddN hx hb dL_law_770 ?_
  refine xsld hx hb hX hbl hbA hS (i + 1) rfl (by omega) hL dL_law_771 ?_
  refine lv_aload_n hx hb dL_law_772 rfl (lv_at hl 0 rfl) ?_
  refine lv_iload_n hx hb dL_law_773 rfl (lv_at hl 3 rfl) ?_
  refine lv_iconst (v := nI 2) hx hb dL_law_774 (by decide) ?_
  refine xaddN hx hb dL_law_775 ?_
  refine xsld hx hb hX hbl hbA hS (i + 2) rfl (by omega) hL dL_law_776 ?_
  refine lv_aload_n hx hb dL_law_777 rfl (lv_at hl 0 rfl) ?_
  refine lv_iload_n hx hb dL_law_778 rfl (lv_at hl 3 rfl) ?_
  refine lv_iconst (v := nI 3) hx hb dL_law_779 (by decide) ?_
  refine xaddN hx hb dL_law_780 ?_
  refine xsld hx hb hX hbl hbA hS (i + 3) rfl (by omega) hL dL_law_781 ?_
  refine lawI (va_runV (As := [.int (xs (i + 1)), .int (xs (i + 2)), .int (xs (i + 3))]) (rest := [.int (A_sheet (xs (i + 1)) (xs (i + 2)) (xs (i + 3)))]) hF (c_X3_sheet l D cI cS adm fa n fo ki st we lo ra rch q0 q1 q2 q3 fk fc rd rc rv sh sle sla bg hd tr (xs (i + 1)) (xs (i + 2)) (xs (i + 3)) ndm) (cwV 3 hts gL_law_X3_sheet rfl rfl rfl hL_X3_sheet ⟨(Nat.le_of_ble_eq_true rfl), (Nat.le_of_ble_eq_true rfl)⟩) (PR.preV hG hPm (ci := 3) rfl rfl) rfl rfl hl.1 rfl (lv_room (Nat.le_of_ble_eq_true rfl)) dL_law_782 ⟨(Nat.le_of_ble_eq_true rfl), (Nat.le_of_ble_eq_true rfl)⟩) hS hAm hPx rfl (fun q h1 h2 => hdd q h2 h1) (fun r_1 u_1 H locs q_1 hPm hPx hS => ?_)
  try dsimp only at q_1 hPm
  have hPm : va_P D vwCl (wM cI adm (S_sheet (xs (i + 1)) (xs (i + 2)) (xs (i + 3))) n fo ki st we lo ra rch q0 q1 q2 q3 fk fc rd rc rv (ifU (okSheet (xs (i + 1)) (xs (i + 2)) (xs (i + 3))) sh (xs (i + 1)).toNatClampNeg true) (ifU (okSheet (xs (i + 1)) (xs (i + 2)) (xs (i + 3))) sle (xs (i + 1)).toNatClampNeg (xs (i + 3)).toNatClampNeg) (ifU (okSheet (xs (i + 1)) (xs (i + 2)) (xs (i + 3))) sla (xs (i + 1)).toNatClampNeg (xs (i + 2)).toNatClampNeg) (ifO (okSheet (xs (i + 1)) (xs (i + 2)) (xs (i + 3))) (clG (xs (i + 3)).toNatClampNeg (60 * (xs (i + 1)).toNatClampNeg) bg) bg) hd tr) H := hPm
  have e_1 : r_1 = A_sheet (xs (i + 1)) (xs (i + 2)) (xs (i + 3)) := q_1
  subst e_1
  refine lv_icmp_eq (tgt := 1091) hx hb dL_law_785 (by decide) (fun c_9 => ?_) (fun c_9 => ?_)
  ·
    have hPx : va_P D vwCl (wX cI cS adx (ifU (okSheet (xs (i + 1)) (xs (i + 2)) (xs (i + 3))) sh (xs (i + 1)).toNatClampNeg true) (ifU (okSheet (xs (i + 1)) (xs (i + 2)) (xs (i + 3))) sla (xs (i + 1)).toNatClampNeg (xs (i + 2)).toNatClampNeg) (ifU (okSheet (xs (i + 1)) (xs (i + 2)) (xs (i + 3))) sle (xs (i + 1)).toNatClampNeg (xs (i + 3)).toNatClampNeg) (bigF (ifO (okSheet (xs (i + 1)) (xs (i + 2)) (xs (i + 3))) (clG (xs (i + 3)).toNatClampNeg (60 * (xs (i + 1)).toNatClampNeg) bg) bg)) n fo ki st we lo n2 go kj sj wj lj ti rc rv rd tr (S_sheet (xs (i + 1)) (xs (i + 2)) (xs (i + 3)))) H := wX_sf hPx (bg_sheet)
    exact kk _ _ ⟨n, fo, ki, st, we, lo, rd, rc, rv, ifU (okSheet (xs (i + 1)) (xs (i + 2)) (xs (i + 3))) sh (xs (i + 1)).toNatClampNeg true, ifU (okSheet (xs (i + 1)) (xs (i + 2)) (xs (i + 3))) sla (xs (i + 1)).toNatClampNeg (xs (i + 2)).toNatClampNeg, ifU (okSheet (xs (i + 1)) (xs (i + 2)) (xs (i + 3))) sle (xs (i + 1)).toNatClampNeg (xs (i + 3)).toNatClampNeg, ifO (okSheet (xs (i + 1)) (xs (i + 2)) (xs (i + 3))) (clG (xs (i + 3)).toNatClampNeg (60 * (xs (i + 1)).toNatClampNeg) bg) bg, tr, S_sheet (xs (i + 1)) (xs (i + 2)) (xs (i + 3)), n2, go, kj, sj, wj, lj, ti, ra, rch, q0, q1, q2, q3, fk, fc, hd, st_sheet hB, hPx, hPm⟩ hS
  · exact absurd rfl c_9
set_option maxHeartbeats 4000000 in
set_option maxRecDepth 100000 in
theorem law_c20 {p : Program} {l : Launch} {e : Env} {s : State} {m : MethodId} {below : List Frame} {meth : Method} {c : Code} {D : va_G} {cI cS : ClassId} {adx adm : Nat → Nat} {b L i : Nat} {xs : Nat → Int32} (hL : L ≤ 3072) (hi : i + 6 ≤ L) (C0 : lw_At p s m meth c b L xs) (C1 : LwC D cI cS s adx adm) {H : Heap} {locs : List Loc} (hI : LwS D cI cS adx adm H) (hS : va_S (LwA s) s.heap H locs) {ls : Array Slot} (hl : lv_has ls 4 [(0, .ref b), (1, .ref (adx 0)), (2, .ref (adm 0)), (3, .int (nI i))])
    (kk : ∀ (H : Heap) (locs : List Loc), LwS D cI cS adx adm H → va_S (LwA s) s.heap H locs → W p l e room_1 s m #[Value.ref b] below meth c H locs 600000 7302250 (lw_Z below #[Value.ref b] s) (F0 m 1091 ls [])) : W p l e room_1 s m #[Value.ref b] below meth c H locs 600000 7302250 (lw_Z below #[Value.ref b] s) (F0 m 790 ls []) := by
  obtain ⟨hx, hb, hr, hml, hown, hts0, hX, hbl, hlocks, hgv⟩ := id C0
  obtain ⟨hG, ndx, ndm, hdd, hAx, hAm⟩ := C1
  obtain ⟨n, fo, ki, st, we, lo, rd, rc, rv, sh, sla, sle, bg, tr, fa, n2, go, kj, sj, wj, lj, ti, ra, rch, q0, q1, q2, q3, fk, fc, hd, hB, hPx, hPm⟩ := hI
  obtain ⟨hn, hfo, hki, hst, hwe, hlo, hrd, hrc, hrv, hsla, hsle⟩ := id hB
  have hbA : ¬ LwA s b := Nat.not_le.mpr hbl
  have hts : ∀ w ∈ wsL_law, w.before #[Value.ref b] s = true := fun w h => hts0 w (wsL_law_in w h)
  have hF : CallFix p m c cL_law 4 s _ wsL_law RL := ⟨hx, hb, hml, hown, hts⟩
  refine lv_aload_n hx hb dL_law_790 rfl (lv_at hl 1 rfl) ?_
  refine lv_aload_n hx hb dL_law_791 rfl (lv_at hl 0 rfl) ?_
  refine lv_iload_n hx hb dL_law_792 rfl (lv_at hl 3 rfl) ?_
  refine lv_iconst (v := nI 1) hx hb dL_law_793 (by decide) ?_
  refine xaddN hx hb dL_law_794 ?_
  refine xsld hx hb hX hbl hbA hS (i + 1) rfl (by omega) hL dL_law_795 ?_
  refine lawI (va_runV (As := [.int (xs (i + 1))]) (rest := []) hF (c_X2_lose l D cI cS adx sh sla sle (bigF bg) n fo ki st we lo n2 go kj sj wj lj ti rc rv rd tr fa (xs (i + 1)) ndx) (cwV 1 hts gL_law_X2_lose rfl rfl rfl hL_X2_lose ⟨(Nat.le_of_ble_eq_true rfl), (Nat.le_of_ble_eq_true rfl)⟩) (PR.preV hG hPx (ci := 2) rfl rfl) rfl rfl hl.1 rfl (lv_room (Nat.le_of_ble_eq_true rfl)) dL_law_796 ⟨(Nat.le_of_ble_eq_true rfl), (Nat.le_of_ble_eq_true rfl)⟩) hS hAx hPm rfl hdd (fun r_0 u_0 H locs q_0 hPx hPm hS => ?_)
  try dsimp only at q_0 hPx
  have hPx : va_P D vwCl (wX cI cS adx (ifU (rgB 0 3 (xs (i + 1))) sh (xs (i + 1)).toNatClampNeg false) sla sle (bigF bg) n fo ki st we lo n2 go kj sj wj lj ti rc rv rd tr fa) H := hPx
  have e_0 : r_0 = A_lose sh (xs (i + 1)) := q_0
  subst e_0
  refine lv_aload_n hx hb dL_law_799 rfl (lv_at hl 2 rfl) ?_
  refine lv_aload_n hx hb dL_law_800 rfl (lv_at hl 0 rfl) ?_
  refine lv_iload_n hx hb dL_law_801 rfl (lv_at hl 3 rfl) ?_
  refine lv_iconst (v := nI 1) hx hb dL_law_802 (by decide) ?_
  refine xaddN hx hb dL_law_803 ?_
  refine xsld hx hb hX hbl hbA hS (i + 1) rfl (by omega) hL dL_law_804 ?_
  refine lawI (va_runV (As := [.int (xs (i + 1))]) (rest := [.int (A_lose sh (xs (i + 1)))]) hF (c_X3_lose l D cI cS adm fa n fo ki st we lo ra rch q0 q1 q2 q3 fk fc rd rc rv sh sle sla bg hd tr (xs (i + 1)) ndm hsle) (cwV 1 hts gL_law_X3_lose rfl rfl rfl hL_X3_lose ⟨(Nat.le_of_ble_eq_true rfl), (Nat.le_of_ble_eq_true rfl)⟩) (PR.preV hG hPm (ci := 3) rfl rfl) rfl rfl hl.1 rfl (lv_room (Nat.le_of_ble_eq_true rfl)) dL_law_805 ⟨(Nat.le_of_ble_eq_true rfl), (Nat.le_of_ble_eq_true rfl)⟩) hS hAm hPx rfl (fun q h1 h2 => hdd q h2 h1) (fun r_1 u_1 H locs q_1 hPm hPx hS => ?_)
  try dsimp only at q_1 hPm
  have hPm : va_P D vwCl (wM cI adm fa n fo ki st we lo ra rch q0 q1 q2 q3 fk fc rd rc rv (ifU (rgB 0 3 (xs (i + 1))) sh (xs (i + 1)).toNatClampNeg false) sle sla bg hd tr) H := hPm
  have e_1 : r_1 = A_lose sh (xs (i + 1)) := q_1
  subst e_1
  refine lv_icmp_eq (tgt := 1091) hx hb dL_law_808 (by decide) (fun c_9 => ?_) (fun c_9 => ?_)
  ·
    exact kk _ _ ⟨n, fo, ki, st, we, lo, rd, rc, rv, ifU (rgB 0 3 (xs (i + 1))) sh (xs (i + 1)).toNatClampNeg false, sla, sle, bg, tr, fa, n2, go, kj, sj, wj, lj, ti, ra, rch, q0, q1, q2, q3, fk, fc, hd, hB, hPx, hPm⟩ hS
  · exact absurd rfl c_9
set_option maxHeartbeats 4000000 in
set_option maxRecDepth 100000 in
theorem law_c21 {p : Program} {l : Launch} {e : Env} {s : State} {m : MethodId} {below : List Frame} {meth : Method} {c : Code} {D : va_G} {cI cS : ClassId} {adx adm : Nat → Nat} {b L i : Nat} {xs : Nat → Int32} (hL : L ≤ 3072) (hi : i + 6 ≤ L) (C0 : lw_At p s m meth c b L xs) (C1 : LwC D cI cS s adx adm) {H : Heap} {locs : List Loc} (hI : LwS D cI cS adx adm H) (hS : va_S (LwA s) s.heap H locs) {ls : Array Slot} (hl : lv_has ls 4 [(0, .ref b), (1, .ref (adx 0)), (2, .ref (adm 0)), (3, .int (nI i))])
    (kk : ∀ (H : Heap) (locs : List Loc), LwS D cI cS adx adm H → va_S (LwA s) s.heap H locs → W p l e room_1 s m #[Value.ref b] below meth c H locs 600000 7302250 (lw_Z below #[Value.ref b] s) (F0 m 1091 ls [])) : W p l e room_1 s m #[Value.ref b] below meth c H locs 600000 7302250 (lw_Z below #[Value.ref b] s) (F0 m 813 ls []) := by
  obtain ⟨hx, hb, hr, hml, hown, hts0, hX, hbl, hlocks, hgv⟩ := id C0
  obtain ⟨hG, ndx, ndm, hdd, hAx, hAm⟩ := C1
  obtain ⟨n, fo, ki, st, we, lo, rd, rc, rv, sh, sla, sle, bg, tr, fa, n2, go, kj, sj, wj, lj, ti, ra, rch, q0, q1, q2, q3, fk, fc, hd, hB, hPx, hPm⟩ := hI
  obtain ⟨hn, hfo, hki, hst, hwe, hlo, hrd, hrc, hrv, hsla, hsle⟩ := id hB
  have hbA : ¬ LwA s b := Nat.not_le.mpr hbl
  have hts : ∀ w ∈ wsL_law, w.before #[Value.ref b] s = true := fun w h => hts0 w (wsL_law_in w h)
  have hF : CallFix p m c cL_law 4 s _ wsL_law RL := ⟨hx, hb, hml, hown, hts⟩
  refine lv_aload_n hx hb dL_law_813 rfl (lv_at hl 1 rfl) ?_
  refine lv_aload_n hx hb dL_law_814 rfl (lv_at hl 0 rfl) ?_
  refine lv_iload_n hx hb dL_law_815 rfl (lv_at hl 3 rfl) ?_
  refine lv_iconst (v := nI 1) hx hb dL_law_816 (by decide) ?_
  refine xaddN hx hb dL_law_817 ?_
  refine xsld hx hb hX hbl hbA hS (i + 1) rfl (by omega) hL dL_law_818 ?_
  refine lv_aload_n hx hb dL_law_819 rfl (lv_at hl 0 rfl) ?_
  refine lv_iload_n hx hb dL_law_820 rfl (lv_at hl 3 rfl) ?_
  refine lv_iconst (v := nI 2) hx hb dL_law_821 (by decide) ?_
  refine xaddN hx hb dL_law_822 ?_
  refine xsld hx hb hX hbl hbA hS (i + 2) rfl (by omega) hL dL_law_823 ?_
  refine lv_aload_n hx hb dL_law_824 rfl (lv_at hl 0 rfl) ?_
  refine lv_iload_n hx hb dL_law_825 rfl (lv_at hl 3 rfl) ?_
  refine lv_iconst (v := nI 3) hx hb dL_law_826 (by decide) ?_
  refine xaddN hx hb dL_law_827 ?_
  refine xsld hx hb hX hbl hbA hS (i + 3) rfl (by omega) hL dL_law_828 ?_
  refine lawI (va_runV (As := [.int (xs (i + 1)), .int (xs (i + 2)), .int (xs (i + 3))]) (rest := []) hF (c_X2_put l D cI cS adx sh sla sle (bigF bg) n fo ki st we lo n2 go kj sj wj lj ti rc rv rd tr fa (xs (i + 1)) (xs (i + 2)) (xs (i + 3)) ndx hsla hsle) (cwV 3 hts gL_law_X2_put rfl rfl rfl hL_X2_put ⟨(Nat.le_of_ble_eq_true rfl), (Nat.le_of_ble_eq_true rfl)⟩) (PR.preV hG hPx (ci := 2) rfl rfl) rfl rfl hl.1 rfl (lv_room (Nat.le_of_ble_eq_true rfl)) dL_law_829 ⟨(Nat.le_of_ble_eq_true rfl), (Nat.le_of_ble_eq_true rfl)⟩) hS hAx hPm rfl hdd (fun r_0 u_0 H locs q_0 hPx hPm hS => ?_)
  try dsimp only at q_0 hPx
  have hPx : va_P D vwCl (wX cI cS adx sh sla sle (ifU (okPut sh sle (xs (i + 1)) (xs (i + 2))) (bigF bg) (xs (i + 1)).toNatClampNeg (upd ((bigF bg) (xs (i + 1)).toNatClampNeg) (xs (i + 2)).toNatClampNeg (cutF (sla (xs (i + 1)).toNatClampNeg) (xs (i + 3))))) n fo ki st we lo n2 go kj sj wj lj ti rc rv rd tr (S_put sh sle (xs (i + 1)) (xs (i + 2)))) H := hPx
  have e_0 : r_0 = A_put sh sle (xs (i + 1)) (xs (i + 2)) := q_0
  subst e_0
  refine lv_aload_n hx hb dL_law_832 rfl (lv_at hl 2 rfl) ?_
  refine lv_aload_n hx hb dL_law_833 rfl (lv_at hl 0 rfl) ?_
  refine lv_iload_n hx hb dL_law_834 rfl (lv_at hl 3 rfl) ?_
  refine lv_iconst (v := nI 1) hx hb dL_law_835 (by decide) ?_
  refine xaddN hx hb dL_law_836 ?_
  refine xsld hx hb hX hbl hbA hS (i + 1) rfl (by omega) hL dL_law_837 ?_
  refine lv_aload_n hx hb dL_law_838 rfl (lv_at hl 0 rfl) ?_
  refine lv_iload_n hx hb dL_law_839 rfl (lv_at hl 3 rfl) ?_
  refine lv_iconst (v := nI 2) hx hb dL_law_840 (by decide) ?_
  refine xaddN hx hb dL_law_841 ?_
  refine xsld hx hb hX hbl hbA hS (i + 2) rfl (by omega) hL dL_law_842 ?_
  refine lv_aload_n hx hb dL_law_843 rfl (lv_at hl 0 rfl) ?_
  refine lv_iload_n hx hb dL_law_844 rfl (lv_at hl 3 rfl) ?_
  refine lv_iconst (v := nI 3) hx hb dL_law_845 (by decide) ?_
  refine xaddN hx hb dL_law_846 ?_
  refine xsld hx hb hX hbl hbA hS (i + 3) rfl (by omega) hL dL_law_847 ?_
  refine lawI (va_runV (As := [.int (xs (i + 1)), .int (xs (i + 2)), .int (xs (i + 3))]) (rest := [.int (A_put sh sle (xs (i + 1)) (xs (i + 2)))]) hF (c_X3_put l D cI cS adm fa n fo ki st we lo ra rch q0 q1 q2 q3 fk fc rd rc rv sh sle sla bg hd tr (xs (i + 1)) (xs (i + 2)) (xs (i + 3)) ndm hsla hsle) (cwV 3 hts gL_law_X3_put rfl rfl rfl hL_X3_put ⟨(Nat.le_of_ble_eq_true rfl), (Nat.le_of_ble_eq_true rfl)⟩) (PR.preV hG hPm (ci := 3) rfl rfl) rfl rfl hl.1 rfl (lv_room (Nat.le_of_ble_eq_true rfl)) dL_law_848 ⟨(Nat.le_of_ble_eq_true rfl), (Nat.le_of_ble_eq_true rfl)⟩) hS hAm hPx rfl (fun q h1 h2 => hdd q h2 h1) (fun r_1 u_1 H locs q_1 hPm hPx hS => ?_)
  try dsimp only at q_1 hPm
  have hPm : va_P D vwCl (wM cI adm (S_put sh sle (xs (i + 1)) (xs (i + 2))) n fo ki st we lo ra rch q0 q1 q2 q3 fk fc rd rc rv sh sle sla (ifO (okPut sh sle (xs (i + 1)) (xs (i + 2))) (upd bg (60 * (xs (i + 1)).toNatClampNeg + (xs (i + 2)).toNatClampNeg) (cutF (sla (xs (i + 1)).toNatClampNeg) (xs (i + 3)))) bg) hd tr) H := hPm
  have e_1 : r_1 = A_put sh sle (xs (i + 1)) (xs (i + 2)) := q_1
  subst e_1
  refine lv_icmp_eq (tgt := 1091) hx hb dL_law_851 (by decide) (fun c_9 => ?_) (fun c_9 => ?_)
  ·
    have hPx : va_P D vwCl (wX cI cS adx sh sla sle (bigF (ifO (okPut sh sle (xs (i + 1)) (xs (i + 2))) (upd bg (60 * (xs (i + 1)).toNatClampNeg + (xs (i + 2)).toNatClampNeg) (cutF (sla (xs (i + 1)).toNatClampNeg) (xs (i + 3)))) bg)) n fo ki st we lo n2 go kj sj wj lj ti rc rv rd tr (S_put sh sle (xs (i + 1)) (xs (i + 2)))) H := wX_sf hPx (bg_put hsle)
    exact kk _ _ ⟨n, fo, ki, st, we, lo, rd, rc, rv, sh, sla, sle, ifO (okPut sh sle (xs (i + 1)) (xs (i + 2))) (upd bg (60 * (xs (i + 1)).toNatClampNeg + (xs (i + 2)).toNatClampNeg) (cutF (sla (xs (i + 1)).toNatClampNeg) (xs (i + 3)))) bg, tr, S_put sh sle (xs (i + 1)) (xs (i + 2)), n2, go, kj, sj, wj, lj, ti, ra, rch, q0, q1, q2, q3, fk, fc, hd, hB, hPx, hPm⟩ hS
  · exact absurd rfl c_9
set_option maxHeartbeats 4000000 in
set_option maxRecDepth 100000 in
theorem law_c22 {p : Program} {l : Launch} {e : Env} {s : State} {m : MethodId} {below : List Frame} {meth : Method} {c : Code} {D : va_G} {cI cS : ClassId} {adx adm : Nat → Nat} {b L i : Nat} {xs : Nat → Int32} (hL : L ≤ 3072) (hi : i + 6 ≤ L) (C0 : lw_At p s m meth c b L xs) (C1 : LwC D cI cS s adx adm) {H : Heap} {locs : List Loc} (hI : LwS D cI cS adx adm H) (hS : va_S (LwA s) s.heap H locs) {ls : Array Slot} (hl : lv_has ls 4 [(0, .ref b), (1, .ref (adx 0)), (2, .ref (adm 0)), (3, .int (nI i))])
    (kk : ∀ (H : Heap) (locs : List Loc), LwS D cI cS adx adm H → va_S (LwA s) s.heap H locs → W p l e room_1 s m #[Value.ref b] below meth c H locs 600000 7302250 (lw_Z below #[Value.ref b] s) (F0 m 1091 ls [])) : W p l e room_1 s m #[Value.ref b] below meth c H locs 600000 7302250 (lw_Z below #[Value.ref b] s) (F0 m 856 ls []) := by
  obtain ⟨hx, hb, hr, hml, hown, hts0, hX, hbl, hlocks, hgv⟩ := id C0
  obtain ⟨hG, ndx, ndm, hdd, hAx, hAm⟩ := C1
  obtain ⟨n, fo, ki, st, we, lo, rd, rc, rv, sh, sla, sle, bg, tr, fa, n2, go, kj, sj, wj, lj, ti, ra, rch, q0, q1, q2, q3, fk, fc, hd, hB, hPx, hPm⟩ := hI
  obtain ⟨hn, hfo, hki, hst, hwe, hlo, hrd, hrc, hrv, hsla, hsle⟩ := id hB
  have hbA : ¬ LwA s b := Nat.not_le.mpr hbl
  have hts : ∀ w ∈ wsL_law, w.before #[Value.ref b] s = true := fun w h => hts0 w (wsL_law_in w h)
  have hF : CallFix p m c cL_law 4 s _ wsL_law RL := ⟨hx, hb, hml, hown, hts⟩
  refine lv_aload_n hx hb dL_law_856 rfl (lv_at hl 1 rfl) ?_
  refine lv_aload_n hx hb dL_law_857 rfl (lv_at hl 0 rfl) ?_
  refine lv_iload_n hx hb dL_law_858 rfl (lv_at hl 3 rfl) ?_
  refine lv_iconst (v := nI 1) hx hb dL_law_859 (by decide) ?_
  refine xaddN hx hb dL_law_860 ?_
  refine xsld hx hb hX hbl hbA hS (i + 1) rfl (by omega) hL dL_law_861 ?_
  refine lv_aload_n hx hb dL_law_862 rfl (lv_at hl 0 rfl) ?_
  refine lv_iload_n hx hb dL_law_863 rfl (lv_at hl 3 rfl) ?_
  refine lv_iconst (v := nI 2) hx hb dL_law_864 (by decide) ?_
  refine xaddN hx hb dL_law_865 ?_
  refine xsld hx hb hX hbl hbA hS (i + 2) rfl (by omega) hL dL_law_866 ?_
  refine lv_aload_n hx hb dL_law_867 rfl (lv_at hl 0 rfl) ?_
  refine lv_iload_n hx hb dL_law_868 rfl (lv_at hl 3 rfl) ?_
  refine lv_iconst (v := nI 3) hx hb dL_law_869 (by decide) ?_
  refine xaddN hx hb dL_law_870 ?_
  refine xsld hx hb hX hbl hbA hS (i + 3) rfl (by omega) hL dL_law_871 ?_
  refine lawL (va_runV (As := [.int (xs (i + 1)), .int (xs (i + 2)), .int (xs (i + 3))]) (rest := []) hF (c_X2_cell l D cI cS adx sh sla sle (bigF bg) n fo ki st we lo n2 go kj sj wj lj ti rc rv rd tr fa (xs (i + 1)) (xs (i + 2)) (xs (i + 3)) ndx hsla hsle) (cwV 3 hts gL_law_X2_cell rfl rfl rfl hL_X2_cell ⟨(Nat.le_of_ble_eq_true rfl), (Nat.le_of_ble_eq_true rfl)⟩) (PR.preV hG hPx (ci := 2) rfl rfl) rfl rfl hl.1 rfl (lv_room (Nat.le_of_ble_eq_true rfl)) dL_law_872 ⟨(Nat.le_of_ble_eq_true rfl), (Nat.le_of_ble_eq_true rfl)⟩) hS hAx hPm rfl hdd (fun r_0 u_0 H locs q_0 hPx hPm hS => ?_)
  try dsimp only at q_0 hPx
  have hPx : va_P D vwCl (wX cI cS adx sh sla sle (bigF bg) n fo ki st we lo n2 go kj sj wj lj ti rc rv rd tr (S_cell sh sla sle (xs (i + 1)) (xs (i + 2)) (xs (i + 3)))) H := hPx
  have e_0 : r_0 = A_cell sh sla sle (bigF bg) (xs (i + 1)) (xs (i + 2)) (xs (i + 3)) := q_0
  subst e_0
  refine lv_aload_n hx hb dL_law_875 rfl (lv_at hl 2 rfl) ?_
  refine lv_aload_n hx hb dL_law_876 rfl (lv_at hl 0 rfl) ?_
  refine lv_iload_n hx hb dL_law_877 rfl (lv_at hl 3 rfl) ?_
  refine lv_iconst (v := nI 1) hx hb dL_law_878 (by decide) ?_
  refine xaddN hx hb dL_law_879 ?_
  refine xsld hx hb hX hbl hbA hS (i + 1) rfl (by omega) hL dL_law_880 ?_
  refine lv_aload_n hx hb dL_law_881 rfl (lv_at hl 0 rfl) ?_
  refine lv_iload_n hx hb dL_law_882 rfl (lv_at hl 3 rfl) ?_
  refine lv_iconst (v := nI 2) hx hb dL_law_883 (by decide) ?_
  refine xaddN hx hb dL_law_884 ?_
  refine xsld hx hb hX hbl hbA hS (i + 2) rfl (by omega) hL dL_law_885 ?_
  refine lv_aload_n hx hb dL_law_886 rfl (lv_at hl 0 rfl) ?_
  refine lv_iload_n hx hb dL_law_887 rfl (lv_at hl 3 rfl) ?_
  refine lv_iconst (v := nI 3) hx hb dL_law_888 (by decide) ?_
  refine xaddN hx hb dL_law_889 ?_
  refine xsld hx hb hX hbl hbA hS (i + 3) rfl (by omega) hL dL_law_890 ?_
  refine lawL (va_runV (As := [.int (xs (i + 1)), .int (xs (i + 2)), .int (xs (i + 3))]) (rest := [.long (A_cell sh sla sle (bigF bg) (xs (i + 1)) (xs (i + 2)) (xs (i + 3)))]) hF (c_X3_cell l D cI cS adm fa n fo ki st we lo ra rch q0 q1 q2 q3 fk fc rd rc rv sh sle sla bg hd tr (xs (i + 1)) (xs (i + 2)) (xs (i + 3)) ndm hsla hsle) (cwV 3 hts gL_law_X3_cell rfl rfl rfl hL_X3_cell ⟨(Nat.le_of_ble_eq_true rfl), (Nat.le_of_ble_eq_true rfl)⟩) (PR.preV hG hPm (ci := 3) rfl rfl) rfl rfl hl.1 rfl (lv_room (Nat.le_of_ble_eq_true rfl)) dL_law_891 ⟨(Nat.le_of_ble_eq_true rfl), (Nat.le_of_ble_eq_true rfl)⟩) hS hAm hPx rfl (fun q h1 h2 => hdd q h2 h1) (fun r_1 u_1 H locs q_1 hPm hPx hS => ?_)
  try dsimp only at q_1 hPm
  have hPm : va_P D vwCl (wM cI adm (S_cell sh sla sle (xs (i + 1)) (xs (i + 2)) (xs (i + 3))) n fo ki st we lo ra rch q0 q1 q2 q3 fk fc rd rc rv sh sle sla bg hd tr) H := hPm
  have e_1 : r_1 = A_cell sh sla sle (bigF bg) (xs (i + 1)) (xs (i + 2)) (xs (i + 3)) := q_1
  subst e_1
  refine W.lcmp hx hb dL_law_894 ?_
  refine lv_if_eq (tgt := 1091) hx hb dL_law_895 (by decide) (fun c_9 => ?_) (fun c_9 => ?_)
  ·
    exact kk _ _ ⟨n, fo, ki, st, we, lo, rd, rc, rv, sh, sla, sle, bg, tr, S_cell sh sla sle (xs (i + 1)) (xs (i + 2)) (xs (i + 3)), n2, go, kj, sj, wj, lj, ti, ra, rch, q0, q1, q2, q3, fk, fc, hd, hB, hPx, hPm⟩ hS
  · exact (c_9 (by rw [lg_cmp_eq])).elim
set_option maxHeartbeats 4000000 in
set_option maxRecDepth 100000 in
theorem law_c23 {p : Program} {l : Launch} {e : Env} {s : State} {m : MethodId} {below : List Frame} {meth : Method} {c : Code} {D : va_G} {cI cS : ClassId} {adx adm : Nat → Nat} {b L i : Nat} {xs : Nat → Int32} (hL : L ≤ 3072) (hi : i + 6 ≤ L) (C0 : lw_At p s m meth c b L xs) (C1 : LwC D cI cS s adx adm) {H : Heap} {locs : List Loc} (hI : LwS D cI cS adx adm H) (hS : va_S (LwA s) s.heap H locs) {ls : Array Slot} (hl : lv_has ls 4 [(0, .ref b), (1, .ref (adx 0)), (2, .ref (adm 0)), (3, .int (nI i))])
    (kk : ∀ (H : Heap) (locs : List Loc), LwS D cI cS adx adm H → va_S (LwA s) s.heap H locs → W p l e room_1 s m #[Value.ref b] below meth c H locs 600000 7302250 (lw_Z below #[Value.ref b] s) (F0 m 1091 ls [])) : W p l e room_1 s m #[Value.ref b] below meth c H locs 600000 7302250 (lw_Z below #[Value.ref b] s) (F0 m 900 ls []) := by
  obtain ⟨hx, hb, hr, hml, hown, hts0, hX, hbl, hlocks, hgv⟩ := id C0
  obtain ⟨hG, ndx, ndm, hdd, hAx, hAm⟩ := C1
  obtain ⟨n, fo, ki, st, we, lo, rd, rc, rv, sh, sla, sle, bg, tr, fa, n2, go, kj, sj, wj, lj, ti, ra, rch, q0, q1, q2, q3, fk, fc, hd, hB, hPx, hPm⟩ := hI
  obtain ⟨hn, hfo, hki, hst, hwe, hlo, hrd, hrc, hrv, hsla, hsle⟩ := id hB
  have hbA : ¬ LwA s b := Nat.not_le.mpr hbl
  have hts : ∀ w ∈ wsL_law, w.before #[Value.ref b] s = true := fun w h => hts0 w (wsL_law_in w h)
  have hF : CallFix p m c cL_law 4 s _ wsL_law RL := ⟨hx, hb, hml, hown, hts⟩
  refine lv_aload_n hx hb dL_law_900 rfl (lv_at hl 1 rfl) ?_
  refine lv_aload_n hx hb dL_law_901 rfl (lv_at hl 0 rfl) ?_
  refine lv_iload_n hx hb dL_law_902 rfl (lv_at hl 3 rfl) ?_
  refine lv_iconst (v := nI 1) hx hb dL_law_903 (by decide) ?_
  refine xaddN hx hb dL_law_904 ?_
  refine xsld hx hb hX hbl hbA hS (i + 1) rfl (by omega) hL dL_law_905 ?_
  refine lv_aload_n hx hb dL_law_906 rfl (lv_at hl 0 rfl) ?_
  refine lv_iload_n hx hb dL_law_907 rfl (lv_at hl 3 rfl) ?_
  refine lv_iconst (v := nI 2) hx hb dL_law_908 (by decide) ?_
  refine xaddN hx hb dL_law_909 ?_
  refine xsld hx hb hX hbl hbA hS (i + 2) rfl (by omega) hL dL_law_910 ?_
  refine lv_aload_n hx hb dL_law_911 rfl (lv_at hl 0 rfl) ?_
  refine lv_iload_n hx hb dL_law_912 rfl (lv_at hl 3 rfl) ?_
  refine lv_iconst (v := nI 3) hx hb dL_law_913 (by decide) ?_
  refine xaddN hx hb dL_law_914 ?_
  refine xsld hx hb hX hbl hbA hS (i + 3) rfl (by omega) hL dL_law_915 ?_
  refine lv_aload_n hx hb dL_law_916 rfl (lv_at hl 0 rfl) ?_
  refine lv_iload_n hx hb dL_law_917 rfl (lv_at hl 3 rfl) ?_
  refine lv_iconst (v := nI 4) hx hb dL_law_918 (by decide) ?_
  refine xaddN hx hb dL_law_919 ?_
  refine xsld hx hb hX hbl hbA hS (i + 4) rfl (by omega) hL dL_law_920 ?_
  refine lv_aload_n hx hb dL_law_921 rfl (lv_at hl 0 rfl) ?_
  refine lv_iload_n hx hb dL_law_922 rfl (lv_at hl 3 rfl) ?_
  refine lv_iconst (v := nI 5) hx hb dL_law_923 (by decide) ?_
  refine xaddN hx hb dL_law_924 ?_
  refine xsld hx hb hX hbl hbA hS (i + 5) rfl (by omega) hL dL_law_925 ?_
  refine lawI (va_runV (As := [.int (xs (i + 1)), .int (xs (i + 2)), .int (xs (i + 3)), .int (xs (i + 4)), .int (xs (i + 5))]) (rest := []) hF (c_X2_copy l D cI cS adx sh sla sle (bigF bg) n fo ki st we lo n2 go kj sj wj lj ti rc rv rd tr fa (xs (i + 1)) (xs (i + 2)) (xs (i + 3)) (xs (i + 4)) (xs (i + 5)) ndx hsla hsle) (cwV 5 hts gL_law_X2_copy rfl rfl rfl hL_X2_copy ⟨(Nat.le_of_ble_eq_true rfl), (Nat.le_of_ble_eq_true rfl)⟩) (PR.preV hG hPx (ci := 2) rfl rfl) rfl rfl hl.1 rfl (lv_room (Nat.le_of_ble_eq_true rfl)) dL_law_926 ⟨(Nat.le_of_ble_eq_true rfl), (Nat.le_of_ble_eq_true rfl)⟩) hS hAx hPm rfl hdd (fun r_0 u_0 H locs q_0 hPx hPm hS => ?_)
  try dsimp only at q_0 hPx
  have hPx : va_P D vwCl (wX cI cS adx sh sla sle (ifU (okCopy sh sla sle (xs (i + 1)) (xs (i + 2)) (xs (i + 3)) (xs (i + 4)) (xs (i + 5))) (bigF bg) (xs (i + 3)).toNatClampNeg (va_cpy ((bigF bg) (xs (i + 1)).toNatClampNeg) ((bigF bg) (xs (i + 3)).toNatClampNeg) (xs (i + 2)).toNatClampNeg (xs (i + 4)).toNatClampNeg (xs (i + 5)).toNatClampNeg)) n fo ki st we lo n2 go kj sj wj lj ti rc rv rd tr (S_copy sh sla sle (xs (i + 1)) (xs (i + 2)) (xs (i + 3)) (xs (i + 4)) (xs (i + 5)))) H := hPx
  have e_0 : r_0 = A_copy sh sla sle (xs (i + 1)) (xs (i + 2)) (xs (i + 3)) (xs (i + 4)) (xs (i + 5)) := q_0
  subst e_0
  refine lv_aload_n hx hb dL_law_929 rfl (lv_at hl 2 rfl) ?_
  refine lv_aload_n hx hb dL_law_930 rfl (lv_at hl 0 rfl) ?_
  refine lv_iload_n hx hb dL_law_931 rfl (lv_at hl 3 rfl) ?_
  refine lv_iconst (v := nI 1) hx hb dL_law_932 (by decide) ?_
  refine xaddN hx hb dL_law_933 ?_
  refine xsld hx hb hX hbl hbA hS (i + 1) rfl (by omega) hL dL_law_934 ?_
  refine lv_aload_n hx hb dL_law_935 rfl (lv_at hl 0 rfl) ?_
  refine lv_iload_n hx hb dL_law_936 rfl (lv_at hl 3 rfl) ?_
  refine lv_iconst (v := nI 2) hx hb dL_law_937 (by decide) ?_
  refine xaddN hx hb dL_law_938 ?_
  refine xsld hx hb hX hbl hbA hS (i + 2) rfl (by omega) hL dL_law_939 ?_
  refine lv_aload_n hx hb dL_law_940 rfl (lv_at hl 0 rfl) ?_
  refine lv_iload_n hx hb dL_law_941 rfl (lv_at hl 3 rfl) ?_
  refine lv_iconst (v := nI 3) hx hb dL_law_942 (by decide) ?_
  refine xaddN hx hb dL_law_943 ?_
  refine xsld hx hb hX hbl hbA hS (i + 3) rfl (by omega) hL dL_law_944 ?_
  refine lv_aload_n hx hb dL_law_945 rfl (lv_at hl 0 rfl) ?_
  refine lv_iload_n hx hb dL_law_946 rfl (lv_at hl 3 rfl) ?_
  refine lv_iconst (v := nI 4) hx hb dL_law_947 (by decide) ?_
  refine xaddN hx hb dL_law_948 ?_
  refine xsld hx hb hX hbl hbA hS (i + 4) rfl (by omega) hL dL_law_949 ?_
  refine lv_aload_n hx hb dL_law_950 rfl (lv_at hl 0 rfl) ?_
  refine lv_iload_n hx hb dL_law_951 rfl (lv_at hl 3 rfl) ?_
  refine lv_iconst (v := nI 5) hx hb dL_law_952 (by decide) ?_
  refine xaddN hx hb dL_law_953 ?_
  refine xsld hx hb hX hbl hbA hS (i + 5) rfl (by omega) hL dL_law_954 ?_
  refine lawI (va_runV (As := [.int (xs (i + 1)), .int (xs (i + 2)), .int (xs (i + 3)), .int (xs (i + 4)), .int (xs (i + 5))]) (rest := [.int (A_copy sh sla sle (xs (i + 1)) (xs (i + 2)) (xs (i + 3)) (xs (i + 4)) (xs (i + 5)))]) hF (c_X3_copy l D cI cS adm fa n fo ki st we lo ra rch q0 q1 q2 q3 fk fc rd rc rv sh sle sla bg hd tr (xs (i + 1)) (xs (i + 2)) (xs (i + 3)) (xs (i + 4)) (xs (i + 5)) ndm hsla hsle) (cwV 5 hts gL_law_X3_copy rfl rfl rfl hL_X3_copy ⟨(Nat.le_of_ble_eq_true rfl), (Nat.le_of_ble_eq_true rfl)⟩) (PR.preV hG hPm (ci := 3) rfl rfl) rfl rfl hl.1 rfl (lv_room (Nat.le_of_ble_eq_true rfl)) dL_law_955 ⟨(Nat.le_of_ble_eq_true rfl), (Nat.le_of_ble_eq_true rfl)⟩) hS hAm hPx rfl (fun q h1 h2 => hdd q h2 h1) (fun r_1 u_1 H locs q_1 hPm hPx hS => ?_)
  obtain ⟨hd0_1, rfl⟩ : ∃ z, z = u_1 := ⟨_, rfl⟩
  try dsimp only at q_1 hPm
  have hPm : va_P D vwCl (wM cI adm (S_copy sh sla sle (xs (i + 1)) (xs (i + 2)) (xs (i + 3)) (xs (i + 4)) (xs (i + 5))) n fo ki st we lo ra rch q0 q1 q2 q3 fk fc rd rc rv sh sle sla (ifO (okCopy sh sla sle (xs (i + 1)) (xs (i + 2)) (xs (i + 3)) (xs (i + 4)) (xs (i + 5))) (cpG (60 * (xs (i + 1)).toNatClampNeg + (xs (i + 2)).toNatClampNeg) (60 * (xs (i + 3)).toNatClampNeg + (xs (i + 4)).toNatClampNeg) (xs (i + 5)).toNatClampNeg bg) bg) hd0_1 tr) H := hPm
  have e_1 : r_1 = A_copy sh sla sle (xs (i + 1)) (xs (i + 2)) (xs (i + 3)) (xs (i + 4)) (xs (i + 5)) := q_1
  subst e_1
  refine lv_icmp_eq (tgt := 1091) hx hb dL_law_958 (by decide) (fun c_9 => ?_) (fun c_9 => ?_)
  ·
    have hPx : va_P D vwCl (wX cI cS adx sh sla sle (bigF (ifO (okCopy sh sla sle (xs (i + 1)) (xs (i + 2)) (xs (i + 3)) (xs (i + 4)) (xs (i + 5))) (cpG (60 * (xs (i + 1)).toNatClampNeg + (xs (i + 2)).toNatClampNeg) (60 * (xs (i + 3)).toNatClampNeg + (xs (i + 4)).toNatClampNeg) (xs (i + 5)).toNatClampNeg bg) bg)) n fo ki st we lo n2 go kj sj wj lj ti rc rv rd tr (S_copy sh sla sle (xs (i + 1)) (xs (i + 2)) (xs (i + 3)) (xs (i + 4)) (xs (i + 5)))) H := wX_sf hPx (bg_copy hsle)
    exact kk _ _ ⟨n, fo, ki, st, we, lo, rd, rc, rv, sh, sla, sle, ifO (okCopy sh sla sle (xs (i + 1)) (xs (i + 2)) (xs (i + 3)) (xs (i + 4)) (xs (i + 5))) (cpG (60 * (xs (i + 1)).toNatClampNeg + (xs (i + 2)).toNatClampNeg) (60 * (xs (i + 3)).toNatClampNeg + (xs (i + 4)).toNatClampNeg) (xs (i + 5)).toNatClampNeg bg) bg, tr, S_copy sh sla sle (xs (i + 1)) (xs (i + 2)) (xs (i + 3)) (xs (i + 4)) (xs (i + 5)), n2, go, kj, sj, wj, lj, ti, ra, rch, q0, q1, q2, q3, fk, fc, hd0_1, hB, hPx, hPm⟩ hS
  · exact absurd rfl c_9
set_option maxHeartbeats 4000000 in
set_option maxRecDepth 100000 in
theorem law_c24 {p : Program} {l : Launch} {e : Env} {s : State} {m : MethodId} {below : List Frame} {meth : Method} {c : Code} {D : va_G} {cI cS : ClassId} {adx adm : Nat → Nat} {b L i : Nat} {xs : Nat → Int32} (hL : L ≤ 3072) (hi : i + 6 ≤ L) (C0 : lw_At p s m meth c b L xs) (C1 : LwC D cI cS s adx adm) {H : Heap} {locs : List Loc} (hI : LwS D cI cS adx adm H) (hS : va_S (LwA s) s.heap H locs) {ls : Array Slot} (hl : lv_has ls 4 [(0, .ref b), (1, .ref (adx 0)), (2, .ref (adm 0)), (3, .int (nI i))])
    (kk : ∀ (H : Heap) (locs : List Loc), LwS D cI cS adx adm H → va_S (LwA s) s.heap H locs → W p l e room_1 s m #[Value.ref b] below meth c H locs 600000 7302250 (lw_Z below #[Value.ref b] s) (F0 m 1091 ls [])) : W p l e room_1 s m #[Value.ref b] below meth c H locs 600000 7302250 (lw_Z below #[Value.ref b] s) (F0 m 963 ls []) := by
  obtain ⟨hx, hb, hr, hml, hown, hts0, hX, hbl, hlocks, hgv⟩ := id C0
  obtain ⟨hG, ndx, ndm, hdd, hAx, hAm⟩ := C1
  obtain ⟨n, fo, ki, st, we, lo, rd, rc, rv, sh, sla, sle, bg, tr, fa, n2, go, kj, sj, wj, lj, ti, ra, rch, q0, q1, q2, q3, fk, fc, hd, hB, hPx, hPm⟩ := hI
  obtain ⟨hn, hfo, hki, hst, hwe, hlo, hrd, hrc, hrv, hsla, hsle⟩ := id hB
  have hbA : ¬ LwA s b := Nat.not_le.mpr hbl
  have hts : ∀ w ∈ wsL_law, w.before #[Value.ref b] s = true := fun w h => hts0 w (wsL_law_in w h)
  have hF : CallFix p m c cL_law 4 s _ wsL_law RL := ⟨hx, hb, hml, hown, hts⟩
  refine lv_aload_n hx hb dL_law_963 rfl (lv_at hl 1 rfl) ?_
  refine lv_aload_n hx hb dL_law_964 rfl (lv_at hl 0 rfl) ?_
  refine lv_iload_n hx hb dL_law_965 rfl (lv_at hl 3 rfl) ?_
  refine lv_iconst (v := nI 1) hx hb dL_law_966 (by decide) ?_
  refine xaddN hx hb dL_law_967 ?_
  refine xsld hx hb hX hbl hbA hS (i + 1) rfl (by omega) hL dL_law_968 ?_
  refine lawI (va_runV (As := [.int (xs (i + 1))]) (rest := []) hF (c_X2_tell l D cI cS adx sh sla sle (bigF bg) n fo ki st we lo n2 go kj sj wj lj ti rc rv rd tr fa (xs (i + 1)) ndx hn hki) (cwV 1 hts gL_law_X2_tell rfl rfl rfl hL_X2_tell ⟨(Nat.le_of_ble_eq_true rfl), (Nat.le_of_ble_eq_true rfl)⟩) (PR.preV hG hPx (ci := 2) rfl rfl) rfl rfl hl.1 rfl (lv_room (Nat.le_of_ble_eq_true rfl)) dL_law_969 ⟨(Nat.le_of_ble_eq_true rfl), (Nat.le_of_ble_eq_true rfl)⟩) hS hAx hPm rfl hdd (fun r_0 u_0 H locs q_0 hPx hPm hS => ?_)
  try dsimp only at q_0 hPx
  have hPx : va_P D vwCl (wX cI cS adx sh sla sle (bigF bg) n fo ki st we lo n2 go kj sj wj lj ti rc rv rd (S_tell n ki tr (xs (i + 1))) fa) H := hPx
  have e_0 : r_0 = A_tell n ki we (xs (i + 1)) := q_0
  subst e_0
  refine lv_aload_n hx hb dL_law_972 rfl (lv_at hl 2 rfl) ?_
  refine lv_aload_n hx hb dL_law_973 rfl (lv_at hl 0 rfl) ?_
  refine lv_iload_n hx hb dL_law_974 rfl (lv_at hl 3 rfl) ?_
  refine lv_iconst (v := nI 1) hx hb dL_law_975 (by decide) ?_
  refine xaddN hx hb dL_law_976 ?_
  refine xsld hx hb hX hbl hbA hS (i + 1) rfl (by omega) hL dL_law_977 ?_
  refine lawI (va_runV (As := [.int (xs (i + 1))]) (rest := [.int (A_tell n ki we (xs (i + 1)))]) hF (c_X3_tell l D cI cS adm fa n fo ki st we lo ra rch q0 q1 q2 q3 fk fc rd rc rv sh sle sla bg hd tr (xs (i + 1)) ndm hn hki hwe) (cwV 1 hts gL_law_X3_tell rfl rfl rfl hL_X3_tell ⟨(Nat.le_of_ble_eq_true rfl), (Nat.le_of_ble_eq_true rfl)⟩) (PR.preV hG hPm (ci := 3) rfl rfl) rfl rfl hl.1 rfl (lv_room (Nat.le_of_ble_eq_true rfl)) dL_law_978 ⟨(Nat.le_of_ble_eq_true rfl), (Nat.le_of_ble_eq_true rfl)⟩) hS hAm hPx rfl (fun q h1 h2 => hdd q h2 h1) (fun r_1 u_1 H locs q_1 hPm hPx hS => ?_)
  try dsimp only at q_1 hPm
  have hPm : va_P D vwCl (wM cI adm fa n fo ki st we lo ra rch q0 q1 q2 q3 fk fc rd rc rv sh sle sla bg hd (S_tell n ki tr (xs (i + 1)))) H := hPm
  have e_1 : r_1 = A_tell n ki we (xs (i + 1)) := q_1
  subst e_1
  refine lv_icmp_eq (tgt := 1091) hx hb dL_law_981 (by decide) (fun c_9 => ?_) (fun c_9 => ?_)
  ·
    exact kk _ _ ⟨n, fo, ki, st, we, lo, rd, rc, rv, sh, sla, sle, bg, S_tell n ki tr (xs (i + 1)), fa, n2, go, kj, sj, wj, lj, ti, ra, rch, q0, q1, q2, q3, fk, fc, hd, hB, hPx, hPm⟩ hS
  · exact absurd rfl c_9
set_option maxHeartbeats 4000000 in
set_option maxRecDepth 100000 in
theorem law_c25 {p : Program} {l : Launch} {e : Env} {s : State} {m : MethodId} {below : List Frame} {meth : Method} {c : Code} {D : va_G} {cI cS : ClassId} {adx adm : Nat → Nat} {b L i : Nat} {xs : Nat → Int32} (hL : L ≤ 3072) (hi : i + 6 ≤ L) (C0 : lw_At p s m meth c b L xs) (C1 : LwC D cI cS s adx adm) {H : Heap} {locs : List Loc} (hI : LwS D cI cS adx adm H) (hS : va_S (LwA s) s.heap H locs) {ls : Array Slot} (hl : lv_has ls 4 [(0, .ref b), (1, .ref (adx 0)), (2, .ref (adm 0)), (3, .int (nI i))])
    (kk : ∀ (H : Heap) (locs : List Loc), LwS D cI cS adx adm H → va_S (LwA s) s.heap H locs → W p l e room_1 s m #[Value.ref b] below meth c H locs 600000 7302250 (lw_Z below #[Value.ref b] s) (F0 m 1091 ls [])) : W p l e room_1 s m #[Value.ref b] below meth c H locs 600000 7302250 (lw_Z below #[Value.ref b] s) (F0 m 986 ls []) := by
  obtain ⟨hx, hb, hr, hml, hown, hts0, hX, hbl, hlocks, hgv⟩ := id C0
  obtain ⟨hG, ndx, ndm, hdd, hAx, hAm⟩ := C1
  obtain ⟨n, fo, ki, st, we, lo, rd, rc, rv, sh, sla, sle, bg, tr, fa, n2, go, kj, sj, wj, lj, ti, ra, rch, q0, q1, q2, q3, fk, fc, hd, hB, hPx, hPm⟩ := hI
  obtain ⟨hn, hfo, hki, hst, hwe, hlo, hrd, hrc, hrv, hsla, hsle⟩ := id hB
  have hbA : ¬ LwA s b := Nat.not_le.mpr hbl
  have hts : ∀ w ∈ wsL_law, w.before #[Value.ref b] s = true := fun w h => hts0 w (wsL_law_in w h)
  have hF : CallFix p m c cL_law 4 s _ wsL_law RL := ⟨hx, hb, hml, hown, hts⟩
  refine lv_aload_n hx hb dL_law_986 rfl (lv_at hl 1 rfl) ?_
  refine lv_aload_n hx hb dL_law_987 rfl (lv_at hl 0 rfl) ?_
  refine lv_iload_n hx hb dL_law_988 rfl (lv_at hl 3 rfl) ?_
  refine lv_iconst (v := nI 1) hx hb dL_law_989 (by decide) ?_
  refine xaddN hx hb dL_law_990 ?_
  refine xsld hx hb hX hbl hbA hS (i + 1) rfl (by omega) hL dL_law_991 ?_
  refine lawI (va_runV (As := [.int (xs (i + 1))]) (rest := []) hF (c_X2_chalk l D cI cS adx sh sla sle (bigF bg) n fo ki st we lo n2 go kj sj wj lj ti rc rv rd tr fa (xs (i + 1)) ndx hn hki) (cwV 1 hts gL_law_X2_chalk rfl rfl rfl hL_X2_chalk ⟨(Nat.le_of_ble_eq_true rfl), (Nat.le_of_ble_eq_true rfl)⟩) (PR.preV hG hPx (ci := 2) rfl rfl) rfl rfl hl.1 rfl (lv_room (Nat.le_of_ble_eq_true rfl)) dL_law_992 ⟨(Nat.le_of_ble_eq_true rfl), (Nat.le_of_ble_eq_true rfl)⟩) hS hAx hPm rfl hdd (fun r_0 u_0 H locs q_0 hPx hPm hS => ?_)
  try dsimp only at q_0 hPx
  have hPx : va_P D vwCl (wX cI cS adx sh sla sle (bigF bg) n fo ki st we lo n2 go kj sj wj lj ti rc rv rd (S_chalk n ki tr (xs (i + 1))) fa) H := hPx
  have e_0 : r_0 = A_chalk n ki (xs (i + 1)) := q_0
  subst e_0
  refine lv_aload_n hx hb dL_law_995 rfl (lv_at hl 2 rfl) ?_
  refine lv_aload_n hx hb dL_law_996 rfl (lv_at hl 0 rfl) ?_
  refine lv_iload_n hx hb dL_law_997 rfl (lv_at hl 3 rfl) ?_
  refine lv_iconst (v := nI 1) hx hb dL_law_998 (by decide) ?_
  refine xaddN hx hb dL_law_999 ?_
  refine xsld hx hb hX hbl hbA hS (i + 1) rfl (by omega) hL dL_law_1000 ?_
  refine lawI (va_runV (As := [.int (xs (i + 1))]) (rest := [.int (A_chalk n ki (xs (i + 1)))]) hF (c_X3_chalk l D cI cS adm fa n fo ki st we lo ra rch q0 q1 q2 q3 fk fc rd rc rv sh sle sla bg hd tr (xs (i + 1)) ndm hn hki) (cwV 1 hts gL_law_X3_chalk rfl rfl rfl hL_X3_chalk ⟨(Nat.le_of_ble_eq_true rfl), (Nat.le_of_ble_eq_true rfl)⟩) (PR.preV hG hPm (ci := 3) rfl rfl) rfl rfl hl.1 rfl (lv_room (Nat.le_of_ble_eq_true rfl)) dL_law_1001 ⟨(Nat.le_of_ble_eq_true rfl), (Nat.le_of_ble_eq_true rfl)⟩) hS hAm hPx rfl (fun q h1 h2 => hdd q h2 h1) (fun r_1 u_1 H locs q_1 hPm hPx hS => ?_)
  try dsimp only at q_1 hPm
  have hPm : va_P D vwCl (wM cI adm fa n fo ki st we lo ra rch q0 q1 q2 q3 fk fc rd rc rv sh sle sla bg hd (S_chalk n ki tr (xs (i + 1)))) H := hPm
  have e_1 : r_1 = A_chalk n ki (xs (i + 1)) := q_1
  subst e_1
  refine lv_icmp_eq (tgt := 1091) hx hb dL_law_1004 (by decide) (fun c_9 => ?_) (fun c_9 => ?_)
  ·
    exact kk _ _ ⟨n, fo, ki, st, we, lo, rd, rc, rv, sh, sla, sle, bg, S_chalk n ki tr (xs (i + 1)), fa, n2, go, kj, sj, wj, lj, ti, ra, rch, q0, q1, q2, q3, fk, fc, hd, hB, hPx, hPm⟩ hS
  · exact absurd rfl c_9
set_option maxHeartbeats 4000000 in
set_option maxRecDepth 100000 in
theorem law_c26 {p : Program} {l : Launch} {e : Env} {s : State} {m : MethodId} {below : List Frame} {meth : Method} {c : Code} {D : va_G} {cI cS : ClassId} {adx adm : Nat → Nat} {b L i : Nat} {xs : Nat → Int32} (hL : L ≤ 3072) (hi : i + 6 ≤ L) (C0 : lw_At p s m meth c b L xs) (C1 : LwC D cI cS s adx adm) {H : Heap} {locs : List Loc} (hI : LwS D cI cS adx adm H) (hS : va_S (LwA s) s.heap H locs) {ls : Array Slot} (hl : lv_has ls 4 [(0, .ref b), (1, .ref (adx 0)), (2, .ref (adm 0)), (3, .int (nI i))])
    (kk : ∀ (H : Heap) (locs : List Loc), LwS D cI cS adx adm H → va_S (LwA s) s.heap H locs → W p l e room_1 s m #[Value.ref b] below meth c H locs 600000 7302250 (lw_Z below #[Value.ref b] s) (F0 m 1091 ls [])) : W p l e room_1 s m #[Value.ref b] below meth c H locs 600000 7302250 (lw_Z below #[Value.ref b] s) (F0 m 1009 ls []) := by
  obtain ⟨hx, hb, hr, hml, hown, hts0, hX, hbl, hlocks, hgv⟩ := id C0
  obtain ⟨hG, ndx, ndm, hdd, hAx, hAm⟩ := C1
  obtain ⟨n, fo, ki, st, we, lo, rd, rc, rv, sh, sla, sle, bg, tr, fa, n2, go, kj, sj, wj, lj, ti, ra, rch, q0, q1, q2, q3, fk, fc, hd, hB, hPx, hPm⟩ := hI
  obtain ⟨hn, hfo, hki, hst, hwe, hlo, hrd, hrc, hrv, hsla, hsle⟩ := id hB
  have hbA : ¬ LwA s b := Nat.not_le.mpr hbl
  have hts : ∀ w ∈ wsL_law, w.before #[Value.ref b] s = true := fun w h => hts0 w (wsL_law_in w h)
  have hF : CallFix p m c cL_law 4 s _ wsL_law RL := ⟨hx, hb, hml, hown, hts⟩
  refine lv_aload_n hx hb dL_law_1009 rfl (lv_at hl 1 rfl) ?_
  refine lv_aload_n hx hb dL_law_1010 rfl (lv_at hl 0 rfl) ?_
  refine lv_iload_n hx hb dL_law_1011 rfl (lv_at hl 3 rfl) ?_
  refine lv_iconst (v := nI 1) hx hb dL_law_1012 (by decide) ?_
  refine xaddN hx hb dL_law_1013 ?_
  refine xsld hx hb hX hbl hbA hS (i + 1) rfl (by omega) hL dL_law_1014 ?_
  refine lv_aload_n hx hb dL_law_1015 rfl (lv_at hl 0 rfl) ?_
  refine lv_iload_n hx hb dL_law_1016 rfl (lv_at hl 3 rfl) ?_
  refine lv_iconst (v := nI 2) hx hb dL_law_1017 (by decide) ?_
  refine xaddN hx hb dL_law_1018 ?_
  refine xsld hx hb hX hbl hbA hS (i + 2) rfl (by omega) hL dL_law_1019 ?_
  refine lawI (va_runV (As := [.int (xs (i + 1)), .int (xs (i + 2))]) (rest := []) hF (c_X2_as l D cI cS adx sh sla sle (bigF bg) n fo ki st we lo n2 go kj sj wj lj ti rc rv rd tr fa (xs (i + 1)) (xs (i + 2)) ndx hn hki) (cwV 2 hts gL_law_X2_as rfl rfl rfl hL_X2_as ⟨(Nat.le_of_ble_eq_true rfl), (Nat.le_of_ble_eq_true rfl)⟩) (PR.preV hG hPx (ci := 2) rfl rfl) rfl rfl hl.1 rfl (lv_room (Nat.le_of_ble_eq_true rfl)) dL_law_1020 ⟨(Nat.le_of_ble_eq_true rfl), (Nat.le_of_ble_eq_true rfl)⟩) hS hAx hPm rfl hdd (fun r_0 u_0 H locs q_0 hPx hPm hS => ?_)
  try dsimp only at q_0 hPx
  have hPx : va_P D vwCl (wX cI cS adx sh sla sle (bigF bg) n fo ki st we lo n2 go kj sj wj lj ti rc rv rd tr (S_as n ki (xs (i + 1)) (xs (i + 2)))) H := hPx
  have e_0 : r_0 = A_as n ki (xs (i + 1)) (xs (i + 2)) := q_0
  subst e_0
  refine lv_aload_n hx hb dL_law_1023 rfl (lv_at hl 2 rfl) ?_
  refine lv_aload_n hx hb dL_law_1024 rfl (lv_at hl 0 rfl) ?_
  refine lv_iload_n hx hb dL_law_1025 rfl (lv_at hl 3 rfl) ?_
  refine lv_iconst (v := nI 1) hx hb dL_law_1026 (by decide) ?_
  refine xaddN hx hb dL_law_1027 ?_
  refine xsld hx hb hX hbl hbA hS (i + 1) rfl (by omega) hL dL_law_1028 ?_
  refine lv_aload_n hx hb dL_law_1029 rfl (lv_at hl 0 rfl) ?_
  refine lv_iload_n hx hb dL_law_1030 rfl (lv_at hl 3 rfl) ?_
  refine lv_iconst (v := nI 2) hx hb dL_law_1031 (by decide) ?_
  refine xaddN hx hb dL_law_1032 ?_
  refine xsld hx hb hX hbl hbA hS (i + 2) rfl (by omega) hL dL_law_1033 ?_
  refine lawI (va_runV (As := [.int (xs (i + 1)), .int (xs (i + 2))]) (rest := [.int (A_as n ki (xs (i + 1)) (xs (i + 2)))]) hF (c_X3_as l D cI cS adm fa n fo ki st we lo ra rch q0 q1 q2 q3 fk fc rd rc rv sh sle sla bg hd tr (xs (i + 1)) (xs (i + 2)) ndm hn hki) (cwV 2 hts gL_law_X3_as rfl rfl rfl hL_X3_as ⟨(Nat.le_of_ble_eq_true rfl), (Nat.le_of_ble_eq_true rfl)⟩) (PR.preV hG hPm (ci := 3) rfl rfl) rfl rfl hl.1 rfl (lv_room (Nat.le_of_ble_eq_true rfl)) dL_law_1034 ⟨(Nat.le_of_ble_eq_true rfl), (Nat.le_of_ble_eq_true rfl)⟩) hS hAm hPx rfl (fun q h1 h2 => hdd q h2 h1) (fun r_1 u_1 H locs q_1 hPm hPx hS => ?_)
  try dsimp only at q_1 hPm
  have hPm : va_P D vwCl (wM cI adm (S_as n ki (xs (i + 1)) (xs (i + 2))) n fo ki st we lo ra rch q0 q1 q2 q3 fk fc rd rc rv sh sle sla bg hd tr) H := hPm
  have e_1 : r_1 = A_as n ki (xs (i + 1)) (xs (i + 2)) := q_1
  subst e_1
  refine lv_icmp_eq (tgt := 1091) hx hb dL_law_1037 (by decide) (fun c_9 => ?_) (fun c_9 => ?_)
  ·
    exact kk _ _ ⟨n, fo, ki, st, we, lo, rd, rc, rv, sh, sla, sle, bg, tr, S_as n ki (xs (i + 1)) (xs (i + 2)), n2, go, kj, sj, wj, lj, ti, ra, rch, q0, q1, q2, q3, fk, fc, hd, hB, hPx, hPm⟩ hS
  · exact absurd rfl c_9
set_option maxHeartbeats 4000000 in
set_option maxRecDepth 100000 in
theorem law_c27 {p : Program} {l : Launch} {e : Env} {s : State} {m : MethodId} {below : List Frame} {meth : Method} {c : Code} {D : va_G} {cI cS : ClassId} {adx adm : Nat → Nat} {b L i : Nat} {xs : Nat → Int32} (hL : L ≤ 3072) (hi : i + 6 ≤ L) (C0 : lw_At p s m meth c b L xs) (C1 : LwC D cI cS s adx adm) {H : Heap} {locs : List Loc} (hI : LwS D cI cS adx adm H) (hS : va_S (LwA s) s.heap H locs) {ls : Array Slot} (hl : lv_has ls 4 [(0, .ref b), (1, .ref (adx 0)), (2, .ref (adm 0)), (3, .int (nI i))])
    (kk : ∀ (H : Heap) (locs : List Loc), LwS D cI cS adx adm H → va_S (LwA s) s.heap H locs → W p l e room_1 s m #[Value.ref b] below meth c H locs 600000 7302250 (lw_Z below #[Value.ref b] s) (F0 m 1091 ls [])) : W p l e room_1 s m #[Value.ref b] below meth c H locs 600000 7302250 (lw_Z below #[Value.ref b] s) (F0 m 1042 ls []) := by
  obtain ⟨hx, hb, hr, hml, hown, hts0, hX, hbl, hlocks, hgv⟩ := id C0
  obtain ⟨hG, ndx, ndm, hdd, hAx, hAm⟩ := C1
  obtain ⟨n, fo, ki, st, we, lo, rd, rc, rv, sh, sla, sle, bg, tr, fa, n2, go, kj, sj, wj, lj, ti, ra, rch, q0, q1, q2, q3, fk, fc, hd, hB, hPx, hPm⟩ := hI
  obtain ⟨hn, hfo, hki, hst, hwe, hlo, hrd, hrc, hrv, hsla, hsle⟩ := id hB
  have hbA : ¬ LwA s b := Nat.not_le.mpr hbl
  have hts : ∀ w ∈ wsL_law, w.before #[Value.ref b] s = true := fun w h => hts0 w (wsL_law_in w h)
  have hF : CallFix p m c cL_law 4 s _ wsL_law RL := ⟨hx, hb, hml, hown, hts⟩
  refine lv_aload_n hx hb dL_law_1042 rfl (lv_at hl 1 rfl) ?_
  refine xrd (va_runV (As := []) (rest := []) hF (c_X2_trace l D cI cS adx sh sla sle (bigF bg) n fo ki st we lo n2 go kj sj wj lj ti rc rv rd tr fa ) (cwV 0 hts gL_law_X2_trace rfl rfl rfl hL_X2_trace ⟨(Nat.le_of_ble_eq_true rfl), (Nat.le_of_ble_eq_true rfl)⟩) (PR.preV hG hPx (ci := 2) rfl rfl) rfl rfl hl.1 rfl (lv_room (Nat.le_of_ble_eq_true rfl)) dL_law_1043 ⟨(Nat.le_of_ble_eq_true rfl), (Nat.le_of_ble_eq_true rfl)⟩) ?_
  refine lv_aload_n hx hb dL_law_1046 rfl (lv_at hl 2 rfl) ?_
  refine xrd (va_runV (As := []) (rest := [.int tr]) hF (c_X3_trace l D cI cS adm fa n fo ki st we lo ra rch q0 q1 q2 q3 fk fc rd rc rv sh sle sla bg hd tr ) (cwV 0 hts gL_law_X3_trace rfl rfl rfl hL_X3_trace ⟨(Nat.le_of_ble_eq_true rfl), (Nat.le_of_ble_eq_true rfl)⟩) (PR.preV hG hPm (ci := 3) rfl rfl) rfl rfl hl.1 rfl (lv_room (Nat.le_of_ble_eq_true rfl)) dL_law_1047 ⟨(Nat.le_of_ble_eq_true rfl), (Nat.le_of_ble_eq_true rfl)⟩) ?_
  refine lv_icmp_eq (tgt := 1091) hx hb dL_law_1050 (by decide) (fun c_9 => ?_) (fun c_9 => ?_)
  ·
    exact kk _ _ ⟨n, fo, ki, st, we, lo, rd, rc, rv, sh, sla, sle, bg, tr, fa, n2, go, kj, sj, wj, lj, ti, ra, rch, q0, q1, q2, q3, fk, fc, hd, hB, hPx, hPm⟩ hS
  · exact absurd rfl c_9
set_option maxHeartbeats 4000000 in
set_option maxRecDepth 100000 in
theorem law_c28 {p : Program} {l : Launch} {e : Env} {s : State} {m : MethodId} {below : List Frame} {meth : Method} {c : Code} {D : va_G} {cI cS : ClassId} {adx adm : Nat → Nat} {b L i : Nat} {xs : Nat → Int32} (hL : L ≤ 3072) (hi : i + 6 ≤ L) (C0 : lw_At p s m meth c b L xs) (C1 : LwC D cI cS s adx adm) {H : Heap} {locs : List Loc} (hI : LwS D cI cS adx adm H) (hS : va_S (LwA s) s.heap H locs) {ls : Array Slot} (hl : lv_has ls 4 [(0, .ref b), (1, .ref (adx 0)), (2, .ref (adm 0)), (3, .int (nI i))])
    (kk : ∀ (H : Heap) (locs : List Loc), LwS D cI cS adx adm H → va_S (LwA s) s.heap H locs → W p l e room_1 s m #[Value.ref b] below meth c H locs 600000 7302250 (lw_Z below #[Value.ref b] s) (F0 m 1091 ls [])) : W p l e room_1 s m #[Value.ref b] below meth c H locs 600000 7302250 (lw_Z below #[Value.ref b] s) (F0 m 1055 ls []) := by
  obtain ⟨hx, hb, hr, hml, hown, hts0, hX, hbl, hlocks, hgv⟩ := id C0
  obtain ⟨hG, ndx, ndm, hdd, hAx, hAm⟩ := C1
  obtain ⟨n, fo, ki, st, we, lo, rd, rc, rv, sh, sla, sle, bg, tr, fa, n2, go, kj, sj, wj, lj, ti, ra, rch, q0, q1, q2, q3, fk, fc, hd, hB, hPx, hPm⟩ := hI
  obtain ⟨hn, hfo, hki, hst, hwe, hlo, hrd, hrc, hrv, hsla, hsle⟩ := id hB
  have hbA : ¬ LwA s b := Nat.not_le.mpr hbl
  have hts : ∀ w ∈ wsL_law, w.before #[Value.ref b] s = true := fun w h => hts0 w (wsL_law_in w h)
  have hF : CallFix p m c cL_law 4 s _ wsL_law RL := ⟨hx, hb, hml, hown, hts⟩
  refine lv_aload_n hx hb dL_law_1055 rfl (lv_at hl 1 rfl) ?_
  refine xrd (va_runV (As := []) (rest := []) hF (c_X2_fault l D cI cS adx sh sla sle (bigF bg) n fo ki st we lo n2 go kj sj wj lj ti rc rv rd tr fa ) (cwV 0 hts gL_law_X2_fault rfl rfl rfl hL_X2_fault ⟨(Nat.le_of_ble_eq_true rfl), (Nat.le_of_ble_eq_true rfl)⟩) (PR.preV hG hPx (ci := 2) rfl rfl) rfl rfl hl.1 rfl (lv_room (Nat.le_of_ble_eq_true rfl)) dL_law_1056 ⟨(Nat.le_of_ble_eq_true rfl), (Nat.le_of_ble_eq_true rfl)⟩) ?_
  refine lv_aload_n hx hb dL_law_1059 rfl (lv_at hl 2 rfl) ?_
  refine xrd (va_runV (As := []) (rest := [.int (nI fa)]) hF (c_X3_fault l D cI cS adm fa n fo ki st we lo ra rch q0 q1 q2 q3 fk fc rd rc rv sh sle sla bg hd tr ) (cwV 0 hts gL_law_X3_fault rfl rfl rfl hL_X3_fault ⟨(Nat.le_of_ble_eq_true rfl), (Nat.le_of_ble_eq_true rfl)⟩) (PR.preV hG hPm (ci := 3) rfl rfl) rfl rfl hl.1 rfl (lv_room (Nat.le_of_ble_eq_true rfl)) dL_law_1060 ⟨(Nat.le_of_ble_eq_true rfl), (Nat.le_of_ble_eq_true rfl)⟩) ?_
  refine lv_icmp_eq (tgt := 1091) hx hb dL_law_1063 (by decide) (fun c_9 => ?_) (fun c_9 => ?_)
  ·
    exact kk _ _ ⟨n, fo, ki, st, we, lo, rd, rc, rv, sh, sla, sle, bg, tr, fa, n2, go, kj, sj, wj, lj, ti, ra, rch, q0, q1, q2, q3, fk, fc, hd, hB, hPx, hPm⟩ hS
  · exact absurd rfl c_9
set_option maxHeartbeats 4000000 in
set_option maxRecDepth 100000 in
theorem law_c29 {p : Program} {l : Launch} {e : Env} {s : State} {m : MethodId} {below : List Frame} {meth : Method} {c : Code} {D : va_G} {cI cS : ClassId} {adx adm : Nat → Nat} {b L i : Nat} {xs : Nat → Int32} (hL : L ≤ 3072) (hi : i + 6 ≤ L) (C0 : lw_At p s m meth c b L xs) (C1 : LwC D cI cS s adx adm) {H : Heap} {locs : List Loc} (hI : LwS D cI cS adx adm H) (hS : va_S (LwA s) s.heap H locs) {ls : Array Slot} (hl : lv_has ls 4 [(0, .ref b), (1, .ref (adx 0)), (2, .ref (adm 0)), (3, .int (nI i))])
    (kk : ∀ (H : Heap) (locs : List Loc), LwS D cI cS adx adm H → va_S (LwA s) s.heap H locs → W p l e room_1 s m #[Value.ref b] below meth c H locs 600000 7302250 (lw_Z below #[Value.ref b] s) (F0 m 1091 ls [])) : W p l e room_1 s m #[Value.ref b] below meth c H locs 600000 7302250 (lw_Z below #[Value.ref b] s) (F0 m 1068 ls []) := by
  obtain ⟨hx, hb, hr, hml, hown, hts0, hX, hbl, hlocks, hgv⟩ := id C0
  obtain ⟨hG, ndx, ndm, hdd, hAx, hAm⟩ := C1
  obtain ⟨n, fo, ki, st, we, lo, rd, rc, rv, sh, sla, sle, bg, tr, fa, n2, go, kj, sj, wj, lj, ti, ra, rch, q0, q1, q2, q3, fk, fc, hd, hB, hPx, hPm⟩ := hI
  obtain ⟨hn, hfo, hki, hst, hwe, hlo, hrd, hrc, hrv, hsla, hsle⟩ := id hB
  have hbA : ¬ LwA s b := Nat.not_le.mpr hbl
  have hts : ∀ w ∈ wsL_law, w.before #[Value.ref b] s = true := fun w h => hts0 w (wsL_law_in w h)
  have hF : CallFix p m c cL_law 4 s _ wsL_law RL := ⟨hx, hb, hml, hown, hts⟩
  refine lv_aload_n hx hb dL_law_1068 rfl (lv_at hl 1 rfl) ?_
  refine lv_aload_n hx hb dL_law_1069 rfl (lv_at hl 0 rfl) ?_
  refine lv_iload_n hx hb dL_law_1070 rfl (lv_at hl 3 rfl) ?_
  refine lv_iconst (v := nI 1) hx hb dL_law_1071 (by decide) ?_
  refine xaddN hx hb dL_law_1072 ?_
  refine xsld hx hb hX hbl hbA hS (i + 1) rfl (by omega) hL dL_law_1073 ?_
  refine xrd (va_runV (As := [.int (xs (i + 1))]) (rest := []) hF (c_X2_many l D cI cS adx sh sla sle (bigF bg) n fo ki st we lo n2 go kj sj wj lj ti rc rv rd tr fa (xs (i + 1)) hn hfo hki hwe hst hlo) (cwV 1 hts gL_law_X2_many rfl rfl rfl hL_X2_many ⟨(Nat.le_of_ble_eq_true rfl), (Nat.le_of_ble_eq_true rfl)⟩) (PR.preV hG hPx (ci := 2) rfl rfl) rfl rfl hl.1 rfl (lv_room (Nat.le_of_ble_eq_true rfl)) dL_law_1074 ⟨(Nat.le_of_ble_eq_true rfl), (Nat.le_of_ble_eq_true rfl)⟩) ?_
  refine lv_aload_n hx hb dL_law_1077 rfl (lv_at hl 2 rfl) ?_
  refine lv_aload_n hx hb dL_law_1078 rfl (lv_at hl 0 rfl) ?_
  refine lv_iload_n hx hb dL_law_1079 rfl (lv_at hl 3 rfl) ?_
  refine lv_iconst (v := nI 1) hx hb dL_law_1080 (by decide) ?_
  refine xaddN hx hb dL_law_1081 ?_
  refine xsld hx hb hX hbl hbA hS (i + 1) rfl (by omega) hL dL_law_1082 ?_
  refine xrd (va_runV (As := [.int (xs (i + 1))]) (rest := [.int (A_many n fo ki we rd (xs (i + 1)))]) hF (c_X3_many l D cI cS adm fa n fo ki st we lo ra rch q0 q1 q2 q3 fk fc rd rc rv sh sle sla bg hd tr (xs (i + 1)) hn hfo hki hwe hst hlo) (cwV 1 hts gL_law_X3_many rfl rfl rfl hL_X3_many ⟨(Nat.le_of_ble_eq_true rfl), (Nat.le_of_ble_eq_true rfl)⟩) (PR.preV hG hPm (ci := 3) rfl rfl) rfl rfl hl.1 rfl (lv_room (Nat.le_of_ble_eq_true rfl)) dL_law_1083 ⟨(Nat.le_of_ble_eq_true rfl), (Nat.le_of_ble_eq_true rfl)⟩) ?_
  refine lv_icmp_eq (tgt := 1091) hx hb dL_law_1086 (by decide) (fun c_9 => ?_) (fun c_9 => ?_)
  ·
    exact kk _ _ ⟨n, fo, ki, st, we, lo, rd, rc, rv, sh, sla, sle, bg, tr, fa, n2, go, kj, sj, wj, lj, ti, ra, rch, q0, q1, q2, q3, fk, fc, hd, hB, hPx, hPm⟩ hS
  · exact absurd rfl c_9
