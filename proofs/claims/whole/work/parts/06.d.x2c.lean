theorem hV_X2_beginsWard : yX2_beginsWard.cls = RX2 ∧ yX2_beginsWard.cls ≠ "java/lang/invoke/MethodHandle" ∧ yX2_beginsWard.cls ≠ "java/lang/invoke/VarHandle" ∧ (parseMethodDescriptor yX2_beginsWard.desc).map (fun d => d.parameters.length) = some 2 := by decide +kernel
theorem hV_X2_fairestCuts : yX2_fairestCuts.cls = RX2 ∧ yX2_fairestCuts.cls ≠ "java/lang/invoke/MethodHandle" ∧ yX2_fairestCuts.cls ≠ "java/lang/invoke/VarHandle" ∧ (parseMethodDescriptor yX2_fairestCuts.desc).map (fun d => d.parameters.length) = some 1 := by decide +kernel
theorem hV_X2_firstOfWard : yX2_firstOfWard.cls = RX2 ∧ yX2_firstOfWard.cls ≠ "java/lang/invoke/MethodHandle" ∧ yX2_firstOfWard.cls ≠ "java/lang/invoke/VarHandle" ∧ (parseMethodDescriptor yX2_firstOfWard.desc).map (fun d => d.parameters.length) = some 2 := by decide +kernel
theorem hV_X2_wardsWon : yX2_wardsWon.cls = RX2 ∧ yX2_wardsWon.cls ≠ "java/lang/invoke/MethodHandle" ∧ yX2_wardsWon.cls ≠ "java/lang/invoke/VarHandle" ∧ (parseMethodDescriptor yX2_wardsWon.desc).map (fun d => d.parameters.length) = some 1 := by decide +kernel
set_option maxHeartbeats 4000000 in
set_option maxRecDepth 100000 in
theorem c_X2_beginsWard (l : Launch) (D : va_G) (cI cS : ClassId) (ad : Nat → Nat) (sh : Nat → Bool) (sla : Nat → Nat) (sle : Nat → Nat) (sf : Nat → Nat → Int32) (n : Nat) (fo : Nat) (ki : Nat → Nat) (st : Nat → Nat) (we : Nat → Nat) (lo : Nat → Nat) (n2 : Nat) (go : Nat) (kj : Nat → Nat) (sj : Nat → Nat) (wj : Nat → Nat) (lj : Nat → Nat) (ti : Nat → Int32) (rc : Nat → Nat) (rv : Nat → Nat) (rd : Nat) (tr : Int32) (fa : Nat) (c1 : Nat) (j : Nat) (hn : n ≤ 8) (hc1 : c1 < 256) (hj : j < n) : Met l yX2_beginsWard wsX2_beginsWard ({ frames := 1, cells := 0, slots := 0, locals := 21 }) (PR D cI cS [.ref (ad 0), .int (nI c1), .int (nI j)] (wX cI cS ad sh sla sle sf n fo ki st we lo n2 go kj sj wj lj ti rc rv rd tr fa)) (vp_Si (fun r => r = bI (cutB n c1 j))) 0 0 (fun _ => False) := by
  refine startR (by decide) rfl (Nat.le_of_ble_eq_true rfl) ?_
  intro p e s m below meth c hx hb hr hts hown hlk hml hG hP ls hl
  have hl : lv_has ls 3 [(0, .ref (ad 0)), (1, .int (nI c1)), (2, .int (nI j))] := hl
  have f20 := hts (.fieldLink RX2 20 "ChairBallot" "now" "LChairBallot$Row;") (by decide +kernel)
  have f75 := hts (.fieldLink RX2 75 "ChairBallot$Row" "count" "I") (by decide +kernel)
  have yX0 : ∀ w ∈ u_ws RX0 TX0 6, w.before _ s = true := fun w h => hts w ((by decide +kernel : ∀ w ∈ wsX00, w ∈ wsX2_beginsWard) w h)
  have yX2 : ∀ w ∈ u_ws RX2 TX2 9, w.before _ s = true := fun w h => hts w ((by decide +kernel : ∀ w ∈ wsX20, w ∈ wsX2_beginsWard) w h)
  have hF : CallFix p m c cX2_beginsWard 3 s _ wsX2_beginsWard RX2 := ⟨hx, hb, hml, hown, hts⟩
  refine lv_iload_n hx hb dX2_beginsWard_0 rfl (lv_at hl 1 rfl) ?_
  refine lv_aload_n hx hb dX2_beginsWard_1 rfl (lv_at hl 0 rfl) ?_
  refine va_get (D := D) (ci := 2) (v := .ref (ad 10)) (C := RX2) (T := TX2) (N := 9) hx hb yX2 (fun _ h => h) hown hG.1 hP 0 rfl rfl 1 (by decide) f20 (fun _ h => h) rfl dX2_beginsWard_2 ?_
  refine va_get (D := D) (ci := 0) (v := .int (nI n)) (C := RX0) (T := TX0) (N := 6) hx hb yX0 (fun _ h => h) hown hG.1 hP 10 rfl rfl 4 (by decide) f75 (fun _ h => h) rfl dX2_beginsWard_5 ?_
  refine lv_iconst (v := nI 1) hx hb dX2_beginsWard_8 (by decide) ?_
  refine xsubN (x := n) (y := 1) hx hb (by omega) dX2_beginsWard_9 ?_
  refine lv_iload_n hx hb dX2_beginsWard_10 rfl (lv_at hl 2 rfl) ?_
  refine xsubN (x := n - 1) (y := j) hx hb (by omega) dX2_beginsWard_11 ?_
  refine xrd (va_runS (As := [.int (nI c1), .int (nI (n - 1 - j))]) (rest := []) hF (c_X2_isIn l D cI cS c1 (n - 1 - j) (by first | assumption | omega) (by first | assumption | omega)) (va_cwS 2 hts gX2_beginsWard_X2_isIn rfl rfl rfl hD_X2_isIn ⟨Nat.le_of_ble_eq_true rfl, Nat.le_of_ble_eq_true rfl⟩) (PR.pre hG (hP.sub (ws' := []) [] rfl)) rfl rfl hl.1 rfl (lv_room (Nat.le_of_ble_eq_true rfl)) dX2_beginsWard_12 ⟨Nat.le_refl _, Nat.le_refl _⟩) ?_
  exact xretRz hx hb hr hlk dX2_beginsWard_15 (c1.testBit (n - 1 - j)) rfl (by rfl)

set_option maxHeartbeats 4000000 in
set_option maxRecDepth 100000 in
theorem c_X2_wardsWon (l : Launch) (D : va_G) (cI cS : ClassId) (ad : Nat → Nat) (sh : Nat → Bool) (sla : Nat → Nat) (sle : Nat → Nat) (sf : Nat → Nat → Int32) (n : Nat) (fo : Nat) (ki : Nat → Nat) (st : Nat → Nat) (we : Nat → Nat) (lo : Nat → Nat) (n2 : Nat) (go : Nat) (kj : Nat → Nat) (sj : Nat → Nat) (wj : Nat → Nat) (lj : Nat → Nat) (ti : Nat → Int32) (rc : Nat → Nat) (rv : Nat → Nat) (rd : Nat) (tr : Int32) (fa : Nat) (c1 : Nat) (hn : n ≤ 8) (hfo : fo < 256) (hki : ∀ j, ki j ≤ 2) (hwe : ∀ j, we j ≤ 9) (hst : ∀ j, st j ≤ 3) (hlo : ∀ j, lo j ≤ 3) (hti : ∀ j, j < n → ti j = zI (tiN n fo ki st we lo j)) (hc1 : c1 < 256) : Met l yX2_wardsWon wsX2_wardsWon ({ frames := 2, cells := 0, slots := 0, locals := 43 }) (PR D cI cS [.ref (ad 0), .int (nI c1)] (wX cI cS ad sh sla sle sf n fo ki st we lo n2 go kj sj wj lj ti rc rv rd tr fa)) (vp_Si (fun r => r = nI (winX n fo ki st we lo c1))) 0 0 (fun _ => False) := by
  refine startR (by decide) rfl (Nat.le_of_ble_eq_true rfl) ?_
  intro p e s m below meth c hx hb hr hts hown hlk hml hG hP ls hl
  have hl : lv_has ls 5 [(0, .ref (ad 0)), (1, .int (nI c1))] := hl
  have f20 := hts (.fieldLink RX2 20 "ChairBallot" "now" "LChairBallot$Row;") (by decide +kernel)
  have f75 := hts (.fieldLink RX2 75 "ChairBallot$Row" "count" "I") (by decide +kernel)
  have f27 := hts (.fieldLink RX2 27 "ChairBallot" "tilts" "[I") (by decide +kernel)
  have yX0 : ∀ w ∈ u_ws RX0 TX0 6, w.before _ s = true := fun w h => hts w ((by decide +kernel : ∀ w ∈ wsX00, w ∈ wsX2_wardsWon) w h)
  have yX2 : ∀ w ∈ u_ws RX2 TX2 9, w.before _ s = true := fun w h => hts w ((by decide +kernel : ∀ w ∈ wsX20, w ∈ wsX2_wardsWon) w h)
  have hF : CallFix p m c cX2_wardsWon 5 s _ wsX2_wardsWon RX2 := ⟨hx, hb, hml, hown, hts⟩
  refine lv_iconst (v := nI 0) hx hb dX2_wardsWon_0 (by decide) ?_
  refine lv_istore_n (lv' := [(2, .int (nI 0)), (0, .ref (ad 0)), (1, .int (nI c1))]) hx hb dX2_wardsWon_1 rfl hl (by decide) rfl (fun ls hl => ?_)
  refine lv_iconst (v := nI 0) hx hb dX2_wardsWon_2 (by decide) ?_
  refine lv_istore_n (lv' := [(3, .int (nI 0)), (2, .int (nI 0)), (0, .ref (ad 0)), (1, .int (nI c1))]) hx hb dX2_wardsWon_3 rfl hl (by decide) rfl (fun ls hl => ?_)
  refine lv_iconst (v := nI 0) hx hb dX2_wardsWon_4 (by decide) ?_
  refine lv_istore (lv' := [(4, .int (nI 0)), (3, .int (nI 0)), (2, .int (nI 0)), (0, .ref (ad 0)), (1, .int (nI c1))]) hx hb dX2_wardsWon_5 hl (by decide) rfl (fun ls hl => ?_)
  have K7 : ∀ (fuel : Nat) (i : Nat) (x3 : Int32) (x2 : Int32), x3 = zI (wwS (cutB n c1) (tiN n fo ki st we lo) i).2 → x2 = nI ((wwS (cutB n c1) (tiN n fo ki st we lo) i).1) → (i ≤ n) → (n - i) < fuel → ∀ ls : Array Slot, lv_has ls 5 [(4, .int (nI i)), (3, .int x3), (2, .int x2), (0, .ref (ad 0)), (1, .int (nI c1))] → W p l e ({ frames := 2, cells := 0, slots := 0, locals := 43 }) s m (([.ref (ad 0), .int (nI c1)] : List Value).toArray) below meth c s.heap [] 0 0 (MQ below (vp_Si (fun r => r = nI (winX n fo ki st we lo c1))) (([.ref (ad 0), .int (nI c1)] : List Value).toArray) s 0 0 (fun _ => False)) (F0 m 7 ls []) := by
    intro fuel
    induction fuel with
    | zero => intro i x3 x2 e_x3 e_x2 hi hmu; exact absurd hmu (Nat.not_lt_zero _)
    | succ fuel ih =>
      intro i x3 x2 e_x3 e_x2 hi hmu ls hl
      subst e_x3
      subst e_x2
      obtain ⟨hb1, hb2, hb3⟩ := wwS_b (b := cutB n c1) (t := tiN n fo ki st we lo) (fun j => tiN_b hwe j) i
      have hz := zI_pos (m := i) (by omega) hb1 hb2
      refine lv_iload hx hb dX2_wardsWon_7 (lv_at hl 0 rfl) ?_
      refine lv_aload_n hx hb dX2_wardsWon_9 rfl (lv_at hl 3 rfl) ?_
      refine va_get (D := D) (ci := 2) (v := .ref (ad 10)) (C := RX2) (T := TX2) (N := 9) hx hb yX2 (fun _ h => h) hown hG.1 hP 0 rfl rfl 1 (by decide) f20 (fun _ h => h) rfl dX2_wardsWon_10 ?_
      refine va_get (D := D) (ci := 0) (v := .int (nI n)) (C := RX0) (T := TX0) (N := 6) hx hb yX0 (fun _ h => h) hown hG.1 hP 10 rfl rfl 4 (by decide) f75 (fun _ h => h) rfl dX2_wardsWon_13 ?_
      refine lv_icmp_ge (tgt := 59) hx hb dX2_wardsWon_16 (by decide) (fun c_16 => ?_) (fun c_16 => ?_)
      ·
        replace c_16 := (nI_leI (a := n) (b := i) (by omega) (by omega)).mp c_16
        have hin : n = i := by omega
        subst hin
        refine lv_iload_n hx hb dX2_wardsWon_59 rfl (lv_at hl 1 rfl) ?_
        refine lv_if_le (tgt := 69) hx hb dX2_wardsWon_60 (by decide) (fun c_60 => ?_) (fun c_60 => ?_)
        ·
          replace c_60 : (zI (wwS (cutB n c1) (tiN n fo ki st we lo) n).2).toInt ≤ 0 := (i32_lec (b := 0) (by omega)).mp c_60
          refine lv_iload_n hx hb dX2_wardsWon_69 rfl (lv_at hl 2 rfl) ?_
          exact xretR hx hb hr hlk dX2_wardsWon_70 (by have h9 : ¬ 0 < (wwS (cutB n c1) (tiN n fo ki st we lo) n).2 := (by omega); unfold winX wwN; rw [if_neg h9])
        ·
          replace c_60 : ¬ (zI (wwS (cutB n c1) (tiN n fo ki st we lo) n).2).toInt ≤ 0 := (not_congr (i32_lec (b := 0) (by omega))).mp c_60
          refine lv_iload_n hx hb dX2_wardsWon_63 rfl (lv_at hl 2 rfl) ?_
          refine lv_iconst (v := nI 1) hx hb dX2_wardsWon_64 (by decide) ?_
          refine xaddN hx hb dX2_wardsWon_65 ?_
          refine lv_goto (tgt := 70) hx hb dX2_wardsWon_66 (by decide) ?_
          exact xretR hx hb hr hlk dX2_wardsWon_70 (by have h9 : 0 < (wwS (cutB n c1) (tiN n fo ki st we lo) n).2 := (by omega); unfold winX wwN; rw [if_pos h9])
      ·
        replace c_16 := (not_congr (nI_leI (a := n) (b := i) (by omega) (by omega))).mp c_16
        refine lv_aload_n hx hb dX2_wardsWon_19 rfl (lv_at hl 3 rfl) ?_
        refine lv_iload_n hx hb dX2_wardsWon_20 rfl (lv_at hl 4 rfl) ?_
        refine lv_iload hx hb dX2_wardsWon_21 (lv_at hl 0 rfl) ?_
        refine xrd (va_runV (As := [.int (nI c1), .int (nI i)]) (rest := []) hF (c_X2_beginsWard l D cI cS ad sh sla sle sf n fo ki st we lo n2 go kj sj wj lj ti rc rv rd tr fa c1 i (by first | assumption | omega) (by first | assumption | omega) (by first | assumption | omega)) (cwV 2 hts gX2_wardsWon_X2_beginsWard rfl rfl rfl hV_X2_beginsWard ⟨Nat.le_of_ble_eq_true rfl, Nat.le_of_ble_eq_true rfl⟩) (PR.preV hG hP (ci := 2) rfl rfl) rfl rfl hl.1 rfl (lv_room (Nat.le_of_ble_eq_true rfl)) dX2_wardsWon_23 ⟨Nat.le_refl _, Nat.le_refl _⟩) ?_
        refine lv_if_eq (tgt := 43) hx hb dX2_wardsWon_26 (by decide) (fun c_26 => ?_) (fun c_26 => ?_)
        ·
          replace c_26 := bI_0.mp c_26
          refine lv_iload_n hx hb dX2_wardsWon_43 rfl (lv_at hl 1 rfl) ?_
          refine lv_aload_n hx hb dX2_wardsWon_44 rfl (lv_at hl 3 rfl) ?_
          refine va_get (D := D) (ci := 2) (v := .ref (ad 20)) (C := RX2) (T := TX2) (N := 9) hx hb yX2 (fun _ h => h) hown hG.1 hP 0 rfl rfl 3 (by decide) f27 (fun _ h => h) rfl dX2_wardsWon_45 ?_
          refine lv_iload hx hb dX2_wardsWon_48 (lv_at hl 0 rfl) ?_
          refine xald hx hb hG hP 20 rfl (i) rfl (by omega) (by decide) dX2_wardsWon_50 ?_
          refine lv_iadd hx hb dX2_wardsWon_51 ?_
          refine lv_istore_n (lv' := [(3, .int ((zI (wwS (cutB n c1) (tiN n fo ki st we lo) i).2) + (ti i))), (4, .int (nI i)), (2, .int (nI ((wwS (cutB n c1) (tiN n fo ki st we lo) i).1))), (0, .ref (ad 0)), (1, .int (nI c1))]) hx hb dX2_wardsWon_52 rfl hl (by decide) rfl (fun ls hl => ?_)
          refine lv_iinc (v := nI (i + 1)) (lv' := [(4, .int (nI (i + 1))), (3, .int ((zI (wwS (cutB n c1) (tiN n fo ki st we lo) i).2) + (ti i))), (2, .int (nI ((wwS (cutB n c1) (tiN n fo ki st we lo) i).1))), (0, .ref (ad 0)), (1, .int (nI c1))]) hx hb dX2_wardsWon_53 hl (k := 1) rfl xinc1 (by decide) rfl (fun ls hl => ?_)
          refine lv_goto (tgt := 7) hx hb dX2_wardsWon_56 (by decide) ?_
          exact ih (i + 1) ((zI (wwS (cutB n c1) (tiN n fo ki st we lo) i).2) + (ti i)) (nI ((wwS (cutB n c1) (tiN n fo ki st we lo) i).1)) (by rw [ww_n c_26, hti i (by omega)]; exact zI_add _ _) (by rw [ww_n c_26]) (by omega) (by omega) ls (lv_sub hl [0, 1, 2, 3, 4] rfl)
        ·
          replace c_26 := bI_n0.mp c_26
          refine lv_iload_n hx hb dX2_wardsWon_29 rfl (lv_at hl 2 rfl) ?_
          refine lv_iload_n hx hb dX2_wardsWon_30 rfl (lv_at hl 1 rfl) ?_
          refine lv_if_le (tgt := 38) hx hb dX2_wardsWon_31 (by decide) (fun c_31 => ?_) (fun c_31 => ?_)
          ·
            replace c_31 : (zI (wwS (cutB n c1) (tiN n fo ki st we lo) i).2).toInt ≤ 0 := (i32_lec (b := 0) (by omega)).mp c_31
            refine lv_iconst (v := nI 0) hx hb dX2_wardsWon_38 (by decide) ?_
            refine xaddN hx hb dX2_wardsWon_39 ?_
            refine lv_istore_n (lv' := [(2, .int (nI ((wwS (cutB n c1) (tiN n fo ki st we lo) i).1 + 0))), (4, .int (nI i)), (3, .int (zI (wwS (cutB n c1) (tiN n fo ki st we lo) i).2)), (0, .ref (ad 0)), (1, .int (nI c1))]) hx hb dX2_wardsWon_40 rfl hl (by decide) rfl (fun ls hl => ?_)
            refine lv_iconst (v := nI 0) hx hb dX2_wardsWon_41 (by decide) ?_
            refine lv_istore_n (lv' := [(3, .int (nI 0)), (2, .int (nI ((wwS (cutB n c1) (tiN n fo ki st we lo) i).1 + 0))), (4, .int (nI i)), (0, .ref (ad 0)), (1, .int (nI c1))]) hx hb dX2_wardsWon_42 rfl hl (by decide) rfl (fun ls hl => ?_)
            refine lv_iload_n hx hb dX2_wardsWon_43 rfl (lv_at hl 0 rfl) ?_
            refine lv_aload_n hx hb dX2_wardsWon_44 rfl (lv_at hl 3 rfl) ?_
            refine va_get (D := D) (ci := 2) (v := .ref (ad 20)) (C := RX2) (T := TX2) (N := 9) hx hb yX2 (fun _ h => h) hown hG.1 hP 0 rfl rfl 3 (by decide) f27 (fun _ h => h) rfl dX2_wardsWon_45 ?_
            refine lv_iload hx hb dX2_wardsWon_48 (lv_at hl 2 rfl) ?_
            refine xald hx hb hG hP 20 rfl (i) rfl (by omega) (by decide) dX2_wardsWon_50 ?_
            refine lv_iadd hx hb dX2_wardsWon_51 ?_
            refine lv_istore_n (lv' := [(3, .int ((nI 0) + (ti i))), (2, .int (nI ((wwS (cutB n c1) (tiN n fo ki st we lo) i).1 + 0))), (4, .int (nI i)), (0, .ref (ad 0)), (1, .int (nI c1))]) hx hb dX2_wardsWon_52 rfl hl (by decide) rfl (fun ls hl => ?_)
            refine lv_iinc (v := nI (i + 1)) (lv' := [(4, .int (nI (i + 1))), (3, .int ((nI 0) + (ti i))), (2, .int (nI ((wwS (cutB n c1) (tiN n fo ki st we lo) i).1 + 0))), (0, .ref (ad 0)), (1, .int (nI c1))]) hx hb dX2_wardsWon_53 hl (k := 2) rfl xinc1 (by decide) rfl (fun ls hl => ?_)
            refine lv_goto (tgt := 7) hx hb dX2_wardsWon_56 (by decide) ?_
            exact ih (i + 1) ((nI 0) + (ti i)) (nI ((wwS (cutB n c1) (tiN n fo ki st we lo) i).1 + 0)) (by rw [ww_y c_26, hti i (by omega)]; exact zI_0add _) (by rw [ww_y c_26, if_neg (show ¬ 0 < (wwS (cutB n c1) (tiN n fo ki st we lo) i).2 by omega)]; try rfl) (by omega) (by omega) ls (lv_sub hl [0, 1, 2, 3, 4] rfl)
          ·
            replace c_31 : ¬ (zI (wwS (cutB n c1) (tiN n fo ki st we lo) i).2).toInt ≤ 0 := (not_congr (i32_lec (b := 0) (by omega))).mp c_31
            refine lv_iconst (v := nI 1) hx hb dX2_wardsWon_34 (by decide) ?_
            refine lv_goto (tgt := 39) hx hb dX2_wardsWon_35 (by decide) ?_
            refine xaddN hx hb dX2_wardsWon_39 ?_
            refine lv_istore_n (lv' := [(2, .int (nI ((wwS (cutB n c1) (tiN n fo ki st we lo) i).1 + 1))), (4, .int (nI i)), (3, .int (zI (wwS (cutB n c1) (tiN n fo ki st we lo) i).2)), (0, .ref (ad 0)), (1, .int (nI c1))]) hx hb dX2_wardsWon_40 rfl hl (by decide) rfl (fun ls hl => ?_)
            refine lv_iconst (v := nI 0) hx hb dX2_wardsWon_41 (by decide) ?_
            refine lv_istore_n (lv' := [(3, .int (nI 0)), (2, .int (nI ((wwS (cutB n c1) (tiN n fo ki st we lo) i).1 + 1))), (4, .int (nI i)), (0, .ref (ad 0)), (1, .int (nI c1))]) hx hb dX2_wardsWon_42 rfl hl (by decide) rfl (fun ls hl => ?_)
            refine lv_iload_n hx hb dX2_wardsWon_43 rfl (lv_at hl 0 rfl) ?_
            refine lv_aload_n hx hb dX2_wardsWon_44 rfl (lv_at hl 3 rfl) ?_
            refine va_get (D := D) (ci := 2) (v := .ref (ad 20)) (C := RX2) (T := TX2) (N := 9) hx hb yX2 (fun _ h => h) hown hG.1 hP 0 rfl rfl 3 (by decide) f27 (fun _ h => h) rfl dX2_wardsWon_45 ?_
            refine lv_iload hx hb dX2_wardsWon_48 (lv_at hl 2 rfl) ?_
            refine xald hx hb hG hP 20 rfl (i) rfl (by omega) (by decide) dX2_wardsWon_50 ?_
            refine lv_iadd hx hb dX2_wardsWon_51 ?_
            refine lv_istore_n (lv' := [(3, .int ((nI 0) + (ti i))), (2, .int (nI ((wwS (cutB n c1) (tiN n fo ki st we lo) i).1 + 1))), (4, .int (nI i)), (0, .ref (ad 0)), (1, .int (nI c1))]) hx hb dX2_wardsWon_52 rfl hl (by decide) rfl (fun ls hl => ?_)
            refine lv_iinc (v := nI (i + 1)) (lv' := [(4, .int (nI (i + 1))), (3, .int ((nI 0) + (ti i))), (2, .int (nI ((wwS (cutB n c1) (tiN n fo ki st we lo) i).1 + 1))), (0, .ref (ad 0)), (1, .int (nI c1))]) hx hb dX2_wardsWon_53 hl (k := 2) rfl xinc1 (by decide) rfl (fun ls hl => ?_)
            refine lv_goto (tgt := 7) hx hb dX2_wardsWon_56 (by decide) ?_
            exact ih (i + 1) ((nI 0) + (ti i)) (nI ((wwS (cutB n c1) (tiN n fo ki st we lo) i).1 + 1)) (by rw [ww_y c_26, hti i (by omega)]; exact zI_0add _) (by rw [ww_y c_26, if_pos (show 0 < (wwS (cutB n c1) (tiN n fo ki st we lo) i).2 by omega)]; try rfl) (by omega) (by omega) ls (lv_sub hl [0, 1, 2, 3, 4] rfl)
  exact K7 _ 0 (nI 0) (nI 0) (by first | rfl | exact Nat.zero_le _ | omega | assumption) (by first | rfl | exact Nat.zero_le _ | omega | assumption) (by first | rfl | exact Nat.zero_le _ | omega | assumption) (Nat.lt_succ_self _) ls (lv_sub hl [0, 1, 2, 3, 4] rfl)

set_option maxHeartbeats 4000000 in
set_option maxRecDepth 100000 in
theorem c_X2_firstOfWard (l : Launch) (D : va_G) (cI cS : ClassId) (ad : Nat → Nat) (sh : Nat → Bool) (sla : Nat → Nat) (sle : Nat → Nat) (sf : Nat → Nat → Int32) (n : Nat) (fo : Nat) (ki : Nat → Nat) (st : Nat → Nat) (we : Nat → Nat) (lo : Nat → Nat) (n2 : Nat) (go : Nat) (kj : Nat → Nat) (sj : Nat → Nat) (wj : Nat → Nat) (lj : Nat → Nat) (ti : Nat → Int32) (rc : Nat → Nat) (rv : Nat → Nat) (rd : Nat) (tr : Int32) (fa : Nat) (c1 : Nat) (w : Nat) (hn : n ≤ 8) (hc1 : c1 < 256) (hw : w < 8) : Met l yX2_firstOfWard wsX2_firstOfWard ({ frames := 2, cells := 0, slots := 0, locals := 43 }) (PR D cI cS [.ref (ad 0), .int (nI c1), .int (nI w)] (wX cI cS ad sh sla sle sf n fo ki st we lo n2 go kj sj wj lj ti rc rv rd tr fa)) (vp_Si (fun r => r = optI (fowN n c1 w))) 0 0 (fun _ => False) := by
  refine startR (by decide) rfl (Nat.le_of_ble_eq_true rfl) ?_
  intro p e s m below meth c hx hb hr hts hown hlk hml hG hP ls hl
  have hl : lv_has ls 5 [(0, .ref (ad 0)), (1, .int (nI c1)), (2, .int (nI w))] := hl
  have f20 := hts (.fieldLink RX2 20 "ChairBallot" "now" "LChairBallot$Row;") (by decide +kernel)
  have f75 := hts (.fieldLink RX2 75 "ChairBallot$Row" "count" "I") (by decide +kernel)
  have yX0 : ∀ w ∈ u_ws RX0 TX0 6, w.before _ s = true := fun w h => hts w ((by decide +kernel : ∀ w ∈ wsX00, w ∈ wsX2_firstOfWard) w h)
  have yX2 : ∀ w ∈ u_ws RX2 TX2 9, w.before _ s = true := fun w h => hts w ((by decide +kernel : ∀ w ∈ wsX20, w ∈ wsX2_firstOfWard) w h)
  have hF : CallFix p m c cX2_firstOfWard 5 s _ wsX2_firstOfWard RX2 := ⟨hx, hb, hml, hown, hts⟩
  refine lv_iconst (v := nI 0) hx hb dX2_firstOfWard_0 (by decide) ?_
  refine lv_istore_n (lv' := [(3, .int (nI 0)), (0, .ref (ad 0)), (1, .int (nI c1)), (2, .int (nI w))]) hx hb dX2_firstOfWard_1 rfl hl (by decide) rfl (fun ls hl => ?_)
  refine lv_iconst (v := nI 0) hx hb dX2_firstOfWard_2 (by decide) ?_
  refine lv_istore (lv' := [(4, .int (nI 0)), (3, .int (nI 0)), (0, .ref (ad 0)), (1, .int (nI c1)), (2, .int (nI w))]) hx hb dX2_firstOfWard_3 hl (by decide) rfl (fun ls hl => ?_)
  have K5 : ∀ (fuel : Nat) (i : Nat) (x3 : Int32), x3 = nI (cntN (cutB n c1) i) → (i ≤ n) → (∀ m, m < i → (cutB n c1 m && decide (cntN (cutB n c1) m = w)) = false) → (n - i) < fuel → ∀ ls : Array Slot, lv_has ls 5 [(4, .int (nI i)), (3, .int x3), (0, .ref (ad 0)), (1, .int (nI c1)), (2, .int (nI w))] → W p l e ({ frames := 2, cells := 0, slots := 0, locals := 43 }) s m (([.ref (ad 0), .int (nI c1), .int (nI w)] : List Value).toArray) below meth c s.heap [] 0 0 (MQ below (vp_Si (fun r => r = optI (fowN n c1 w))) (([.ref (ad 0), .int (nI c1), .int (nI w)] : List Value).toArray) s 0 0 (fun _ => False)) (F0 m 5 ls []) := by
    intro fuel
    induction fuel with
    | zero => intro i x3 e_x3 hi hno hmu; exact absurd hmu (Nat.not_lt_zero _)
    | succ fuel ih =>
      intro i x3 e_x3 hi hno hmu ls hl
      subst e_x3
      have hcl := cntN_le (cutB n c1) i
      refine lv_iload hx hb dX2_firstOfWard_5 (lv_at hl 0 rfl) ?_
      refine lv_aload_n hx hb dX2_firstOfWard_7 rfl (lv_at hl 2 rfl) ?_
      refine va_get (D := D) (ci := 2) (v := .ref (ad 10)) (C := RX2) (T := TX2) (N := 9) hx hb yX2 (fun _ h => h) hown hG.1 hP 0 rfl rfl 1 (by decide) f20 (fun _ h => h) rfl dX2_firstOfWard_8 ?_
      refine va_get (D := D) (ci := 0) (v := .int (nI n)) (C := RX0) (T := TX0) (N := 6) hx hb yX0 (fun _ h => h) hown hG.1 hP 10 rfl rfl 4 (by decide) f75 (fun _ h => h) rfl dX2_firstOfWard_11 ?_
      refine lv_icmp_ge (tgt := 44) hx hb dX2_firstOfWard_14 (by decide) (fun c_14 => ?_) (fun c_14 => ?_)
      ·
        replace c_14 := (nI_leI (a := n) (b := i) (by omega) (by omega)).mp c_14
        have hin : n = i := by omega
        subst hin
        refine lv_bipush (v := (-9)) hx hb dX2_firstOfWard_44 (by decide) ?_
        exact xretR hx hb hr hlk dX2_firstOfWard_46 (by have e9 : fowN n c1 w = none := firstV_none hno; rw [e9]; rfl)
      ·
        replace c_14 := (not_congr (nI_leI (a := n) (b := i) (by omega) (by omega))).mp c_14
        refine lv_aload_n hx hb dX2_firstOfWard_17 rfl (lv_at hl 2 rfl) ?_
        refine lv_iload_n hx hb dX2_firstOfWard_18 rfl (lv_at hl 3 rfl) ?_
        refine lv_iload hx hb dX2_firstOfWard_19 (lv_at hl 0 rfl) ?_
        refine xrd (va_runV (As := [.int (nI c1), .int (nI i)]) (rest := []) hF (c_X2_beginsWard l D cI cS ad sh sla sle sf n fo ki st we lo n2 go kj sj wj lj ti rc rv rd tr fa c1 i (by first | assumption | omega) (by first | assumption | omega) (by first | assumption | omega)) (cwV 2 hts gX2_firstOfWard_X2_beginsWard rfl rfl rfl hV_X2_beginsWard ⟨Nat.le_of_ble_eq_true rfl, Nat.le_of_ble_eq_true rfl⟩) (PR.preV hG hP (ci := 2) rfl rfl) rfl rfl hl.1 rfl (lv_room (Nat.le_of_ble_eq_true rfl)) dX2_firstOfWard_21 ⟨Nat.le_refl _, Nat.le_refl _⟩) ?_
        refine lv_if_eq (tgt := 38) hx hb dX2_firstOfWard_24 (by decide) (fun c_24 => ?_) (fun c_24 => ?_)
        ·
          replace c_24 := bI_0.mp c_24
          refine lv_iinc (v := nI (i + 1)) (lv' := [(4, .int (nI (i + 1))), (3, .int (nI (cntN (cutB n c1) i))), (0, .ref (ad 0)), (1, .int (nI c1)), (2, .int (nI w))]) hx hb dX2_firstOfWard_38 hl (k := 0) rfl xinc1 (by decide) rfl (fun ls hl => ?_)
          refine lv_goto (tgt := 5) hx hb dX2_firstOfWard_41 (by decide) ?_
          exact ih (i + 1) (nI (cntN (cutB n c1) i)) (by rw [cnt_n c_24]) (by omega) (by intro v hv; rcases Nat.lt_succ_iff_lt_or_eq.mp hv with h9 | rfl; exact hno v h9; rw [c_24]; rfl) (by omega) ls (lv_sub hl [0, 1, 2, 3, 4] rfl)
        ·
          replace c_24 := bI_n0.mp c_24
          refine lv_iload_n hx hb dX2_firstOfWard_27 rfl (lv_at hl 1 rfl) ?_
          refine lv_iload_n hx hb dX2_firstOfWard_28 rfl (lv_at hl 4 rfl) ?_
          refine lv_icmp_ne (tgt := 35) hx hb dX2_firstOfWard_29 (by decide) (fun c_29 => ?_) (fun c_29 => ?_)
          ·
            replace c_29 := (not_congr (nI_eq (a := cntN (cutB n c1) i) (b := w) (by omega) (by omega))).mp c_29
            refine lv_iinc (v := nI (cntN (cutB n c1) i + 1)) (lv' := [(3, .int (nI (cntN (cutB n c1) i + 1))), (4, .int (nI i)), (0, .ref (ad 0)), (1, .int (nI c1)), (2, .int (nI w))]) hx hb dX2_firstOfWard_35 hl (k := 1) rfl xinc1 (by decide) rfl (fun ls hl => ?_)
            refine lv_iinc (v := nI (i + 1)) (lv' := [(4, .int (nI (i + 1))), (3, .int (nI (cntN (cutB n c1) i + 1))), (0, .ref (ad 0)), (1, .int (nI c1)), (2, .int (nI w))]) hx hb dX2_firstOfWard_38 hl (k := 1) rfl xinc1 (by decide) rfl (fun ls hl => ?_)
            refine lv_goto (tgt := 5) hx hb dX2_firstOfWard_41 (by decide) ?_
            exact ih (i + 1) (nI (cntN (cutB n c1) i + 1)) (by rw [cnt_y c_24]) (by omega) (by intro v hv; rcases Nat.lt_succ_iff_lt_or_eq.mp hv with h9 | rfl; exact hno v h9; rw [decide_eq_false c_29, Bool.and_false]) (by omega) ls (lv_sub hl [0, 1, 2, 3, 4] rfl)
          ·
            replace c_29 := (nI_eq (a := cntN (cutB n c1) i) (b := w) (by omega) (by omega)).mp c_29
            refine lv_iload hx hb dX2_firstOfWard_32 (lv_at hl 0 rfl) ?_
            exact xretR hx hb hr hlk dX2_firstOfWard_34 (by have e9 : fowN n c1 w = some i := firstV_some hno (show (cutB n c1 i && decide (cntN (cutB n c1) i = w)) = true from by rw [c_24, decide_eq_true c_29]; rfl) (by omega); rw [e9]; rfl)
  exact K5 _ 0 (nI 0) (by first | rfl | omega | (intro v hv; omega)) (by first | rfl | omega | (intro v hv; omega)) (by first | rfl | omega | (intro v hv; omega)) (Nat.lt_succ_self _) ls (lv_sub hl [0, 1, 2, 3, 4] rfl)

set_option maxHeartbeats 4000000 in
set_option maxRecDepth 100000 in
theorem c_X2_fairestCuts (l : Launch) (D : va_G) (cI cS : ClassId) (ad : Nat → Nat) (sh : Nat → Bool) (sla : Nat → Nat) (sle : Nat → Nat) (sf : Nat → Nat → Int32) (n : Nat) (fo : Nat) (ki : Nat → Nat) (st : Nat → Nat) (we : Nat → Nat) (lo : Nat → Nat) (n2 : Nat) (go : Nat) (kj : Nat → Nat) (sj : Nat → Nat) (wj : Nat → Nat) (lj : Nat → Nat) (ti : Nat → Int32) (rc : Nat → Nat) (rv : Nat → Nat) (rd : Nat) (tr : Int32) (fa : Nat) (nn : Nat) (hn : n ≤ 8) (hfo : fo < 256) (hki : ∀ j, ki j ≤ 2) (hwe : ∀ j, we j ≤ 9) (hst : ∀ j, st j ≤ 3) (hlo : ∀ j, lo j ≤ 3) (hti : ∀ j, j < n → ti j = zI (tiN n fo ki st we lo j)) (hn0 : 0 < n) (hnn : nn ≤ 8) : Met l yX2_fairestCuts wsX2_fairestCuts ({ frames := 3, cells := 0, slots := 0, locals := 67 }) (PR D cI cS [.ref (ad 0), .int (nI nn)] (wX cI cS ad sh sla sle sf n fo ki st we lo n2 go kj sj wj lj ti rc rv rd tr fa)) (vp_Si (fun r => r = nI (bestX n fo ki st we lo nn))) 0 0 (fun _ => False) := by
  refine startR (by decide) rfl (Nat.le_of_ble_eq_true rfl) ?_
  intro p e s m below meth c hx hb hr hts hown hlk hml hG hP ls hl
  have hl : lv_has ls 6 [(0, .ref (ad 0)), (1, .int (nI nn))] := hl
  have f20 := hts (.fieldLink RX2 20 "ChairBallot" "now" "LChairBallot$Row;") (by decide +kernel)
  have f75 := hts (.fieldLink RX2 75 "ChairBallot$Row" "count" "I") (by decide +kernel)
  have yX0 : ∀ w ∈ u_ws RX0 TX0 6, w.before _ s = true := fun w h => hts w ((by decide +kernel : ∀ w ∈ wsX00, w ∈ wsX2_fairestCuts) w h)
  have yX2 : ∀ w ∈ u_ws RX2 TX2 9, w.before _ s = true := fun w h => hts w ((by decide +kernel : ∀ w ∈ wsX20, w ∈ wsX2_fairestCuts) w h)
  have hF : CallFix p m c cX2_fairestCuts 6 s _ wsX2_fairestCuts RX2 := ⟨hx, hb, hml, hown, hts⟩
  have hpp := pow_pred hn
  have hp0 : 1 ≤ 2 ^ (n - 1) := Nat.one_le_two_pow
  refine lv_iconst (v := nI 0) hx hb dX2_fairestCuts_0 (by decide) ?_
  refine lv_istore_n (lv' := [(2, .int (nI 0)), (0, .ref (ad 0)), (1, .int (nI nn))]) hx hb dX2_fairestCuts_1 rfl hl (by decide) rfl (fun ls hl => ?_)
  refine lv_iconst (v := (-1)) hx hb dX2_fairestCuts_2 (by decide) ?_
  refine lv_istore_n (lv' := [(3, .int (-1)), (2, .int (nI 0)), (0, .ref (ad 0)), (1, .int (nI nn))]) hx hb dX2_fairestCuts_3 rfl hl (by decide) rfl (fun ls hl => ?_)
  refine lv_iconst (v := nI 1) hx hb dX2_fairestCuts_4 (by decide) ?_
  refine lv_aload_n hx hb dX2_fairestCuts_5 rfl (lv_at hl 2 rfl) ?_
  refine va_get (D := D) (ci := 2) (v := .ref (ad 10)) (C := RX2) (T := TX2) (N := 9) hx hb yX2 (fun _ h => h) hown hG.1 hP 0 rfl rfl 1 (by decide) f20 (fun _ h => h) rfl dX2_fairestCuts_6 ?_
  refine va_get (D := D) (ci := 0) (v := .int (nI n)) (C := RX0) (T := TX0) (N := 6) hx hb yX0 (fun _ h => h) hown hG.1 hP 10 rfl rfl 4 (by decide) f75 (fun _ h => h) rfl dX2_fairestCuts_9 ?_
  refine lv_iconst (v := nI 1) hx hb dX2_fairestCuts_12 (by decide) ?_
  refine xsubN (x := n) (y := 1) hx hb (by omega) dX2_fairestCuts_13 ?_
  refine lv_ishl hx hb dX2_fairestCuts_14 ?_
  refine xtop (x' := nI (2 ^ (n - 1))) (by exact shl1 (n - 1) (by omega)) ?_
  refine lv_istore (lv' := [(4, .int (nI (2 ^ (n - 1)))), (3, .int (-1)), (2, .int (nI 0)), (0, .ref (ad 0)), (1, .int (nI nn))]) hx hb dX2_fairestCuts_15 hl (by decide) rfl (fun ls hl => ?_)
  refine lv_iconst (v := nI 2) hx hb dX2_fairestCuts_17 (by decide) ?_
  refine lv_iload hx hb dX2_fairestCuts_18 (lv_at hl 0 rfl) ?_
  refine xmulN hx hb dX2_fairestCuts_20 ?_
  refine lv_iconst (v := nI 1) hx hb dX2_fairestCuts_21 (by decide) ?_
  refine xsubN (x := 2 * (2 ^ (n - 1))) (y := 1) hx hb (by omega) dX2_fairestCuts_22 ?_
  refine lv_istore (lv' := [(5, .int (nI (2 * (2 ^ (n - 1)) - 1))), (4, .int (nI (2 ^ (n - 1)))), (3, .int (-1)), (2, .int (nI 0)), (0, .ref (ad 0)), (1, .int (nI nn))]) hx hb dX2_fairestCuts_23 hl (by decide) rfl (fun ls hl => ?_)
  have K25 : ∀ (fuel : Nat) (i : Nat) (x5 : Int32) (x3 : Int32) (x2 : Int32), x5 = nI (2 * 2 ^ (n - 1) - 1 - i) → x3 = optW (winX n fo ki st we lo) (fcO (winX n fo ki st we lo) nn (2 ^ (n - 1)) i) → x2 = nI (optC (fcO (winX n fo ki st we lo) nn (2 ^ (n - 1)) i)) → (i ≤ 2 ^ (n - 1)) → (2 ^ (n - 1) - i) < fuel → ∀ ls : Array Slot, lv_has ls 6 [(5, .int x5), (4, .int (nI (2 ^ (n - 1)))), (3, .int x3), (2, .int x2), (0, .ref (ad 0)), (1, .int (nI nn))] → W p l e ({ frames := 3, cells := 0, slots := 0, locals := 67 }) s m (([.ref (ad 0), .int (nI nn)] : List Value).toArray) below meth c s.heap [] 0 0 (MQ below (vp_Si (fun r => r = nI (bestX n fo ki st we lo nn))) (([.ref (ad 0), .int (nI nn)] : List Value).toArray) s 0 0 (fun _ => False)) (F0 m 25 ls []) := by
    intro fuel
    induction fuel with
    | zero => intro i x5 x3 x2 e_x5 e_x3 e_x2 hi hmu; exact absurd hmu (Nat.not_lt_zero _)
    | succ fuel ih =>
      intro i x5 x3 x2 e_x5 e_x3 e_x2 hi hmu ls hl
      subst e_x5
      subst e_x3
      subst e_x2
      have hp := popN_le (2 * 2 ^ (n - 1) - 1 - i)
      have hwl := winX_lt (fo := fo) (ki := ki) (st := st) (lo := lo) hwe hn (2 * 2 ^ (n - 1) - 1 - i)
      refine lv_iload hx hb dX2_fairestCuts_25 (lv_at hl 0 rfl) ?_
      refine lv_iload hx hb dX2_fairestCuts_27 (lv_at hl 1 rfl) ?_
      refine lv_icmp_lt (tgt := 67) hx hb dX2_fairestCuts_29 (by decide) (fun c_29 => ?_) (fun c_29 => ?_)
      ·
        replace c_29 := (nI_ltI (a := 2 * 2 ^ (n - 1) - 1 - i) (b := 2 ^ (n - 1)) (by omega) (by omega)).mp c_29
        have hin : 2 ^ (n - 1) = i := by omega
        subst hin
        refine lv_iload_n hx hb dX2_fairestCuts_67 rfl (lv_at hl 3 rfl) ?_
        exact xretR hx hb hr hlk dX2_fairestCuts_68 (by rfl)
      ·
        replace c_29 := (not_congr (nI_ltI (a := 2 * 2 ^ (n - 1) - 1 - i) (b := 2 ^ (n - 1)) (by omega) (by omega))).mp c_29
        refine lv_iload hx hb dX2_fairestCuts_32 (lv_at hl 0 rfl) ?_
        refine xrd (va_runS (As := [.int (nI (2 * 2 ^ (n - 1) - 1 - i))]) (rest := []) hF (c_J6_bitCount l D cI cS (2 * 2 ^ (n - 1) - 1 - i) (by first | assumption | omega)) (va_cwS 1 hts gX2_fairestCuts_J6_bitCount_0f7a4 rfl rfl rfl hD_J6_bitCount_0f7a4 ⟨Nat.le_of_ble_eq_true rfl, Nat.le_of_ble_eq_true rfl⟩) (PR.pre hG (hP.sub (ws' := []) [] rfl)) rfl rfl hl.1 rfl (lv_room (Nat.le_of_ble_eq_true rfl)) dX2_fairestCuts_34 ⟨Nat.le_refl _, Nat.le_refl _⟩) ?_
        refine lv_iload_n hx hb dX2_fairestCuts_37 rfl (lv_at hl 5 rfl) ?_
        refine lv_icmp_ne (tgt := 61) hx hb dX2_fairestCuts_38 (by decide) (fun c_38 => ?_) (fun c_38 => ?_)
        ·
          replace c_38 := (not_congr (nI_eq (a := popN (2 * 2 ^ (n - 1) - 1 - i)) (b := nn) (by omega) (by omega))).mp c_38
          refine lv_iinc (v := nI ((2 * 2 ^ (n - 1) - 1 - i) - 1)) (lv' := [(5, .int (nI ((2 * 2 ^ (n - 1) - 1 - i) - 1))), (4, .int (nI (2 ^ (n - 1)))), (3, .int (optW (winX n fo ki st we lo) (fcO (winX n fo ki st we lo) nn (2 ^ (n - 1)) i))), (2, .int (nI (optC (fcO (winX n fo ki st we lo) nn (2 ^ (n - 1)) i)))), (0, .ref (ad 0)), (1, .int (nI nn))]) hx hb dX2_fairestCuts_61 hl (k := 0) rfl (xdecN (by omega)) (by decide) rfl (fun ls hl => ?_)
          refine lv_goto (tgt := 25) hx hb dX2_fairestCuts_64 (by decide) ?_
          exact ih (i + 1) (nI ((2 * 2 ^ (n - 1) - 1 - i) - 1)) (optW (winX n fo ki st we lo) (fcO (winX n fo ki st we lo) nn (2 ^ (n - 1)) i)) (nI (optC (fcO (winX n fo ki st we lo) nn (2 ^ (n - 1)) i))) (by rw [Nat.sub_sub (2 * 2 ^ (n - 1) - 1) i 1]) (by rw [fc_n1 c_38]) (by rw [fc_n1 c_38]) (by omega) (by omega) ls (lv_sub hl [0, 1, 2, 3, 4, 5] rfl)
        ·
          replace c_38 := (nI_eq (a := popN (2 * 2 ^ (n - 1) - 1 - i)) (b := nn) (by omega) (by omega)).mp c_38
          refine lv_aload_n hx hb dX2_fairestCuts_41 rfl (lv_at hl 4 rfl) ?_
          refine lv_iload hx hb dX2_fairestCuts_42 (lv_at hl 0 rfl) ?_
          refine xrd (va_runV (As := [.int (nI (2 * 2 ^ (n - 1) - 1 - i))]) (rest := []) hF (c_X2_wardsWon l D cI cS ad sh sla sle sf n fo ki st we lo n2 go kj sj wj lj ti rc rv rd tr fa (2 * 2 ^ (n - 1) - 1 - i) (by first | assumption | omega) (by first | assumption | omega) (by first | assumption | omega) (by first | assumption | omega) (by first | assumption | omega) (by first | assumption | omega) (by first | assumption | omega) (by first | assumption | omega)) (cwV 1 hts gX2_fairestCuts_X2_wardsWon rfl rfl rfl hV_X2_wardsWon ⟨Nat.le_of_ble_eq_true rfl, Nat.le_of_ble_eq_true rfl⟩) (PR.preV hG hP (ci := 2) rfl rfl) rfl rfl hl.1 rfl (lv_room (Nat.le_of_ble_eq_true rfl)) dX2_fairestCuts_44 ⟨Nat.le_refl _, Nat.le_refl _⟩) ?_
          refine lv_iload_n hx hb dX2_fairestCuts_47 rfl (lv_at hl 2 rfl) ?_
          refine lv_icmp_le (tgt := 61) hx hb dX2_fairestCuts_48 (by decide) (fun c_48 => ?_) (fun c_48 => ?_)
          ·
            replace c_48 : ((winX n fo ki st we lo (2 * 2 ^ (n - 1) - 1 - i) : Nat) : Int) ≤ (optW (winX n fo ki st we lo) (fcO (winX n fo ki st we lo) nn (2 ^ (n - 1)) i)).toInt := (i32_gec (b := winX n fo ki st we lo (2 * 2 ^ (n - 1) - 1 - i)) (by omega)).mp c_48
            refine lv_iinc (v := nI ((2 * 2 ^ (n - 1) - 1 - i) - 1)) (lv' := [(5, .int (nI ((2 * 2 ^ (n - 1) - 1 - i) - 1))), (4, .int (nI (2 ^ (n - 1)))), (3, .int (optW (winX n fo ki st we lo) (fcO (winX n fo ki st we lo) nn (2 ^ (n - 1)) i))), (2, .int (nI (optC (fcO (winX n fo ki st we lo) nn (2 ^ (n - 1)) i)))), (0, .ref (ad 0)), (1, .int (nI nn))]) hx hb dX2_fairestCuts_61 hl (k := 0) rfl (xdecN (by omega)) (by decide) rfl (fun ls hl => ?_)
            refine lv_goto (tgt := 25) hx hb dX2_fairestCuts_64 (by decide) ?_
            exact ih (i + 1) (nI ((2 * 2 ^ (n - 1) - 1 - i) - 1)) (optW (winX n fo ki st we lo) (fcO (winX n fo ki st we lo) nn (2 ^ (n - 1)) i)) (nI (optC (fcO (winX n fo ki st we lo) nn (2 ^ (n - 1)) i))) (by rw [Nat.sub_sub (2 * 2 ^ (n - 1) - 1) i 1]) (by rw [fc_n2 (winX_lt hwe hn) c_48]) (by rw [fc_n2 (winX_lt hwe hn) c_48]) (by omega) (by omega) ls (lv_sub hl [0, 1, 2, 3, 4, 5] rfl)
          ·
            replace c_48 : ¬ ((winX n fo ki st we lo (2 * 2 ^ (n - 1) - 1 - i) : Nat) : Int) ≤ (optW (winX n fo ki st we lo) (fcO (winX n fo ki st we lo) nn (2 ^ (n - 1)) i)).toInt := (not_congr (i32_gec (b := winX n fo ki st we lo (2 * 2 ^ (n - 1) - 1 - i)) (by omega))).mp c_48
            refine lv_iload hx hb dX2_fairestCuts_51 (lv_at hl 0 rfl) ?_
            refine lv_istore_n (lv' := [(2, .int (nI (2 * 2 ^ (n - 1) - 1 - i))), (5, .int (nI (2 * 2 ^ (n - 1) - 1 - i))), (4, .int (nI (2 ^ (n - 1)))), (3, .int (optW (winX n fo ki st we lo) (fcO (winX n fo ki st we lo) nn (2 ^ (n - 1)) i))), (0, .ref (ad 0)), (1, .int (nI nn))]) hx hb dX2_fairestCuts_53 rfl hl (by decide) rfl (fun ls hl => ?_)
            refine lv_aload_n hx hb dX2_fairestCuts_54 rfl (lv_at hl 4 rfl) ?_
            refine lv_iload hx hb dX2_fairestCuts_55 (lv_at hl 1 rfl) ?_
            refine xrd (va_runV (As := [.int (nI (2 * 2 ^ (n - 1) - 1 - i))]) (rest := []) hF (c_X2_wardsWon l D cI cS ad sh sla sle sf n fo ki st we lo n2 go kj sj wj lj ti rc rv rd tr fa (2 * 2 ^ (n - 1) - 1 - i) (by first | assumption | omega) (by first | assumption | omega) (by first | assumption | omega) (by first | assumption | omega) (by first | assumption | omega) (by first | assumption | omega) (by first | assumption | omega) (by first | assumption | omega)) (cwV 1 hts gX2_fairestCuts_X2_wardsWon rfl rfl rfl hV_X2_wardsWon ⟨Nat.le_of_ble_eq_true rfl, Nat.le_of_ble_eq_true rfl⟩) (PR.preV hG hP (ci := 2) rfl rfl) rfl rfl hl.1 rfl (lv_room (Nat.le_of_ble_eq_true rfl)) dX2_fairestCuts_57 ⟨Nat.le_refl _, Nat.le_refl _⟩) ?_
            refine lv_istore_n (lv' := [(3, .int (nI (winX n fo ki st we lo (2 * 2 ^ (n - 1) - 1 - i)))), (2, .int (nI (2 * 2 ^ (n - 1) - 1 - i))), (5, .int (nI (2 * 2 ^ (n - 1) - 1 - i))), (4, .int (nI (2 ^ (n - 1)))), (0, .ref (ad 0)), (1, .int (nI nn))]) hx hb dX2_fairestCuts_60 rfl hl (by decide) rfl (fun ls hl => ?_)
            refine lv_iinc (v := nI ((2 * 2 ^ (n - 1) - 1 - i) - 1)) (lv' := [(5, .int (nI ((2 * 2 ^ (n - 1) - 1 - i) - 1))), (3, .int (nI (winX n fo ki st we lo (2 * 2 ^ (n - 1) - 1 - i)))), (2, .int (nI (2 * 2 ^ (n - 1) - 1 - i))), (4, .int (nI (2 ^ (n - 1)))), (0, .ref (ad 0)), (1, .int (nI nn))]) hx hb dX2_fairestCuts_61 hl (k := 2) rfl (xdecN (by omega)) (by decide) rfl (fun ls hl => ?_)
            refine lv_goto (tgt := 25) hx hb dX2_fairestCuts_64 (by decide) ?_
            exact ih (i + 1) (nI ((2 * 2 ^ (n - 1) - 1 - i) - 1)) (nI (winX n fo ki st we lo (2 * 2 ^ (n - 1) - 1 - i))) (nI (2 * 2 ^ (n - 1) - 1 - i)) (by rw [Nat.sub_sub (2 * 2 ^ (n - 1) - 1) i 1]) (by rw [fc_y (winX_lt hwe hn) c_38 c_48]; rfl) (by rw [fc_y (winX_lt hwe hn) c_38 c_48]; rfl) (by omega) (by omega) ls (lv_sub hl [0, 3, 1, 2, 4, 5] rfl)
  exact K25 _ 0 (nI (2 * (2 ^ (n - 1)) - 1)) (-1) (nI 0) (by first | rfl | exact Nat.zero_le _) (by first | rfl | exact Nat.zero_le _) (by first | rfl | exact Nat.zero_le _) (by first | rfl | exact Nat.zero_le _) (Nat.lt_succ_self _) ls (lv_sub hl [0, 1, 2, 3, 4, 5] rfl)

set_option maxHeartbeats 4000000 in
set_option maxRecDepth 100000 in
theorem c_X2_wards (l : Launch) (D : va_G) (cI cS : ClassId) (ad : Nat → Nat) (sh : Nat → Bool) (sla : Nat → Nat) (sle : Nat → Nat) (sf : Nat → Nat → Int32) (n : Nat) (fo : Nat) (ki : Nat → Nat) (st : Nat → Nat) (we : Nat → Nat) (lo : Nat → Nat) (n2 : Nat) (go : Nat) (kj : Nat → Nat) (sj : Nat → Nat) (wj : Nat → Nat) (lj : Nat → Nat) (ti : Nat → Int32) (rc : Nat → Nat) (rv : Nat → Nat) (rd : Nat) (tr : Int32) (fa : Nat) (k : Int32) (v : Int32) (hnd : nd (adX ad)) (hn : n ≤ 8) (hfo : fo < 256) (hki : ∀ j, ki j ≤ 2) (hwe : ∀ j, we j ≤ 9) (hst : ∀ j, st j ≤ 3) (hlo : ∀ j, lo j ≤ 3) : Met l yX2_wards wsX2_wards ({ frames := 4, cells := 0, slots := 0, locals := 92 }) (PR D cI cS [.ref (ad 0), .int k, .int v] (wX cI cS ad sh sla sle sf n fo ki st we lo n2 go kj sj wj lj ti rc rv rd tr fa)) (va_Qi (fun r (zz : (Nat → Int32)) => r = A_wards n fo ki st we lo k v) (fun (zz : (Nat → Int32)) t => va_P D vwCl (wX cI cS ad sh sla sle sf n fo ki st we lo n2 go kj sj wj lj zz rc rv rd tr fa) t.heap) (AW (adX ad))) 0 0 (AW (adX ad)) := by
  refine startM (by decide) rfl (Nat.le_of_ble_eq_true rfl) hnd rfl ?_
  intro p e s m below meth c hx hb hr hts hown hlk hml hG hP hD hS ls hl
  have hl : lv_has ls 4 [(0, .ref (ad 0)), (1, .int k), (2, .int v)] := hl
  have f20 := hts (.fieldLink RX2 20 "ChairBallot" "now" "LChairBallot$Row;") (by decide +kernel)
  have f75 := hts (.fieldLink RX2 75 "ChairBallot$Row" "count" "I") (by decide +kernel)
  have f27 := hts (.fieldLink RX2 27 "ChairBallot" "tilts" "[I") (by decide +kernel)
  have yX0 : ∀ w ∈ u_ws RX0 TX0 6, w.before _ s = true := fun w h => hts w ((by decide +kernel : ∀ w ∈ wsX00, w ∈ wsX2_wards) w h)
  have yX2 : ∀ w ∈ u_ws RX2 TX2 9, w.before _ s = true := fun w h => hts w ((by decide +kernel : ∀ w ∈ wsX20, w ∈ wsX2_wards) w h)
  have hF : CallFix p m c cX2_wards 4 s _ wsX2_wards RX2 := ⟨hx, hb, hml, hown, hts⟩
  refine lv_aload_n hx hb dX2_wards_0 rfl (lv_at hl 0 rfl) ?_
  refine xrd (va_runV (As := []) (rest := []) hF (c_X2_hasFront l D cI cS ad sh sla sle sf n fo ki st we lo n2 go kj sj wj lj ti rc rv rd tr fa (by first | assumption | omega)) (cwV 0 hts gX2_wards_X2_hasFront rfl rfl rfl hV_X2_hasFront ⟨Nat.le_of_ble_eq_true rfl, Nat.le_of_ble_eq_true rfl⟩) (PR.preV hG hP (ci := 2) rfl rfl) rfl rfl hl.1 rfl (lv_room (Nat.le_of_ble_eq_true rfl)) dX2_wards_1 ⟨Nat.le_refl _, Nat.le_refl _⟩) ?_
  refine lv_if_ne (tgt := 10) hx hb dX2_wards_4 (by decide) (fun c_4 => ?_) (fun c_4 => ?_)
  ·
    replace c_4 := bI_n0.mp c_4
    replace c_4 := of_decide_eq_true c_4
    have hn0 : ¬ n = 0 := by omega
    refine lv_iload_n hx hb dX2_wards_10 rfl (lv_at hl 1 rfl) ?_
    refine lv_iconst (v := nI 1) hx hb dX2_wards_11 (by decide) ?_
    refine lv_icmp_lt (tgt := 32) hx hb dX2_wards_12 (by decide) (fun c_12 => ?_) (fun c_12 => ?_)
    ·
      replace c_12 : k.toInt < 1 := (i32_ltc (b := 1) (by omega)).mp c_12
      have hzk : rgB 1 8 k = false := by first | exact rgB_n1 (by omega) | exact rgB_n2 (by omega)
      refine lv_bipush (v := (-2)) hx hb dX2_wards_32 (by decide) ?_
      exact xretM hx hb hr hlk dX2_wards_34 hS ti (by simp [A_wards, c_4, hn0, c_12, hzk]) (fun t ht => by rw [ht]; exact hP)
    ·
      replace c_12 : ¬ k.toInt < 1 := (not_congr (i32_ltc (b := 1) (by omega))).mp c_12
      refine lv_iload_n hx hb dX2_wards_15 rfl (lv_at hl 1 rfl) ?_
      refine lv_bipush (v := nI 8) hx hb dX2_wards_16 (by decide) ?_
      refine lv_icmp_gt (tgt := 32) hx hb dX2_wards_18 (by decide) (fun c_18 => ?_) (fun c_18 => ?_)
      ·
        replace c_18 : 8 < k.toInt := (i32_gtc (b := 8) (by omega)).mp c_18
        have hzk : rgB 1 8 k = false := by first | exact rgB_n1 (by omega) | exact rgB_n2 (by omega)
        refine lv_bipush (v := (-2)) hx hb dX2_wards_32 (by decide) ?_
        exact xretM hx hb hr hlk dX2_wards_34 hS ti (by simp [A_wards, c_4, hn0, c_12, c_18, hzk]) (fun t ht => by rw [ht]; exact hP)
      ·
        replace c_18 : ¬ 8 < k.toInt := (not_congr (i32_gtc (b := 8) (by omega))).mp c_18
        refine lv_iload_n hx hb dX2_wards_21 rfl (lv_at hl 2 rfl) ?_
        refine lv_iconst (v := (-1)) hx hb dX2_wards_22 (by decide) ?_
        refine lv_icmp_lt (tgt := 32) hx hb dX2_wards_23 (by decide) (fun c_23 => ?_) (fun c_23 => ?_)
        ·
          replace c_23 : v.toInt < (-1) := (i32_lt).mp c_23
          have hzk : rgB (-1) 7 v = false := by first | exact rgB_n1 (by omega) | exact rgB_n2 (by omega)
          refine lv_bipush (v := (-2)) hx hb dX2_wards_32 (by decide) ?_
          exact xretM hx hb hr hlk dX2_wards_34 hS ti (by simp [A_wards, c_4, hn0, c_12, c_18, c_23, hzk]) (fun t ht => by rw [ht]; exact hP)
        ·
          replace c_23 : ¬ v.toInt < (-1) := (not_congr (i32_lt)).mp c_23
          refine lv_iload_n hx hb dX2_wards_26 rfl (lv_at hl 2 rfl) ?_
          refine lv_bipush (v := nI 8) hx hb dX2_wards_27 (by decide) ?_
          refine lv_icmp_lt (tgt := 35) hx hb dX2_wards_29 (by decide) (fun c_29 => ?_) (fun c_29 => ?_)
          ·
            replace c_29 : v.toInt < 8 := (i32_ltc (b := 8) (by omega)).mp c_29
            have hzv : rgB (-1) 7 v = true := rgB_y (by omega) (by omega)
            have hzk : rgB 1 8 k = true := rgB_y (by omega) (by omega)
            obtain ⟨nn, hnn1, hnn2, rfl⟩ := rgB_nat (by decide) hzk
            have hcl := cl8 (j := nn) (by omega)
            refine lv_iload_n hx hb dX2_wards_35 rfl (lv_at hl 1 rfl) ?_
            refine lv_aload_n hx hb dX2_wards_36 rfl (lv_at hl 0 rfl) ?_
            refine va_get (D := D) (ci := 2) (v := .ref (ad 10)) (C := RX2) (T := TX2) (N := 9) hx hb yX2 (fun _ h => h) hown hG.1 hP 0 rfl rfl 1 (by decide) f20 (fun _ h => h) rfl dX2_wards_37 ?_
            refine va_get (D := D) (ci := 0) (v := .int (nI n)) (C := RX0) (T := TX0) (N := 6) hx hb yX0 (fun _ h => h) hown hG.1 hP 10 rfl rfl 4 (by decide) f75 (fun _ h => h) rfl dX2_wards_40 ?_
            refine lv_icmp_gt (tgt := 51) hx hb dX2_wards_43 (by decide) (fun c_43 => ?_) (fun c_43 => ?_)
            ·
              replace c_43 := (nI_ltI (a := n) (b := nn) (by omega) (by omega)).mp c_43
              refine lv_bipush (v := (-9)) hx hb dX2_wards_51 (by decide) ?_
              exact xretM hx hb hr hlk dX2_wards_53 hS ti (by simp [A_wards, c_4, hn0, c_12, c_18, c_23, c_29, hzv, hzk, hcl, c_43]) (fun t ht => by rw [ht]; exact hP)
            ·
              replace c_43 := (not_congr (nI_ltI (a := n) (b := nn) (by omega) (by omega))).mp c_43
              refine lv_iload_n hx hb dX2_wards_46 rfl (lv_at hl 2 rfl) ?_
              refine lv_iload_n hx hb dX2_wards_47 rfl (lv_at hl 1 rfl) ?_
              refine lv_icmp_lt (tgt := 54) hx hb dX2_wards_48 (by decide) (fun c_48 => ?_) (fun c_48 => ?_)
              ·
                replace c_48 : v.toInt < ((nn : Nat) : Int) := (i32_ltc (b := nn) (by omega)).mp c_48
                have hk1 : ¬ (nn : Int) ≤ v.toInt := by omega
                refine lv_iconst (v := nI 0) hx hb dX2_wards_54 (by decide) ?_
                refine lv_istore_n (lv' := [(3, .int (nI 0)), (0, .ref (ad 0)), (1, .int (nI nn)), (2, .int v)]) hx hb dX2_wards_55 rfl hl (by decide) rfl (fun ls hl => ?_)
                have K56 : ∀ (fuel : Nat) (i : Nat) (g : Nat → Int32), g = tilF i (tiN n fo ki st we lo) ti → (i ≤ n) → (n - i) < fuel → ∀ (H : Heap) (locs : List Loc), va_P D vwCl (wX cI cS ad sh sla sle sf n fo ki st we lo n2 go kj sj wj lj g rc rv rd tr fa) H → va_D (AW (adX ad)) (wX cI cS ad sh sla sle sf n fo ki st we lo n2 go kj sj wj lj g rc rv rd tr fa) → va_S (AW (adX ad)) s.heap H locs → ∀ ls : Array Slot, lv_has ls 4 [(3, .int (nI i)), (0, .ref (ad 0)), (1, .int (nI nn)), (2, .int v)] → W p l e ({ frames := 4, cells := 0, slots := 0, locals := 92 }) s m (([.ref (ad 0), .int (nI nn), .int v] : List Value).toArray) below meth c H locs 0 0 (MQ below (va_Qi (fun r (zz : (Nat → Int32)) => r = A_wards n fo ki st we lo (nI nn) v) (fun (zz : (Nat → Int32)) t => va_P D vwCl (wX cI cS ad sh sla sle sf n fo ki st we lo n2 go kj sj wj lj zz rc rv rd tr fa) t.heap) (AW (adX ad))) (([.ref (ad 0), .int (nI nn), .int v] : List Value).toArray) s 0 0 (AW (adX ad))) (F0 m 56 ls []) := by
                  intro fuel
                  induction fuel with
                  | zero => intro i g e_g hi hmu; exact absurd hmu (Nat.not_lt_zero _)
                  | succ fuel ih =>
                    intro i g e_g hi hmu H locs hP hD hS ls hl
                    subst e_g
                    refine lv_iload_n hx hb dX2_wards_56 rfl (lv_at hl 0 rfl) ?_
                    refine lv_aload_n hx hb dX2_wards_57 rfl (lv_at hl 1 rfl) ?_
                    refine va_get (D := D) (ci := 2) (v := .ref (ad 10)) (C := RX2) (T := TX2) (N := 9) hx hb yX2 (fun _ h => h) hown hG.1 hP 0 rfl rfl 1 (by decide) f20 (fun _ h => h) rfl dX2_wards_58 ?_
                    refine va_get (D := D) (ci := 0) (v := .int (nI n)) (C := RX0) (T := TX0) (N := 6) hx hb yX0 (fun _ h => h) hown hG.1 hP 10 rfl rfl 4 (by decide) f75 (fun _ h => h) rfl dX2_wards_61 ?_
                    refine lv_icmp_ge (tgt := 87) hx hb dX2_wards_64 (by decide) (fun c_64 => ?_) (fun c_64 => ?_)
                    ·
                      replace c_64 := (nI_leI (a := n) (b := i) (by omega) (by omega)).mp c_64
                      have hin : n = i := by omega
                      subst hin
                      refine lv_aload_n hx hb dX2_wards_87 rfl (lv_at hl 1 rfl) ?_
                      refine lv_iload_n hx hb dX2_wards_88 rfl (lv_at hl 2 rfl) ?_
                      refine xrd (va_runV (As := [.int (nI nn)]) (rest := []) hF (c_X2_fairestCuts l D cI cS ad sh sla sle sf n fo ki st we lo n2 go kj sj wj lj (tilF n (tiN n fo ki st we lo) ti) rc rv rd tr fa nn (by first | assumption | omega) (by first | assumption | omega) (by first | assumption | omega) (by first | assumption | omega) (by first | assumption | omega) (by first | assumption | omega) (by exact tilF_at) (by first | assumption | omega) (by first | assumption | omega)) (cwV 1 hts gX2_wards_X2_fairestCuts rfl rfl rfl hV_X2_fairestCuts ⟨Nat.le_of_ble_eq_true rfl, Nat.le_of_ble_eq_true rfl⟩) (PR.preV hG hP (ci := 2) rfl rfl) rfl rfl hl.1 rfl (lv_room (Nat.le_of_ble_eq_true rfl)) dX2_wards_89 ⟨Nat.le_refl _, Nat.le_refl _⟩) ?_
                      refine lv_istore_n (lv' := [(3, .int (nI (bestX n fo ki st we lo nn))), (0, .ref (ad 0)), (1, .int (nI nn)), (2, .int v)]) hx hb dX2_wards_92 rfl hl (by decide) rfl (fun ls hl => ?_)
                      refine lv_iload_n hx hb dX2_wards_93 rfl (lv_at hl 3 rfl) ?_
                      refine lv_if_ge (tgt := 105) hx hb dX2_wards_94 (by decide) (fun c_94 => ?_) (fun c_94 => ?_)
                      ·
                        replace c_94 : 0 ≤ v.toInt := (i32_gec (b := 0) (by omega)).mp c_94
                        have hv0 : ¬ v.toInt < 0 := by omega
                        obtain ⟨w, hw7, rfl⟩ : ∃ w : Nat, w < 8 ∧ v = nI w := ⟨v.toInt.toNat, by have h9 := of_decide_eq_true hzv; omega, nI_ofT (by omega)⟩
                        have hclw := cl8 (j := w) (by omega)
                        refine lv_aload_n hx hb dX2_wards_105 rfl (lv_at hl 1 rfl) ?_
                        refine lv_iload_n hx hb dX2_wards_106 rfl (lv_at hl 0 rfl) ?_
                        refine lv_iload_n hx hb dX2_wards_107 rfl (lv_at hl 3 rfl) ?_
                        refine xrd (va_runV (As := [.int (nI (bestX n fo ki st we lo nn)), .int (nI w)]) (rest := []) hF (c_X2_firstOfWard l D cI cS ad sh sla sle sf n fo ki st we lo n2 go kj sj wj lj (tilF n (tiN n fo ki st we lo) ti) rc rv rd tr fa (bestX n fo ki st we lo nn) w (by first | assumption | omega) (by have h9 := fc_lt (W := winX n fo ki st we lo) (q := nn) (p := 2 ^ (n - 1)) (2 ^ (n - 1)); have h8 := pow_pred hn; unfold bestX; omega) (by first | assumption | omega)) (cwV 2 hts gX2_wards_X2_firstOfWard rfl rfl rfl hV_X2_firstOfWard ⟨Nat.le_of_ble_eq_true rfl, Nat.le_of_ble_eq_true rfl⟩) (PR.preV hG hP (ci := 2) rfl rfl) rfl rfl hl.1 rfl (lv_room (Nat.le_of_ble_eq_true rfl)) dX2_wards_108 ⟨Nat.le_refl _, Nat.le_refl _⟩) ?_
                        exact xretM hx hb hr hlk dX2_wards_111 hS (tilF n (tiN n fo ki st we lo) ti) (by simp [A_wards, c_4, hn0, c_12, c_18, c_23, c_29, hzv, hzk, hcl, c_43, c_48, hk1, c_64, c_94, hv0, hclw]) (fun t ht => by rw [ht]; exact hP)
                      ·
                        replace c_94 : ¬ 0 ≤ v.toInt := (not_congr (i32_gec (b := 0) (by omega))).mp c_94
                        have hv0 : v.toInt < 0 := by omega
                        refine lv_aload_n hx hb dX2_wards_97 rfl (lv_at hl 1 rfl) ?_
                        refine lv_iload_n hx hb dX2_wards_98 rfl (lv_at hl 0 rfl) ?_
                        refine xrd (va_runV (As := [.int (nI (bestX n fo ki st we lo nn))]) (rest := []) hF (c_X2_wardsWon l D cI cS ad sh sla sle sf n fo ki st we lo n2 go kj sj wj lj (tilF n (tiN n fo ki st we lo) ti) rc rv rd tr fa (bestX n fo ki st we lo nn) (by first | assumption | omega) (by first | assumption | omega) (by first | assumption | omega) (by first | assumption | omega) (by first | assumption | omega) (by first | assumption | omega) (by exact tilF_at) (by have h9 := fc_lt (W := winX n fo ki st we lo) (q := nn) (p := 2 ^ (n - 1)) (2 ^ (n - 1)); have h8 := pow_pred hn; unfold bestX; omega)) (cwV 1 hts gX2_wards_X2_wardsWon rfl rfl rfl hV_X2_wardsWon ⟨Nat.le_of_ble_eq_true rfl, Nat.le_of_ble_eq_true rfl⟩) (PR.preV hG hP (ci := 2) rfl rfl) rfl rfl hl.1 rfl (lv_room (Nat.le_of_ble_eq_true rfl)) dX2_wards_99 ⟨Nat.le_refl _, Nat.le_refl _⟩) ?_
                        refine lv_goto (tgt := 111) hx hb dX2_wards_102 (by decide) ?_
                        exact xretM hx hb hr hlk dX2_wards_111 hS (tilF n (tiN n fo ki st we lo) ti) (by simp [A_wards, c_4, hn0, c_12, c_18, c_23, c_29, hzv, hzk, hcl, c_43, c_48, hk1, c_64, c_94, hv0]) (fun t ht => by rw [ht]; exact hP)
                    ·
                      replace c_64 := (not_congr (nI_leI (a := n) (b := i) (by omega) (by omega))).mp c_64
                      refine lv_aload_n hx hb dX2_wards_67 rfl (lv_at hl 1 rfl) ?_
                      refine va_get (D := D) (ci := 2) (v := .ref (ad 20)) (C := RX2) (T := TX2) (N := 9) hx hb yX2 (fun _ h => h) hown hG.1 hP 0 rfl rfl 3 (by decide) f27 (fun _ h => h) rfl dX2_wards_68 ?_
                      refine lv_iload_n hx hb dX2_wards_71 rfl (lv_at hl 0 rfl) ?_
                      refine lv_aload_n hx hb dX2_wards_72 rfl (lv_at hl 1 rfl) ?_
                      refine va_get (D := D) (ci := 2) (v := .ref (ad 10)) (C := RX2) (T := TX2) (N := 9) hx hb yX2 (fun _ h => h) hown hG.1 hP 0 rfl rfl 1 (by decide) f20 (fun _ h => h) rfl dX2_wards_73 ?_
                      refine lv_iload_n hx hb dX2_wards_76 rfl (lv_at hl 0 rfl) ?_
                      refine xrd (va_runV (As := [.int (nI i)]) (rest := [.int (nI i), .ref (ad 20)]) hF (c_X0_tilt l D cI cS (ad 10) (ad 11) (ad 12) (ad 13) (ad 14) n fo ki st we lo i (by first | assumption | omega) (by first | assumption | omega) (by first | assumption | omega) (by first | assumption | omega) (by first | assumption | omega) (by first | assumption | omega) (by first | assumption | omega)) (cwV 1 hts gX2_wards_X0_tilt rfl rfl rfl hV_X0_tilt ⟨Nat.le_of_ble_eq_true rfl, Nat.le_of_ble_eq_true rfl⟩) (PR.preV hG (hP.sub (ws' := (wRow cI (ad 10) (ad 11) (ad 12) (ad 13) (ad 14) n fo ki st we lo)) [10, 11, 12, 13, 14] rfl) (ci := 0) rfl rfl) rfl rfl hl.1 rfl (lv_room (Nat.le_of_ble_eq_true rfl)) dX2_wards_77 ⟨Nat.le_refl _, Nat.le_refl _⟩) ?_
                      refine xast hx hb hG hP hD hS 20 rfl (i) rfl (by omega) (by decide) dX2_wards_80 (fun H locs hP hD hS => ?_)
                      have hP : va_P D vwCl (wX cI cS ad sh sla sle sf n fo ki st we lo n2 go kj sj wj lj (upd (tilF i (tiN n fo ki st we lo) ti) i (zI (tiN n fo ki st we lo i))) rc rv rd tr fa) H := hP
                      have hD : va_D (AW (adX ad)) (wX cI cS ad sh sla sle sf n fo ki st we lo n2 go kj sj wj lj (upd (tilF i (tiN n fo ki st we lo) ti) i (zI (tiN n fo ki st we lo i))) rc rv rd tr fa) := hD
                      refine lv_iinc (v := nI (i + 1)) (lv' := [(3, .int (nI (i + 1))), (0, .ref (ad 0)), (1, .int (nI nn)), (2, .int v)]) hx hb dX2_wards_81 hl (k := 0) rfl xinc1 (by decide) rfl (fun ls hl => ?_)
                      refine lv_goto (tgt := 56) hx hb dX2_wards_84 (by decide) ?_
                      exact ih (i + 1) (upd (tilF i (tiN n fo ki st we lo) ti) i (zI (tiN n fo ki st we lo i))) (by exact tilF_s) (by omega) (by omega) _ _ hP hD hS ls (lv_sub hl [0, 1, 2, 3] rfl)
                exact K56 _ 0 ti (by first | exact tilF_0.symm | omega) (by first | exact tilF_0.symm | omega) (Nat.lt_succ_self _) _ _ hP hD hS ls (lv_sub hl [0, 1, 2, 3] rfl)
              ·
                replace c_48 : ¬ v.toInt < ((nn : Nat) : Int) := (not_congr (i32_ltc (b := nn) (by omega))).mp c_48
                have hk1 : (nn : Int) ≤ v.toInt := by omega
                refine lv_bipush (v := (-9)) hx hb dX2_wards_51 (by decide) ?_
                exact xretM hx hb hr hlk dX2_wards_53 hS ti (by simp [A_wards, c_4, hn0, c_12, c_18, c_23, c_29, hzv, hzk, hcl, c_43, c_48, hk1]) (fun t ht => by rw [ht]; exact hP)
          ·
            replace c_29 : ¬ v.toInt < 8 := (not_congr (i32_ltc (b := 8) (by omega))).mp c_29
            have hzk : rgB (-1) 7 v = false := by first | exact rgB_n1 (by omega) | exact rgB_n2 (by omega)
            refine lv_bipush (v := (-2)) hx hb dX2_wards_32 (by decide) ?_
            exact xretM hx hb hr hlk dX2_wards_34 hS ti (by simp [A_wards, c_4, hn0, c_12, c_18, c_23, c_29, hzk]) (fun t ht => by rw [ht]; exact hP)
  ·
    replace c_4 := bI_0.mp c_4
    replace c_4 := of_decide_eq_false c_4
    have hn0 : n = 0 := by omega
    refine lv_bipush (v := (-3)) hx hb dX2_wards_7 (by decide) ?_
    exact xretM hx hb hr hlk dX2_wards_9 hS ti (by simp [A_wards, c_4, hn0]) (fun t ht => by rw [ht]; exact hP)
