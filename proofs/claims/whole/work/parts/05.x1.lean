theorem hV_X1_cut : yX1_cut.cls = RX1 ∧ yX1_cut.cls ≠ "java/lang/invoke/MethodHandle" ∧ yX1_cut.cls ≠ "java/lang/invoke/VarHandle" ∧ (parseMethodDescriptor yX1_cut.desc).map (fun d => d.parameters.length) = some 1 := by decide +kernel
theorem hV_X1_holds : yX1_holds.cls = RX1 ∧ yX1_holds.cls ≠ "java/lang/invoke/MethodHandle" ∧ yX1_holds.cls ≠ "java/lang/invoke/VarHandle" ∧ (parseMethodDescriptor yX1_holds.desc).map (fun d => d.parameters.length) = some 2 := by decide +kernel
set_option maxHeartbeats 4000000 in
set_option maxRecDepth 100000 in
theorem c_X1_faultAs (l : Launch) (D : va_G) (cI cS : ClassId) (q : Nat) (a : Nat) (h : Bool) (la : Nat) (le : Nat) (f : Nat → Int32) (w : Nat) (hla : la ≤ 2) (hw : w ≤ 2) : Met l yX1_faultAs wsX1_faultAs ({ frames := 0, cells := 0, slots := 0, locals := 0 }) (PR D cI cS [.ref q, .int (nI w)] (wSheet cI q a h la le f)) (vp_Si (fun r => r = nI (fltN h la w))) 0 0 (fun _ => False) := by
  refine startR (by decide) rfl (Nat.le_of_ble_eq_true rfl) ?_
  intro p e s m below meth c hx hb hr hts hown hlk hml hG hP ls hl
  have hl : lv_has ls 2 [(0, .ref q), (1, .int (nI w))] := hl
  have f15 := hts (.fieldLink RX1 15 "ChairBallot$Sheet" "hasRow" "Z") (by decide +kernel)
  have f19 := hts (.fieldLink RX1 19 "ChairBallot$Sheet" "lane" "I") (by decide +kernel)
  have yX1 : ∀ w ∈ u_ws RX1 TX1 4, w.before _ s = true := fun w h => hts w ((by decide +kernel : ∀ w ∈ wsX10, w ∈ wsX1_faultAs) w h)
  have hF : CallFix p m c cX1_faultAs 2 s _ wsX1_faultAs RX1 := ⟨hx, hb, hml, hown, hts⟩
  refine lv_aload_n hx hb dX1_faultAs_0 rfl (lv_at hl 0 rfl) ?_
  refine va_get (D := D) (ci := 1) (v := .int (bI h)) (C := RX1) (T := TX1) (N := 4) hx hb yX1 (fun _ h => h) hown hG.1 hP 0 rfl rfl 1 (by decide) f15 (fun _ h => h) rfl dX1_faultAs_1 ?_
  refine lv_if_ne (tgt := 9) hx hb dX1_faultAs_4 (by decide) (fun c_4 => ?_) (fun c_4 => ?_)
  ·
    replace c_4 := bI_n0.mp c_4
    refine lv_aload_n hx hb dX1_faultAs_9 rfl (lv_at hl 0 rfl) ?_
    refine va_get (D := D) (ci := 1) (v := .int (nI la)) (C := RX1) (T := TX1) (N := 4) hx hb yX1 (fun _ h => h) hown hG.1 hP 0 rfl rfl 2 (by decide) f19 (fun _ h => h) rfl dX1_faultAs_10 ?_
    refine lv_iload_n hx hb dX1_faultAs_13 rfl (lv_at hl 1 rfl) ?_
    refine lv_icmp_ne (tgt := 21) hx hb dX1_faultAs_14 (by decide) (fun c_14 => ?_) (fun c_14 => ?_)
    ·
      replace c_14 := (not_congr (nI_eq (a := la) (b := w) (by omega) (by omega))).mp c_14
      refine lv_iconst (v := nI 2) hx hb dX1_faultAs_21 (by decide) ?_
      exact xretR hx hb hr hlk dX1_faultAs_22 (by simp [fltN, c_4, c_14])
    ·
      replace c_14 := (nI_eq (a := la) (b := w) (by omega) (by omega)).mp c_14
      refine lv_iconst (v := nI 0) hx hb dX1_faultAs_17 (by decide) ?_
      refine lv_goto (tgt := 22) hx hb dX1_faultAs_18 (by decide) ?_
      exact xretR hx hb hr hlk dX1_faultAs_22 (by simp [fltN, c_4, c_14])
  ·
    replace c_4 := bI_0.mp c_4
    refine lv_iconst (v := nI 1) hx hb dX1_faultAs_7 (by decide) ?_
    exact xretR hx hb hr hlk dX1_faultAs_8 (by simp [fltN, c_4])

set_option maxHeartbeats 4000000 in
set_option maxRecDepth 100000 in
theorem c_X1_holds (l : Launch) (D : va_G) (cI cS : ClassId) (q : Nat) (a : Nat) (h : Bool) (la : Nat) (le : Nat) (f : Nat → Int32) (i : Int32) (k : Int32) (hle : le ≤ 60) : Met l yX1_holds wsX1_holds ({ frames := 0, cells := 0, slots := 0, locals := 0 }) (PR D cI cS [.ref q, .int i, .int k] (wSheet cI q a h la le f)) (vp_Si (fun r => r = bI (hldB le i k))) 0 0 (fun _ => False) := by
  refine startR (by decide) rfl (Nat.le_of_ble_eq_true rfl) ?_
  intro p e s m below meth c hx hb hr hts hown hlk hml hG hP ls hl
  have hl : lv_has ls 3 [(0, .ref q), (1, .int i), (2, .int k)] := hl
  have f23 := hts (.fieldLink RX1 23 "ChairBallot$Sheet" "length" "I") (by decide +kernel)
  have yX1 : ∀ w ∈ u_ws RX1 TX1 4, w.before _ s = true := fun w h => hts w ((by decide +kernel : ∀ w ∈ wsX10, w ∈ wsX1_holds) w h)
  have hF : CallFix p m c cX1_holds 3 s _ wsX1_holds RX1 := ⟨hx, hb, hml, hown, hts⟩
  refine lv_iload_n hx hb dX1_holds_0 rfl (lv_at hl 1 rfl) ?_
  refine lv_if_lt (tgt := 30) hx hb dX1_holds_1 (by decide) (fun c_1 => ?_) (fun c_1 => ?_)
  ·
    refine lv_iconst (v := nI 0) hx hb dX1_holds_30 (by decide) ?_
    exact xretRz hx hb hr hlk dX1_holds_31 (false) rfl (by first | exact hldB_y hle c_1 c_9 c_13 c_23 | exact hldB_1 c_1 | exact hldB_2 hle c_9 | exact hldB_3 c_13 | exact hldB_4 hle c_1 c_9 c_23)
  ·
    refine lv_iload_n hx hb dX1_holds_4 rfl (lv_at hl 1 rfl) ?_
    refine lv_aload_n hx hb dX1_holds_5 rfl (lv_at hl 0 rfl) ?_
    refine va_get (D := D) (ci := 1) (v := .int (nI le)) (C := RX1) (T := TX1) (N := 4) hx hb yX1 (fun _ h => h) hown hG.1 hP 0 rfl rfl 3 (by decide) f23 (fun _ h => h) rfl dX1_holds_6 ?_
    refine lv_icmp_gt (tgt := 30) hx hb dX1_holds_9 (by decide) (fun c_9 => ?_) (fun c_9 => ?_)
    ·
      refine lv_iconst (v := nI 0) hx hb dX1_holds_30 (by decide) ?_
      exact xretRz hx hb hr hlk dX1_holds_31 (false) rfl (by first | exact hldB_y hle c_1 c_9 c_13 c_23 | exact hldB_1 c_1 | exact hldB_2 hle c_9 | exact hldB_3 c_13 | exact hldB_4 hle c_1 c_9 c_23)
    ·
      refine lv_iload_n hx hb dX1_holds_12 rfl (lv_at hl 2 rfl) ?_
      refine lv_if_lt (tgt := 30) hx hb dX1_holds_13 (by decide) (fun c_13 => ?_) (fun c_13 => ?_)
      ·
        refine lv_iconst (v := nI 0) hx hb dX1_holds_30 (by decide) ?_
        exact xretRz hx hb hr hlk dX1_holds_31 (false) rfl (by first | exact hldB_y hle c_1 c_9 c_13 c_23 | exact hldB_1 c_1 | exact hldB_2 hle c_9 | exact hldB_3 c_13 | exact hldB_4 hle c_1 c_9 c_23)
      ·
        refine lv_iload_n hx hb dX1_holds_16 rfl (lv_at hl 2 rfl) ?_
        refine lv_aload_n hx hb dX1_holds_17 rfl (lv_at hl 0 rfl) ?_
        refine va_get (D := D) (ci := 1) (v := .int (nI le)) (C := RX1) (T := TX1) (N := 4) hx hb yX1 (fun _ h => h) hown hG.1 hP 0 rfl rfl 3 (by decide) f23 (fun _ h => h) rfl dX1_holds_18 ?_
        refine lv_iload_n hx hb dX1_holds_21 rfl (lv_at hl 1 rfl) ?_
        refine lv_isub hx hb dX1_holds_22 ?_
        refine lv_icmp_gt (tgt := 30) hx hb dX1_holds_23 (by decide) (fun c_23 => ?_) (fun c_23 => ?_)
        ·
          refine lv_iconst (v := nI 0) hx hb dX1_holds_30 (by decide) ?_
          exact xretRz hx hb hr hlk dX1_holds_31 (false) rfl (by first | exact hldB_y hle c_1 c_9 c_13 c_23 | exact hldB_1 c_1 | exact hldB_2 hle c_9 | exact hldB_3 c_13 | exact hldB_4 hle c_1 c_9 c_23)
        ·
          refine lv_iconst (v := nI 1) hx hb dX1_holds_26 (by decide) ?_
          refine lv_goto (tgt := 31) hx hb dX1_holds_27 (by decide) ?_
          exact xretRz hx hb hr hlk dX1_holds_31 (true) rfl (by first | exact hldB_y hle c_1 c_9 c_13 c_23 | exact hldB_1 c_1 | exact hldB_2 hle c_9 | exact hldB_3 c_13 | exact hldB_4 hle c_1 c_9 c_23)

set_option maxHeartbeats 4000000 in
set_option maxRecDepth 100000 in
theorem c_X1_at (l : Launch) (D : va_G) (cI cS : ClassId) (q : Nat) (a : Nat) (h : Bool) (la : Nat) (le : Nat) (f : Nat → Int32) (i : Int32) (hle : le ≤ 60) : Met l yX1_at wsX1_at ({ frames := 1, cells := 0, slots := 0, locals := 22 }) (PR D cI cS [.ref q, .int i] (wSheet cI q a h la le f)) (vp_Si (fun r => r = atF le f i)) 0 0 (fun _ => False) := by
  refine startR (by decide) rfl (Nat.le_of_ble_eq_true rfl) ?_
  intro p e s m below meth c hx hb hr hts hown hlk hml hG hP ls hl
  have hl : lv_has ls 2 [(0, .ref q), (1, .int i)] := hl
  have f9 := hts (.fieldLink RX1 9 "ChairBallot$Sheet" "cells" "[I") (by decide +kernel)
  have yX1 : ∀ w ∈ u_ws RX1 TX1 4, w.before _ s = true := fun w h => hts w ((by decide +kernel : ∀ w ∈ wsX10, w ∈ wsX1_at) w h)
  have hF : CallFix p m c cX1_at 2 s _ wsX1_at RX1 := ⟨hx, hb, hml, hown, hts⟩
  refine lv_aload_n hx hb dX1_at_0 rfl (lv_at hl 0 rfl) ?_
  refine lv_iload_n hx hb dX1_at_1 rfl (lv_at hl 1 rfl) ?_
  refine lv_iconst (v := nI 1) hx hb dX1_at_2 (by decide) ?_
  refine xrd (va_runV (As := [.int i, .int (nI 1)]) (rest := []) hF (c_X1_holds l D cI cS q a h la le f i (nI 1) (by first | assumption | omega)) (cwV 2 hts gX1_at_X1_holds rfl rfl rfl hV_X1_holds ⟨Nat.le_of_ble_eq_true rfl, Nat.le_of_ble_eq_true rfl⟩) (PR.preV hG hP (ci := 1) rfl rfl) rfl rfl hl.1 rfl (lv_room (Nat.le_of_ble_eq_true rfl)) dX1_at_3 ⟨Nat.le_refl _, Nat.le_refl _⟩) ?_
  refine lv_if_eq (tgt := 18) hx hb dX1_at_6 (by decide) (fun c_6 => ?_) (fun c_6 => ?_)
  ·
    replace c_6 := bI_0.mp c_6
    refine lv_iconst (v := nI 0) hx hb dX1_at_18 (by decide) ?_
    exact xretR hx hb hr hlk dX1_at_19 (by first | exact (atF_y hj hle).symm | exact (atF_n c_6).symm)
  ·
    replace c_6 := bI_n0.mp c_6
    obtain ⟨j, hj, rfl⟩ := hldB_at c_6
    refine lv_aload_n hx hb dX1_at_9 rfl (lv_at hl 0 rfl) ?_
    refine va_get (D := D) (ci := 1) (v := .ref a) (C := RX1) (T := TX1) (N := 4) hx hb yX1 (fun _ h => h) hown hG.1 hP 0 rfl rfl 0 (by decide) f9 (fun _ h => h) rfl dX1_at_10 ?_
    refine lv_iload_n hx hb dX1_at_13 rfl (lv_at hl 1 rfl) ?_
    refine xald hx hb hG hP 1 rfl (j) rfl (by omega) (by decide) dX1_at_14 ?_
    refine lv_goto (tgt := 19) hx hb dX1_at_15 (by decide) ?_
    exact xretR hx hb hr hlk dX1_at_19 (by first | exact (atF_y hj hle).symm | exact (atF_n c_6).symm)

set_option maxHeartbeats 4000000 in
set_option maxRecDepth 100000 in
theorem c_X1_atN (l : Launch) (D : va_G) (cI cS : ClassId) (q : Nat) (a : Nat) (h : Bool) (la : Nat) (le : Nat) (f : Nat → Int32) (j : Nat) (hle : le ≤ 60) (hj : j < le) : Met l yX1_at wsX1_at ({ frames := 1, cells := 0, slots := 0, locals := 22 }) (PR D cI cS [.ref q, .int (nI j)] (wSheet cI q a h la le f)) (vp_Si (fun r => r = f j)) 0 0 (fun _ => False) := by
  have h1 := c_X1_at l D cI cS q a h la le f (nI j) hle
  rw [atF_y hj hle] at h1
  exact h1

set_option maxHeartbeats 4000000 in
set_option maxRecDepth 100000 in
theorem c_X1_cut (l : Launch) (D : va_G) (cI cS : ClassId) (q : Nat) (a : Nat) (h : Bool) (la : Nat) (le : Nat) (f : Nat → Int32) (v : Int32) (hla : la ≤ 2) : Met l yX1_cut wsX1_cut ({ frames := 0, cells := 0, slots := 0, locals := 0 }) (PR D cI cS [.ref q, .int v] (wSheet cI q a h la le f)) (vp_Si (fun r => r = cutF la v)) 0 0 (fun _ => False) := by
  refine startR (by decide) rfl (Nat.le_of_ble_eq_true rfl) ?_
  intro p e s m below meth c hx hb hr hts hown hlk hml hG hP ls hl
  have hl : lv_has ls 2 [(0, .ref q), (1, .int v)] := hl
  have f19 := hts (.fieldLink RX1 19 "ChairBallot$Sheet" "lane" "I") (by decide +kernel)
  have yX1 : ∀ w ∈ u_ws RX1 TX1 4, w.before _ s = true := fun w h => hts w ((by decide +kernel : ∀ w ∈ wsX10, w ∈ wsX1_cut) w h)
  have hF : CallFix p m c cX1_cut 2 s _ wsX1_cut RX1 := ⟨hx, hb, hml, hown, hts⟩
  refine lv_aload_n hx hb dX1_cut_0 rfl (lv_at hl 0 rfl) ?_
  refine va_get (D := D) (ci := 1) (v := .int (nI la)) (C := RX1) (T := TX1) (N := 4) hx hb yX1 (fun _ h => h) hown hG.1 hP 0 rfl rfl 2 (by decide) f19 (fun _ h => h) rfl dX1_cut_1 ?_
  by_cases c_4_0 : la = 0
  ·
    refine lv_lookup (off := 28) (tgt := 32) hx hb dX1_cut_4 (by decide) (by rw [c_4_0]; decide) (by decide) ?_
    refine lv_iload_n hx hb dX1_cut_32 rfl (lv_at hl 1 rfl) ?_
    refine lv_i2b (v := v.toInt8.toInt32) hx hb dX1_cut_33 rfl ?_
    exact xretR hx hb hr hlk dX1_cut_34 (by simp [cutF, c_4_0])
  by_cases c_4_1 : la = 1
  ·
    refine lv_lookup (off := 31) (tgt := 35) hx hb dX1_cut_4 (by decide) (by rw [c_4_1]; decide) (by decide) ?_
    refine lv_iload_n hx hb dX1_cut_35 rfl (lv_at hl 1 rfl) ?_
    refine lv_i2s (v := v.toInt16.toInt32) hx hb dX1_cut_36 rfl ?_
    exact xretR hx hb hr hlk dX1_cut_37 (by simp [cutF, c_4_1])
  refine lv_lookup (off := 34) (tgt := 38) hx hb dX1_cut_4 (by decide) (by rw [nI_toInt (by omega)]; simp only [Op.lookupswitch.offset_cons, Op.lookupswitch.offset_nil]; rw [if_neg (by omega)]; rw [if_neg (by omega)]) (by decide) ?_
  refine lv_iload_n hx hb dX1_cut_38 rfl (lv_at hl 1 rfl) ?_
  exact xretR hx hb hr hlk dX1_cut_39 (by simp [cutF, c_4_0, c_4_1])

set_option maxHeartbeats 4000000 in
set_option maxRecDepth 100000 in
theorem c_X1_becomesAt (l : Launch) (D : va_G) (cI cS : ClassId) (q : Nat) (a : Nat) (h : Bool) (la : Nat) (le : Nat) (f : Nat → Int32) (j : Nat) (v : Int32) (hnd : nd [q, a]) (hle : le ≤ 60) (hla : la ≤ 2) (hj : j < le) : Met l yX1_becomesAt wsX1_becomesAt ({ frames := 1, cells := 0, slots := 0, locals := 22 }) (PR D cI cS [.ref q, .int (nI j), .int v] (wSheet cI q a h la le f)) (va_Qv (fun (zz : Unit) => True) (fun (zz : Unit) t => va_P D vwCl (wSheet cI q a h la le (upd f j (cutF la v))) t.heap) (AW [q, a])) 0 0 (AW [q, a]) := by
  refine startM (by decide) rfl (Nat.le_of_ble_eq_true rfl) hnd rfl ?_
  intro p e s m below meth c hx hb hr hts hown hlk hml hG hP hD hS ls hl
  have hl : lv_has ls 3 [(0, .ref q), (1, .int (nI j)), (2, .int v)] := hl
  have f9 := hts (.fieldLink RX1 9 "ChairBallot$Sheet" "cells" "[I") (by decide +kernel)
  have yX1 : ∀ w ∈ u_ws RX1 TX1 4, w.before _ s = true := fun w h => hts w ((by decide +kernel : ∀ w ∈ wsX10, w ∈ wsX1_becomesAt) w h)
  have hF : CallFix p m c cX1_becomesAt 3 s _ wsX1_becomesAt RX1 := ⟨hx, hb, hml, hown, hts⟩
  refine lv_aload_n hx hb dX1_becomesAt_0 rfl (lv_at hl 0 rfl) ?_
  refine lv_iload_n hx hb dX1_becomesAt_1 rfl (lv_at hl 1 rfl) ?_
  refine lv_iconst (v := nI 1) hx hb dX1_becomesAt_2 (by decide) ?_
  refine xrd (va_runV (As := [.int (nI j), .int (nI 1)]) (rest := []) hF (c_X1_holds l D cI cS q a h la le f (nI j) (nI 1) (by first | assumption | omega)) (cwV 2 hts gX1_becomesAt_X1_holds rfl rfl rfl hV_X1_holds ⟨Nat.le_of_ble_eq_true rfl, Nat.le_of_ble_eq_true rfl⟩) (PR.preV hG hP (ci := 1) rfl rfl) rfl rfl hl.1 rfl (lv_room (Nat.le_of_ble_eq_true rfl)) dX1_becomesAt_3 ⟨Nat.le_refl _, Nat.le_refl _⟩) ?_
  refine lv_if_eq (tgt := 20) hx hb dX1_becomesAt_6 (by decide) (fun c_6 => ?_) (fun c_6 => ?_)
  ·
    replace c_6 := bI_0.mp c_6
    exact absurd (hldB_1j hj hle) (by rw [c_6]; decide)
  ·
    replace c_6 := bI_n0.mp c_6
    refine lv_aload_n hx hb dX1_becomesAt_9 rfl (lv_at hl 0 rfl) ?_
    refine va_get (D := D) (ci := 1) (v := .ref a) (C := RX1) (T := TX1) (N := 4) hx hb yX1 (fun _ h => h) hown hG.1 hP 0 rfl rfl 0 (by decide) f9 (fun _ h => h) rfl dX1_becomesAt_10 ?_
    refine lv_iload_n hx hb dX1_becomesAt_13 rfl (lv_at hl 1 rfl) ?_
    refine lv_aload_n hx hb dX1_becomesAt_14 rfl (lv_at hl 0 rfl) ?_
    refine lv_iload_n hx hb dX1_becomesAt_15 rfl (lv_at hl 2 rfl) ?_
    refine xrd (va_runV (As := [.int v]) (rest := [.int (nI j), .ref a]) hF (c_X1_cut l D cI cS q a h la le f v (by first | assumption | omega)) (cwV 1 hts gX1_becomesAt_X1_cut rfl rfl rfl hV_X1_cut ⟨Nat.le_of_ble_eq_true rfl, Nat.le_of_ble_eq_true rfl⟩) (PR.preV hG hP (ci := 1) rfl rfl) rfl rfl hl.1 rfl (lv_room (Nat.le_of_ble_eq_true rfl)) dX1_becomesAt_16 ⟨Nat.le_refl _, Nat.le_refl _⟩) ?_
    refine xast hx hb hG hP hD hS 1 rfl (j) rfl (by omega) (by decide) dX1_becomesAt_19 (fun H locs hP hD hS => ?_)
    have hP : va_P D vwCl (wSheet cI q a h la le (upd f j (cutF la v))) H := hP
    have hD : va_D (AW [q, a]) (wSheet cI q a h la le (upd f j (cutF la v))) := hD
    exact xretMv hx hb hr hlk dX1_becomesAt_20 hS () (by trivial) (fun t ht => by rw [ht]; exact hP)

set_option maxHeartbeats 4000000 in
set_option maxRecDepth 100000 in
theorem c_X1_getsRow (l : Launch) (D : va_G) (cI cS : ClassId) (q : Nat) (a : Nat) (h : Bool) (la : Nat) (le : Nat) (f : Nat → Int32) (w : Nat) (k : Nat) (hnd : nd [q, a]) (hw : w ≤ 2) (hk : k ≤ 60) : Met l yX1_getsRow wsX1_getsRow ({ frames := 1, cells := 0, slots := 0, locals := 21 }) (PR D cI cS [.ref q, .int (nI w), .int (nI k)] (wSheet cI q a h la le f)) (va_Qv (fun (zz : Unit) => True) (fun (zz : Unit) t => va_P D vwCl (wSheet cI q a true w k (clrF k f)) t.heap) (AW [q, a])) 0 0 (AW [q, a]) := by
  refine startM (by decide) rfl (Nat.le_of_ble_eq_true rfl) hnd rfl ?_
  intro p e s m below meth c hx hb hr hts hown hlk hml hG hP hD hS ls hl
  have hl : lv_has ls 4 [(0, .ref q), (1, .int (nI w)), (2, .int (nI k))] := hl
  have f15 := hts (.fieldLink RX1 15 "ChairBallot$Sheet" "hasRow" "Z") (by decide +kernel)
  have f19 := hts (.fieldLink RX1 19 "ChairBallot$Sheet" "lane" "I") (by decide +kernel)
  have f23 := hts (.fieldLink RX1 23 "ChairBallot$Sheet" "length" "I") (by decide +kernel)
  have f9 := hts (.fieldLink RX1 9 "ChairBallot$Sheet" "cells" "[I") (by decide +kernel)
  have yX1 : ∀ w ∈ u_ws RX1 TX1 4, w.before _ s = true := fun w h => hts w ((by decide +kernel : ∀ w ∈ wsX10, w ∈ wsX1_getsRow) w h)
  have hF : CallFix p m c cX1_getsRow 4 s _ wsX1_getsRow RX1 := ⟨hx, hb, hml, hown, hts⟩
  refine lv_aload_n hx hb dX1_getsRow_0 rfl (lv_at hl 0 rfl) ?_
  refine lv_iconst (v := nI 1) hx hb dX1_getsRow_1 (by decide) ?_
  refine xtop (x' := bI true) rfl ?_
  refine va_put (D := D) (ci := 1) (v := .int (bI true)) (ty := .boolean) (C := RX1) (T := TX1) (N := 4) hx hb yX1 (fun _ h => h) tyX1 tyX1_ok nmX1 hown hG.1 hP hD hS 0 rfl rfl 1 (by decide) f15 (fun _ h => h) rfl (by decide +kernel) bI_nar bI_fit (Nat.le_of_ble_eq_true rfl) dX1_getsRow_2 (fun H locs hP hD hS => ?_)
  have hP : va_P D vwCl (wSheet cI q a true la le f) H := hP
  have hD : va_D (AW [q, a]) (wSheet cI q a true la le f) := hD
  refine lv_aload_n hx hb dX1_getsRow_5 rfl (lv_at hl 0 rfl) ?_
  refine lv_iload_n hx hb dX1_getsRow_6 rfl (lv_at hl 1 rfl) ?_
  refine va_put (D := D) (ci := 1) (v := .int (nI w)) (ty := .int) (C := RX1) (T := TX1) (N := 4) hx hb yX1 (fun _ h => h) tyX1 tyX1_ok nmX1 hown hG.1 hP hD hS 0 rfl rfl 2 (by decide) f19 (fun _ h => h) rfl (by decide +kernel) rfl rfl (Nat.le_of_ble_eq_true rfl) dX1_getsRow_7 (fun H locs hP hD hS => ?_)
  have hP : va_P D vwCl (wSheet cI q a true w le f) H := hP
  have hD : va_D (AW [q, a]) (wSheet cI q a true w le f) := hD
  refine lv_aload_n hx hb dX1_getsRow_10 rfl (lv_at hl 0 rfl) ?_
  refine lv_iload_n hx hb dX1_getsRow_11 rfl (lv_at hl 2 rfl) ?_
  refine lv_bipush (v := nI 60) hx hb dX1_getsRow_12 (by decide) ?_
  refine va_mmin hx hb (by rw [hml, hl.1]) hown (hts (.methodLink RX1 26 Lib.Math.min.name) (by decide +kernel)) (hts (.static Lib.Math.min.name) (by decide +kernel)) (hts (.initialized "java/lang/Math") (by decide +kernel)) (hts (.code Lib.Math.min.name Lib.Math.min.code 2 (some .int)) (by decide +kernel)) (Nat.le_of_ble_eq_true rfl) (Nat.le_of_ble_eq_true rfl) (Nat.le_refl _) (Nat.le_refl _) dX1_getsRow_14 ?_
  refine xtop (x' := nI k) (by exact min60 hk) ?_
  refine va_put (D := D) (ci := 1) (v := .int (nI k)) (ty := .int) (C := RX1) (T := TX1) (N := 4) hx hb yX1 (fun _ h => h) tyX1 tyX1_ok nmX1 hown hG.1 hP hD hS 0 rfl rfl 3 (by decide) f23 (fun _ h => h) rfl (by decide +kernel) rfl rfl (Nat.le_of_ble_eq_true rfl) dX1_getsRow_17 (fun H locs hP hD hS => ?_)
  have hP : va_P D vwCl (wSheet cI q a true w k f) H := hP
  have hD : va_D (AW [q, a]) (wSheet cI q a true w k f) := hD
  refine lv_iconst (v := nI 0) hx hb dX1_getsRow_20 (by decide) ?_
  refine lv_istore_n (lv' := [(3, .int (nI 0)), (0, .ref q), (1, .int (nI w)), (2, .int (nI k))]) hx hb dX1_getsRow_21 rfl hl (by decide) rfl (fun ls hl => ?_)
  have K22 : ∀ (fuel : Nat) (i : Nat) (g : Nat → Int32), g = clrF i f → (i ≤ k) → (k - i) < fuel → ∀ (H : Heap) (locs : List Loc), va_P D vwCl (wSheet cI q a true w k g) H → va_D (AW [q, a]) (wSheet cI q a true w k g) → va_S (AW [q, a]) s.heap H locs → ∀ ls : Array Slot, lv_has ls 4 [(3, .int (nI i)), (0, .ref q), (1, .int (nI w)), (2, .int (nI k))] → W p l e ({ frames := 1, cells := 0, slots := 0, locals := 21 }) s m (([.ref q, .int (nI w), .int (nI k)] : List Value).toArray) below meth c H locs 0 0 (MQ below (va_Qv (fun (zz : Unit) => True) (fun (zz : Unit) t => va_P D vwCl (wSheet cI q a true w k (clrF k f)) t.heap) (AW [q, a])) (([.ref q, .int (nI w), .int (nI k)] : List Value).toArray) s 0 0 (AW [q, a])) (F0 m 22 ls []) := by
    intro fuel
    induction fuel with
    | zero => intro i g e_g hi hmu; exact absurd hmu (Nat.not_lt_zero _)
    | succ fuel ih =>
      intro i g e_g hi hmu H locs hP hD hS ls hl
      subst e_g
      refine lv_iload_n hx hb dX1_getsRow_22 rfl (lv_at hl 0 rfl) ?_
      refine lv_aload_n hx hb dX1_getsRow_23 rfl (lv_at hl 1 rfl) ?_
      refine va_get (D := D) (ci := 1) (v := .int (nI k)) (C := RX1) (T := TX1) (N := 4) hx hb yX1 (fun _ h => h) hown hG.1 hP 0 rfl rfl 3 (by decide) f23 (fun _ h => h) rfl dX1_getsRow_24 ?_
      refine lv_icmp_ge (tgt := 43) hx hb dX1_getsRow_27 (by decide) (fun c_27 => ?_) (fun c_27 => ?_)
      ·
        replace c_27 := (nI_leI (a := k) (b := i) (by omega) (by omega)).mp c_27
        have hin : k = i := by omega
        subst hin
        exact xretMv hx hb hr hlk dX1_getsRow_43 hS () (by trivial) (fun t ht => by rw [ht]; exact hP)
      ·
        replace c_27 := (not_congr (nI_leI (a := k) (b := i) (by omega) (by omega))).mp c_27
        refine lv_aload_n hx hb dX1_getsRow_30 rfl (lv_at hl 1 rfl) ?_
        refine va_get (D := D) (ci := 1) (v := .ref a) (C := RX1) (T := TX1) (N := 4) hx hb yX1 (fun _ h => h) hown hG.1 hP 0 rfl rfl 0 (by decide) f9 (fun _ h => h) rfl dX1_getsRow_31 ?_
        refine lv_iload_n hx hb dX1_getsRow_34 rfl (lv_at hl 0 rfl) ?_
        refine lv_iconst (v := nI 0) hx hb dX1_getsRow_35 (by decide) ?_
        refine xast hx hb hG hP hD hS 1 rfl (i) rfl (by omega) (by decide) dX1_getsRow_36 (fun H locs hP hD hS => ?_)
        have hP : va_P D vwCl (wSheet cI q a true w k (upd (clrF i f) i (nI 0))) H := hP
        have hD : va_D (AW [q, a]) (wSheet cI q a true w k (upd (clrF i f) i (nI 0))) := hD
        refine lv_iinc (v := nI (i + 1)) (lv' := [(3, .int (nI (i + 1))), (0, .ref q), (1, .int (nI w)), (2, .int (nI k))]) hx hb dX1_getsRow_37 hl (k := 0) rfl xinc1 (by decide) rfl (fun ls hl => ?_)
        refine lv_goto (tgt := 22) hx hb dX1_getsRow_40 (by decide) ?_
        exact ih (i + 1) (upd (clrF i f) i (nI 0)) (by exact clrF_s f i) (by omega) (by omega) _ _ hP hD hS ls (lv_sub hl [0, 1, 2, 3] rfl)
  exact K22 _ 0 f (by first | exact (clrF_0 f).symm | omega) (by first | exact (clrF_0 f).symm | omega) (Nat.lt_succ_self _) _ _ hP hD hS ls (lv_sub hl [0, 1, 2, 3] rfl)
