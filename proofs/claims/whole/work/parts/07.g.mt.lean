/-! ===== the model's reading of a text ===== -/
def cdF (T : Nat → Int32) (c ra : Nat) : Int32 := if ra < c then T ra else -9
def fgI (T : Nat → Int32) (c ra : Nat) (x : Int32) : Int32 := if x.toInt < 0 then -9 else cdF T c ra - nI 48
def fgV (T : Nat → Int32) (c ra : Nat) (x : Int32) (a b : Nat) : Int32 := if rgB a b (fgI T c ra x) then fgI T c ra x else -9
def fgR (T : Nat → Int32) (c ra : Nat) (x : Int32) (a b : Nat) : Nat := if rgB a b (fgI T c ra x) then ra + 1 else ra
theorem fgR_le {T : Nat → Int32} {c ra : Nat} {x : Int32} {a b : Nat} : fgR T c ra x a b ≤ ra + 1 := by
  unfold fgR
  split <;> omega
theorem cd_y {T : Nat → Int32} {c ra : Nat} (h : ra < c) : cdF T c ra = T ra := if_pos h
theorem cd_n {T : Nat → Int32} {c ra : Nat} (h : ¬ ra < c) : cdF T c ra = -9 := if_neg h
theorem cd_lt {T : Nat → Int32} {c ra k : Nat} (hk : k < 2 ^ 31) (h : cdF T c ra = nI k) : ra < c ∧ T ra = nI k := by
  by_cases h1 : ra < c
  · rw [cd_y h1] at h; exact ⟨h1, h⟩
  · rw [cd_n h1] at h
    exact absurd h.symm (nI_m9 hk)
def upG (T : Nat → Int32) (p : Nat) : Prop := ∀ x, x < p → gonB x (T x) = true
theorem upG_s {T : Nat → Int32} {p : Nat} (h : upG T p) (h1 : gonB p (T p) = true) : upG T (p + 1) := by
  intro x hx
  by_cases e : x = p
  · subst e; exact h1
  · exact h x (by omega)
theorem stop_ok {T : Nat → Int32} {c p : Nat} (h : upG T p) (hp : p ≤ c) (h1 : p < c → gonB p (T p) = false) (h2 : p = c → wholeB c = false) : okT T c = false ∧ plT T c = p := by
  by_cases hc : p < c
  · have e : ffT T c = some p := firstV_some (fun v hv => by rw [h v hv]; rfl) (by rw [h1 hc]; rfl) hc
    unfold okT plT
    rw [e]
    exact ⟨rfl, rfl⟩
  · have hpc : p = c := by omega
    have e : ffT T c = none := firstV_none (fun v hv => by rw [h v (by omega)]; rfl)
    unfold okT plT
    rw [e, h2 hpc]
    exact ⟨rfl, hpc.symm⟩
theorem full_ok {T : Nat → Int32} {c : Nat} (h : upG T c) (h2 : wholeB c = true) : okT T c = true := by
  have e : ffT T c = none := firstV_none (fun v hv => by rw [h v hv]; rfl)
  unfold okT
  rw [e, h2]; rfl
section GA
variable {ra m : Nat} {x : Int32}
theorem ga_0 (hm : m < 8) (hra : ra = 1 + 5 * m) : gonB ra x = decide (x = nI 59) := by
  unfold gonB
  rw [if_neg (by omega), if_neg (by omega), if_pos (by omega)]
theorem ga_8 (hra : ra = 1 + 5 * m) (hm : m = 8) : gonB ra x = false := by
  unfold gonB
  rw [if_neg (by omega), if_pos (by omega)]
theorem ga_1 (hm : m < 8) (hra : ra = 1 + 5 * m) : gonB (ra + 1) x = !decide (kdF x = -9) := by
  unfold gonB
  rw [if_neg (by omega), if_neg (by omega), if_neg (by omega), if_pos (by omega)]
theorem ga_2 (hm : m < 8) (hra : ra = 1 + 5 * m) : gonB (ra + 2) x = rgB 0 3 (x - nI 48) := by
  unfold gonB
  rw [if_neg (by omega), if_neg (by omega), if_neg (by omega), if_neg (by omega), if_pos (by omega)]
theorem ga_3 (hm : m < 8) (hra : ra = 1 + 5 * m) : gonB (ra + 3) x = rgB 1 9 (x - nI 48) := by
  unfold gonB
  rw [if_neg (by omega), if_neg (by omega), if_neg (by omega), if_neg (by omega), if_neg (by omega), if_pos (by omega), rg_sub]
theorem ga_4 (hm : m < 8) (hra : ra = 1 + 5 * m) : gonB (ra + 4) x = rgB 0 3 (x - nI 48) := by
  unfold gonB
  rw [if_neg (by omega), if_neg (by omega), if_neg (by omega), if_neg (by omega), if_neg (by omega), if_neg (by omega)]
end GA
theorem wh_n {c r m : Nat} (hr : 0 < r) (hr5 : r < 5) (h : 1 + 5 * m + r = c) : wholeB c = false := by
  unfold wholeB
  rw [decide_eq_false (show ¬ (c - 1) % 5 = 0 by omega), Bool.and_false]
section FG
variable {T : Nat → Int32} {c ra : Nat} {x : Int32} {a b : Nat}
theorem fg_y (hx : 0 ≤ x.toInt) (h : ra < c) (h2 : rgB a b (T ra - nI 48) = true) : fgV T c ra x a b = nI (figC (T ra)) ∧ fgR T c ra x a b = ra + 1 := by
  have e : fgI T c ra x = T ra - nI 48 := by
    unfold fgI
    rw [if_neg (by omega), cd_y h]
  unfold fgV fgR
  rw [e, if_pos h2, if_pos h2]
  exact ⟨(fig_of (by omega) h2).1, rfl⟩
theorem fg_i (h : rgB a b (fgI T c ra x) = false) : fgV T c ra x a b = -9 ∧ fgR T c ra x a b = ra := by
  unfold fgV fgR
  rw [h]
  exact ⟨rfl, rfl⟩
theorem fg_m (hx : x.toInt < 0) : fgV T c ra x a b = -9 ∧ fgR T c ra x a b = ra := fg_i (by
  unfold fgI
  rw [if_pos hx]
  refine rgB_n1 ?_
  rw [show (-9 : Int32).toInt = -9 by decide]
  omega)
theorem fg_n (hx : 0 ≤ x.toInt) (h : ¬ (ra < c ∧ rgB a b (T ra - nI 48) = true)) : fgV T c ra x a b = -9 ∧ fgR T c ra x a b = ra := fg_i (by
  unfold fgI
  rw [if_neg (by omega)]
  by_cases h1 : ra < c
  · rw [cd_y h1]
    cases h2 : rgB a b (T ra - nI 48) with
    | false => rfl
    | true => exact absurd ⟨h1, h2⟩ h
  · rw [cd_n h1]
    refine rgB_n1 ?_
    rw [show ((-9 : Int32) - nI 48).toInt = -57 by decide]
    omega)
end FG
theorem m9_lt {v : Int32} (h : v = -9) : v.toInt < 0 := by rw [h]; decide
theorem fig_nn {x : Int32} {a b : Int} (ha : 0 ≤ a) (hb : b < 1000) (h : rgB a b (x - nI 48) = true) : 0 ≤ (nI (figC x)).toInt := by
  have e := fig_of ha h
  rw [nI_toInt (by omega)]
  omega
/-- what one chair's reading leaves -/
def rcP (T : Nat → Int32) (c m : Nat) (b : Bool) (ra rch : Nat) (q0 q1 q2 q3 r0 r1 r2 r3 : Nat → Int32) : Prop := match b with
  | true => ra = 1 + 5 * (m + 1) ∧ rch = m + 1 ∧ m < 8 ∧ ra ≤ c ∧ upG T ra ∧ r0 = upd q0 m (nI (kiT T m)) ∧ r1 = upd q1 m (nI (stT T m)) ∧ r2 = upd q2 m (nI (weT T m)) ∧ r3 = upd q3 m (nI (loT T m))
  | false => okT T c = false ∧ plT T c = ra
section RC
variable {T : Nat → Int32} {c ra m kv : Nat} {q0 q1 q2 q3 r0 r1 r2 r3 : Nat → Int32} {rch : Nat}
theorem rc_no0 (hm : m ≤ 8) (hra : ra = 1 + 5 * m) (hU : upG T ra) (hle : ra ≤ c) (hlp : m < 2 ∨ ra < c) (h : m = 8 ∨ ¬ cdF T c ra = nI 59) : rcP T c m false ra rch q0 q1 q2 q3 r0 r1 r2 r3 := by
  refine stop_ok hU hle (fun h1 => ?_) (fun h1 => ?_)
  · by_cases h8 : m = 8
    · exact ga_8 hra h8
    · rw [ga_0 (by omega) hra]
      have h := h.resolve_left h8
      rw [cd_y h1] at h
      exact decide_eq_false h
  · unfold wholeB
    rw [decide_eq_false (show ¬ 10 < c by omega), Bool.false_and]
theorem rc_59 (hm : m ≤ 8) (h8 : ¬ m = 8) (hra : ra = 1 + 5 * m) (hU : upG T ra) (h : cdF T c ra = nI 59) : ra < c ∧ upG T (ra + 1) := by
  obtain ⟨h1, h2⟩ := cd_lt (by decide) h
  exact ⟨h1, upG_s hU (by rw [ga_0 (by omega) hra]; exact decide_eq_true h2)⟩
theorem rc_no1 (hm : m ≤ 8) (h8 : ¬ m = 8) (hra : ra = 1 + 5 * m) (hU : upG T ra) (h : cdF T c ra = nI 59) (h1 : ¬ cdF T c (ra + 1) = nI 112) (h2 : ¬ cdF T c (ra + 1) = nI 115) (h3 : ¬ cdF T c (ra + 1) = nI 98) : rcP T c m false (ra + 1) rch q0 q1 q2 q3 r0 r1 r2 r3 := by
  obtain ⟨g1, g2⟩ := rc_59 hm h8 hra hU h
  refine stop_ok g2 (by omega) (fun h4 => ?_) (fun h4 => wh_n (r := 1) (m := m) (by decide) (by decide) (by omega))
  rw [cd_y h4] at h1 h2 h3
  rw [ga_1 (by omega) hra]
  have e : kdF (T (ra + 1)) = -9 := by
    unfold kdF
    rw [if_neg h3, if_neg h1, if_neg h2]
  rw [decide_eq_true e]; rfl
theorem rc_kd (hm : m ≤ 8) (h8 : ¬ m = 8) (hra : ra = 1 + 5 * m) (hU : upG T ra) (h : cdF T c ra = nI 59) (hk : (cdF T c (ra + 1) = nI 112 ∧ kv = 0) ∨ (cdF T c (ra + 1) = nI 115 ∧ kv = 1) ∨ (cdF T c (ra + 1) = nI 98 ∧ kv = 2)) : ra + 1 < c ∧ upG T (ra + 2) ∧ kiT T m = kv := by
  obtain ⟨g1, g2⟩ := rc_59 hm h8 hra hU h
  have key : ra + 1 < c ∧ kdF (T (ra + 1)) = nI kv ∧ kindC (T (ra + 1)) = kv := by
    rcases hk with ⟨e, rfl⟩ | ⟨e, rfl⟩ | ⟨e, rfl⟩
    · obtain ⟨a1, a2⟩ := cd_lt (by decide) e
      rw [a2]
      exact ⟨a1, by decide, by decide⟩
    · obtain ⟨a1, a2⟩ := cd_lt (by decide) e
      rw [a2]
      exact ⟨a1, by decide, by decide⟩
    · obtain ⟨a1, a2⟩ := cd_lt (by decide) e
      rw [a2]
      exact ⟨a1, by decide, by decide⟩
  obtain ⟨k1, k2, k3⟩ := key
  have hkv : kv ≤ 2 := by rcases hk with ⟨-, e⟩ | ⟨-, e⟩ | ⟨-, e⟩ <;> omega
  refine ⟨k1, upG_s g2 ?_, ?_⟩
  · rw [ga_1 (by omega) hra, k2, decide_eq_false (nI_m9 (by omega))]; rfl
  · unfold kiT
    rw [show 2 + m * 5 = ra + 1 by omega]
    exact k3
/-- the three figures: either all are read, or the place of the first that isn't one is kept -/
theorem rc_fin (hm : m ≤ 8) (h8 : ¬ m = 8) (hra : ra = 1 + 5 * m) (hlt : ra + 1 < c) (hU : upG T (ra + 2)) {s w f : Int32} {a3 a4 a5 : Nat}
    (e1 : s = fgV T c (ra + 1 + 1) (nI 0) 0 3) (e2 : a3 = fgR T c (ra + 1 + 1) (nI 0) 0 3) (e3 : w = fgV T c a3 s 1 9) (e4 : a4 = fgR T c a3 s 1 9) (e5 : f = fgV T c a4 w 0 3) (e6 : a5 = fgR T c a4 w 0 3) :
    (f.toInt < 0 ∧ okT T c = false ∧ plT T c = a5) ∨ (¬ f.toInt < 0 ∧ a5 = 1 + 5 * (m + 1) ∧ a5 ≤ c ∧ upG T a5 ∧ s = nI (stT T m) ∧ w = nI (weT T m) ∧ f = nI (loT T m)) := by
  have hm8 : m < 8 := by omega
  by_cases h1 : ra + 2 < c ∧ rgB 0 3 (T (ra + 2) - nI 48) = true
  · obtain ⟨p1, p2⟩ := fg_y (T := T) (c := c) (ra := ra + 2) (x := nI 0) (a := 0) (b := 3) (by decide) h1.1 h1.2
    have e1 : s = nI (figC (T (ra + 2))) := e1.trans p1
    have e2 : a3 = ra + 2 + 1 := e2.trans p2
    have hs : 0 ≤ s.toInt := by rw [e1]; exact fig_nn (a := 0) (b := 3) (by decide) (by decide) h1.2
    have hU3 : upG T (ra + 2 + 1) := upG_s hU (by rw [ga_2 hm8 hra]; exact h1.2)
    subst e2
    by_cases h2 : ra + 3 < c ∧ rgB 1 9 (T (ra + 3) - nI 48) = true
    · obtain ⟨p3, p4⟩ := fg_y (T := T) (c := c) (ra := ra + 3) (x := s) (a := 1) (b := 9) hs h2.1 h2.2
      have e3 : w = nI (figC (T (ra + 3))) := e3.trans p3
      have e4 : a4 = ra + 3 + 1 := e4.trans p4
      have hw : 0 ≤ w.toInt := by rw [e3]; exact fig_nn (a := 1) (b := 9) (by decide) (by decide) h2.2
      have hU4 : upG T (ra + 3 + 1) := upG_s hU3 (by rw [ga_3 hm8 hra]; exact h2.2)
      subst e4
      by_cases h3 : ra + 4 < c ∧ rgB 0 3 (T (ra + 4) - nI 48) = true
      · obtain ⟨p5, p6⟩ := fg_y (T := T) (c := c) (ra := ra + 4) (x := w) (a := 0) (b := 3) hw h3.1 h3.2
        have e5 : f = nI (figC (T (ra + 4))) := e5.trans p5
        have e6 : a5 = ra + 4 + 1 := e6.trans p6
        have hf : 0 ≤ f.toInt := by rw [e5]; exact fig_nn (a := 0) (b := 3) (by decide) (by decide) h3.2
        have hU5 : upG T (ra + 4 + 1) := upG_s hU4 (by rw [ga_4 hm8 hra]; exact h3.2)
        subst e6
        refine Or.inr ⟨by omega, by omega, by omega, hU5, ?_, ?_, ?_⟩
        · rw [e1]; unfold stT; rw [show 2 + m * 5 + 1 = ra + 2 by omega]
        · rw [e3]; unfold weT; rw [show 2 + m * 5 + 2 = ra + 3 by omega]
        · rw [e5]; unfold loT; rw [show 2 + m * 5 + 3 = ra + 4 by omega]
      · obtain ⟨p5, p6⟩ := fg_n (T := T) (c := c) (ra := ra + 4) (x := w) (a := 0) (b := 3) hw h3
        have e5 : f = -9 := e5.trans p5
        have e6 : a5 = ra + 4 := e6.trans p6
        subst e6
        refine Or.inl ⟨m9_lt e5, stop_ok hU4 (by omega) (fun h4 => ?_) (fun h4 => wh_n (r := 4) (m := m) (by decide) (by decide) (by omega))⟩
        rw [ga_4 hm8 hra]
        cases hz : rgB 0 3 (T (ra + 4) - nI 48) with
        | false => rfl
        | true => exact absurd ⟨h4, hz⟩ h3
    · obtain ⟨p3, p4⟩ := fg_n (T := T) (c := c) (ra := ra + 3) (x := s) (a := 1) (b := 9) hs h2
      have e3 : w = -9 := e3.trans p3
      have e4 : a4 = ra + 3 := e4.trans p4
      subst e4
      obtain ⟨p5, p6⟩ := fg_m (T := T) (c := c) (ra := ra + 3) (x := w) (a := 0) (b := 3) (m9_lt e3)
      have e5 : f = -9 := e5.trans p5
      have e6 : a5 = ra + 3 := e6.trans p6
      subst e6
      refine Or.inl ⟨m9_lt e5, stop_ok hU3 (by omega) (fun h4 => ?_) (fun h4 => wh_n (r := 3) (m := m) (by decide) (by decide) (by omega))⟩
      rw [ga_3 hm8 hra]
      cases hz : rgB 1 9 (T (ra + 3) - nI 48) with
      | false => rfl
      | true => exact absurd ⟨h4, hz⟩ h2
  · obtain ⟨p1, p2⟩ := fg_n (T := T) (c := c) (ra := ra + 2) (x := nI 0) (a := 0) (b := 3) (by decide) h1
    have e1 : s = -9 := e1.trans p1
    have e2 : a3 = ra + 2 := e2.trans p2
    subst e2
    obtain ⟨p3, p4⟩ := fg_m (T := T) (c := c) (ra := ra + 2) (x := s) (a := 1) (b := 9) (m9_lt e1)
    have e3 : w = -9 := e3.trans p3
    have e4 : a4 = ra + 2 := e4.trans p4
    subst e4
    obtain ⟨p5, p6⟩ := fg_m (T := T) (c := c) (ra := ra + 2) (x := w) (a := 0) (b := 3) (m9_lt e3)
    have e5 : f = -9 := e5.trans p5
    have e6 : a5 = ra + 2 := e6.trans p6
    subst e6
    refine Or.inl ⟨m9_lt e5, stop_ok hU (by omega) (fun h4 => ?_) (fun h4 => wh_n (r := 2) (m := m) (by decide) (by decide) (by omega))⟩
    rw [ga_2 hm8 hra]
    cases hz : rgB 0 3 (T (ra + 2) - nI 48) with
    | false => rfl
    | true => exact absurd ⟨h4, hz⟩ h1
theorem rc_no2 (hm : m ≤ 8) (h8 : ¬ m = 8) (hra : ra = 1 + 5 * m) (hU : upG T ra) (h : cdF T c ra = nI 59) (hk : (cdF T c (ra + 1) = nI 112 ∧ kv = 0) ∨ (cdF T c (ra + 1) = nI 115 ∧ kv = 1) ∨ (cdF T c (ra + 1) = nI 98 ∧ kv = 2)) {s w f : Int32} {a3 a4 a5 : Nat}
    (e1 : s = fgV T c (ra + 1 + 1) (nI 0) 0 3) (e2 : a3 = fgR T c (ra + 1 + 1) (nI 0) 0 3) (e3 : w = fgV T c a3 s 1 9) (e4 : a4 = fgR T c a3 s 1 9) (e5 : f = fgV T c a4 w 0 3) (e6 : a5 = fgR T c a4 w 0 3) (hf : f.toInt < 0) : rcP T c m false a5 rch q0 q1 q2 q3 r0 r1 r2 r3 := by
  obtain ⟨g1, g2, -⟩ := rc_kd hm h8 hra hU h hk
  rcases rc_fin hm h8 hra g1 g2 e1 e2 e3 e4 e5 e6 with ⟨-, z⟩ | ⟨z, -⟩
  · exact z
  · exact absurd hf z
theorem rc_y (hm : m ≤ 8) (h8 : ¬ m = 8) (hra : ra = 1 + 5 * m) (hU : upG T ra) (h : cdF T c ra = nI 59) (hk : (cdF T c (ra + 1) = nI 112 ∧ kv = 0) ∨ (cdF T c (ra + 1) = nI 115 ∧ kv = 1) ∨ (cdF T c (ra + 1) = nI 98 ∧ kv = 2)) {s w f : Int32} {a3 a4 a5 : Nat}
    (e1 : s = fgV T c (ra + 1 + 1) (nI 0) 0 3) (e2 : a3 = fgR T c (ra + 1 + 1) (nI 0) 0 3) (e3 : w = fgV T c a3 s 1 9) (e4 : a4 = fgR T c a3 s 1 9) (e5 : f = fgV T c a4 w 0 3) (e6 : a5 = fgR T c a4 w 0 3) (hf : ¬ f.toInt < 0) : rcP T c m true a5 (m + 1) q0 q1 q2 q3 (upd q0 m (nI kv)) (upd q1 m s) (upd q2 m w) (upd q3 m f) := by
  obtain ⟨g1, g2, g3⟩ := rc_kd hm h8 hra hU h hk
  rcases rc_fin hm h8 hra g1 g2 e1 e2 e3 e4 e5 e6 with ⟨z, -⟩ | ⟨-, z1, z2, z3, z4, z5, z6⟩
  · exact absurd z hf
  · exact ⟨z1, rfl, by omega, z2, z3, by rw [g3], by rw [z4], by rw [z5], by rw [z6]⟩
end RC
/-! the loop over the chairs -/
def rdQ (T : Nat → Int32) (m : Nat) (r0 r1 r2 r3 : Nat → Int32) : Prop := ∀ k, k < m → r0 k = nI (kiT T k) ∧ r1 k = nI (stT T k) ∧ r2 k = nI (weT T k) ∧ r3 k = nI (loT T k)
def rfI (T : Nat → Int32) (c : Nat) (b : Bool) (ra rch : Nat) (r0 r1 r2 r3 : Nat → Int32) : Prop := match b with
  | true => ra = 1 + 5 * rch ∧ ra ≤ c ∧ rch ≤ 8 ∧ upG T ra ∧ rdQ T rch r0 r1 r2 r3
  | false => okT T c = false ∧ plT T c = ra
def rfP (T : Nat → Int32) (c ra rch : Nat) (r0 r1 r2 r3 : Nat → Int32) : Prop := match okT T c with
  | true => rch = (c - 1) / 5 ∧ rch ≤ 8 ∧ rdQ T rch r0 r1 r2 r3
  | false => plT T c = ra
def muB (b : Bool) (r : Nat) : Nat := match b with
  | true => 10 - r
  | false => 0
section RF
variable {T : Nat → Int32} {c ra rch : Nat} {q0 q1 q2 q3 r0 r1 r2 r3 : Nat → Int32}
theorem rf_y0 (h : cdF T c 0 = nI 102) : rfI T c true (0 + 1) 0 r0 r1 r2 r3 := by
  obtain ⟨h1, h2⟩ := cd_lt (by decide) h
  refine ⟨rfl, by omega, by omega, ?_, fun k hk => by omega⟩
  intro x hx
  have : x = 0 := by omega
  subst this
  exact decide_eq_true h2
theorem rf_n0 (h : ¬ cdF T c 0 = nI 102) : rfI T c false (0 + 0) 0 r0 r1 r2 r3 := by
  refine stop_ok (fun x hx => by omega) (by omega) (fun h1 => ?_) (fun h1 => ?_)
  · rw [cd_y h1] at h
    exact decide_eq_false h
  · subst h1; rfl
theorem rf_t (h : rfI T c true ra rch r0 r1 r2 r3) : ra = 1 + 5 * rch ∧ ra ≤ c ∧ rch ≤ 8 ∧ upG T ra ∧ rdQ T rch r0 r1 r2 r3 := h
theorem rf_step {b : Bool} {ra1 rc1 : Nat} (hq : rdQ T rch q0 q1 q2 q3) (h : rcP T c rch b ra1 rc1 q0 q1 q2 q3 r0 r1 r2 r3) : rfI T c b ra1 rc1 r0 r1 r2 r3 := by
  cases b with
  | false => exact h
  | true =>
    obtain ⟨h1, h2, h3, h4, h5, h6, h7, h8, h9⟩ := h
    subst h2; subst h6; subst h7; subst h8; subst h9
    refine ⟨h1, h4, by omega, h5, fun k hk => ?_⟩
    unfold upd
    by_cases e : k = rch
    · subst e
      simp
    · simp only [if_neg e]
      exact hq k (by omega)
theorem rf_mu {b : Bool} {ra1 rc1 : Nat} (hr : rch ≤ 8) (h : rcP T c rch b ra1 rc1 q0 q1 q2 q3 r0 r1 r2 r3) : muB b rc1 < muB true rch := by
  cases b with
  | false => show 0 < 10 - rch; omega
  | true =>
    have := h.2.1
    show 10 - rc1 < 10 - rch
    omega
theorem rf_en (h : rfI T c false ra rch r0 r1 r2 r3) : bI false = bI (okT T c) ∧ rfP T c ra rch r0 r1 r2 r3 := by
  have h1 : okT T c = false := h.1
  have h2 : plT T c = ra := h.2
  unfold rfP
  rw [h1]
  exact ⟨rfl, h2⟩
theorem rf_ey (h1 : ra = 1 + 5 * rch) (h2 : ra ≤ c) (h3 : rch ≤ 8) (h4 : upG T ra) (h5 : rdQ T rch r0 r1 r2 r3) (h6 : ¬ rch < 2) (h7 : c ≤ ra) : bI true = bI (okT T c) ∧ rfP T c ra rch r0 r1 r2 r3 := by
  have e : ra = c := by omega
  have e1 : okT T c = true := full_ok (by rw [← e]; exact h4) (by
    unfold wholeB
    rw [decide_eq_true (show 10 < c by omega), decide_eq_true (show (c - 1) % 5 = 0 by omega)]; rfl)
  unfold rfP
  rw [e1]
  exact ⟨rfl, by omega, h3, h5⟩
theorem rf_pn (h : rfP T c ra rch r0 r1 r2 r3) (h1 : okT T c = false) : plT T c = ra := by
  unfold rfP at h
  rw [h1] at h
  exact h
theorem rf_py (h : rfP T c ra rch r0 r1 r2 r3) (h1 : okT T c = true) : rch = (c - 1) / 5 ∧ rch ≤ 8 ∧ rdQ T rch r0 r1 r2 r3 := by
  unfold rfP at h
  rw [h1] at h
  exact h
end RF
/-! one sheet's cells among all the sheets' -/
theorem tx_big {bg : Nat → Int32} {j u : Nat} : textA (bigF bg j) u = textA bg (60 * j + u) := by
  funext p
  unfold textA bigF
  rw [Nat.add_assoc]
theorem rd_big {n : Nat} {bg : Nat → Int32} {j u : Nat} : refD n (bigF bg j) u = refD n bg (60 * j + u) := by
  funext p
  unfold refD bigF
  rw [show 60 * j + (u + 2 * p) = 60 * j + u + 2 * p by omega, show 60 * j + (u + 2 * p + 1) = 60 * j + u + 2 * p + 1 by omega]
theorem da_big {bg : Nat → Int32} {j u : Nat} : dA (bigF bg j) u = dA bg (60 * j + u) := by
  funext p
  unfold dA bigF
  rw [Nat.add_assoc]
theorem db_big {bg : Nat → Int32} {j u : Nat} : dB (bigF bg j) u = dB bg (60 * j + u) := by
  funext p
  unfold dB bigF
  rw [Nat.add_assoc, Nat.add_assoc, Nat.add_assoc]
theorem dy_big {n fo : Nat} {we lo : Nat → Nat} {bg : Nat → Int32} {j u : Nat} : dyS n fo we lo (bigF bg j) u = dyS n fo we lo bg (60 * j + u) := by
  funext p
  induction p with
  | zero => rfl
  | succ p ih =>
    unfold dyS
    rw [ih, da_big, db_big]
theorem dx_big {n fo : Nat} {we lo : Nat → Nat} {bg : Nat → Int32} {j u : Nat} : dyX n fo we lo (bigF bg j) u = dyX n fo we lo bg (60 * j + u) := by
  funext p
  unfold dyX
  rw [dy_big, da_big, db_big]
theorem dc_big {n fo : Nat} {ki st we lo : Nat → Nat} {bg : Nat → Int32} {j u : Nat} : dyC n fo ki st we lo (bigF bg j) u = dyC n fo ki st we lo bg (60 * j + u) := by
  funext p
  unfold dyC
  rw [dy_big]
theorem an_big {n fo : Nat} {ki st we lo : Nat → Nat} {bg : Nat → Int32} {j u ct : Nat} {what : Int32} : ansD n fo ki st we lo (bigF bg j) u ct what = ansD n fo ki st we lo bg (60 * j + u) ct what := by
  unfold ansD
  rw [dx_big, dy_big, dc_big]
/-! answers by what bars the cells -/
section CB
variable {sh : Nat → Bool} {sla sle : Nat → Nat} {j w : Nat} {i ct : Int32}
theorem cb_0 (h : cbN sh sla sle j w i ct = 0) : fltN (sh j) (sla j) w = 0 ∧ ¬ ct.toInt < 0 ∧ hldB (sle j) i ct = true := by
  unfold cbN at h
  by_cases h1 : fltN (sh j) (sla j) w = 0
  · rw [if_pos h1] at h
    by_cases h2 : ct.toInt < 0
    · rw [if_pos h2] at h; cases h
    · rw [if_neg h2] at h
      cases h3 : hldB (sle j) i ct with
      | true => exact ⟨h1, h2, rfl⟩
      | false => rw [h3] at h; cases h
  · rw [if_neg h1] at h
    exact absurd h h1
variable {sf : Nat → Nat → Int32} {n fo : Nat} {ki st we lo : Nat → Nat} {what : Int32}
theorem fr_A (h1 : rgB 0 3 (nI j) = true) (h2 : rgB 0 2 (nI w) = true) (c1 : (nI j).toNatClampNeg = j) (c2 : (nI w).toNatClampNeg = w) : A_front sh sla sle sf (nI j) (nI w) i ct = if cbN sh sla sle j w i ct = 0 then (if okT (textA (sf j) i.toNatClampNeg) ct.toNatClampNeg then nI (numT ct) else -100 - nI (plT (textA (sf j) i.toNatClampNeg) ct.toNatClampNeg)) else -10 - nI (cbN sh sla sle j w i ct) := by
  unfold A_front cbN
  rw [c1, c2, if_pos h1, if_pos h2]
  by_cases h3 : fltN (sh j) (sla j) w = 0
  · rw [if_pos h3, if_pos h3]
    by_cases h4 : ct.toInt < 0
    · rw [if_pos h4, if_pos h4]; rfl
    · rw [if_neg h4, if_neg h4]
      cases h5 : hldB (sle j) i ct <;> rfl
  · rw [if_neg h3, if_neg h3, if_neg h3]
theorem fr_S (h1 : rgB 0 3 (nI j) = true) (h2 : rgB 0 2 (nI w) = true) (c1 : (nI j).toNatClampNeg = j) (c2 : (nI w).toNatClampNeg = w) : S_front sh sla sle (nI j) (nI w) i ct = cbN sh sla sle j w i ct := by
  unfold S_front cbN
  rw [c1, c2, h1, h2]; rfl
theorem fr_ok (h1 : rgB 0 3 (nI j) = true) (h2 : rgB 0 2 (nI w) = true) (c1 : (nI j).toNatClampNeg = j) (c2 : (nI w).toNatClampNeg = w) : okFront sh sla sle sf (nI j) (nI w) i ct = (decide (cbN sh sla sle j w i ct = 0) && okT (textA (sf j) i.toNatClampNeg) ct.toNatClampNeg) := by
  unfold okFront cbN
  rw [c1, c2, h1, h2]
  by_cases h3 : fltN (sh j) (sla j) w = 0
  · rw [if_pos h3, decide_eq_true h3]
    by_cases h4 : ct.toInt < 0
    · rw [if_pos h4, hldB_neg h4]; rfl
    · rw [if_neg h4]
      cases h5 : hldB (sle j) i ct <;> rfl
  · rw [if_neg h3, decide_eq_false h3]; rfl
theorem dy_A {cc : Nat} (hcc : cc ≤ 20) (h1 : rgB 0 3 (nI j) = true) (h2 : rgB 0 2 (nI w) = true) (h3 : rgB 0 20 (nI cc) = true) (h4 : (rgB 0 4 what || rgB 10 17 what) = true) (hn : ¬ n = 0) (c1 : (nI j).toNatClampNeg = j) (c2 : (nI w).toNatClampNeg = w) (c3 : (nI cc).toNatClampNeg = cc) : A_day sh sla sle sf n fo ki st we lo (nI j) (nI w) i (nI cc) what = if cbN sh sla sle j w i (nI (2 * cc)) = 0 then (if firstR (refD n (sf j) i.toNatClampNeg) cc = nI 0 then ansD n fo ki st we lo (sf j) i.toNatClampNeg cc what else firstR (refD n (sf j) i.toNatClampNeg) cc) else -10 - nI (cbN sh sla sle j w i (nI (2 * cc))) := by
  have hz : ¬ (nI (2 * cc)).toInt < 0 := by rw [nI_toInt (by omega)]; omega
  unfold A_day cbN
  rw [c1, c2, c3, if_pos h1, h2, h3, h4, if_pos (show (true && (true && true)) = true from rfl), if_neg hn, if_neg hz]
  by_cases h5 : fltN (sh j) (sla j) w = 0
  · rw [if_pos h5, if_pos h5]
    cases h6 : hldB (sle j) i (nI (2 * cc)) <;> rfl
  · rw [if_neg h5, if_neg h5, if_neg h5]
theorem dy_S {cc : Nat} (hcc : cc ≤ 20) (h1 : rgB 0 3 (nI j) = true) (h2 : rgB 0 2 (nI w) = true) (h3 : rgB 0 20 (nI cc) = true) (h4 : (rgB 0 4 what || rgB 10 17 what) = true) (hn : ¬ n = 0) (c1 : (nI j).toNatClampNeg = j) (c2 : (nI w).toNatClampNeg = w) (c3 : (nI cc).toNatClampNeg = cc) : S_day sh sla sle n (nI j) (nI w) i (nI cc) what = cbN sh sla sle j w i (nI (2 * cc)) := by
  have hz : ¬ (nI (2 * cc)).toInt < 0 := by rw [nI_toInt (by omega)]; omega
  unfold S_day cbN
  rw [c1, c2, c3, if_pos h1, h2, h3, h4, if_pos (show (true && (true && true)) = true from rfl), if_neg hn, if_neg hz]
end CB
/-! a day's acts -/
section AC
variable {n fo : Nat} {we lo : Nat → Nat} {a b : Nat}
theorem tn_S (hn : n ≤ 8) (ha : a < n) (hb : b < 4) : S_turn n fo lo (nI a) (nI b) = trn fo lo a b := by
  unfold S_turn
  rw [hasB_nI (by omega), decide_eq_true ha, rgB_y (by rw [nI_toInt (by omega)]; omega) (by rw [nI_toInt (by omega)]; omega), cl8 (by omega), cl8 (by omega)]; rfl
theorem tn_A (hn : n ≤ 8) (ha : a < n) (hb : b < 4) : A_turn n fo lo (nI a) (nI b) = if fo.testBit a then -3 else nI (lo a) := by
  unfold A_turn
  rw [hasB_nI (by omega), decide_eq_true ha, rgB_y (by rw [nI_toInt (by omega)]; omega) (by rw [nI_toInt (by omega)]; omega), cl8 (by omega)]; rfl
theorem tn_lt (hn : n ≤ 8) (hlo : ∀ j, lo j ≤ 3) (ha : a < n) (hb : b < 4) : ((A_turn n fo lo (nI a) (nI b)).toInt < 0) ↔ fo.testBit a = true := by
  rw [tn_A hn ha hb]
  have h := hlo a
  cases fo.testBit a with
  | true => exact ⟨fun _ => rfl, fun _ => show (-3 : Int32).toInt < 0 by decide⟩
  | false =>
    refine ⟨fun h1 => ?_, fun h1 => by cases h1⟩
    have h1 : (nI (lo a)).toInt < 0 := h1
    rw [nI_toInt (by omega)] at h1
    omega
theorem op_S (hn : n ≤ 8) (ha : a < n) : S_open n fo (nI a) = opn fo a := by
  unfold S_open
  rw [hasB_nI (by omega), decide_eq_true ha, cl8 (by omega)]; rfl
theorem op_lt (hn : n ≤ 8) (ha : a < n) : ((A_open n fo (nI a)).toInt < 0) ↔ ¬ fo.testBit a = true := by
  unfold A_open
  rw [hasB_nI (by omega), decide_eq_true ha, cl8 (by omega), if_pos rfl]
  have h := popN_le (fo ^^^ 2 ^ a)
  cases fo.testBit a with
  | false => exact ⟨fun _ h => (by cases h), fun _ => show (-3 : Int32).toInt < 0 by decide⟩
  | true =>
    refine ⟨fun h1 => ?_, fun h1 => absurd rfl h1⟩
    have h1 : (nI (popN (fo ^^^ 2 ^ a))).toInt < 0 := h1
    rw [nI_toInt (by omega)] at h1
    omega
end AC
theorem fv_mono {P : Nat → Bool} {i p : Nat} (h : firstV P i = some p) : ∀ {m : Nat}, i ≤ m → firstV P m = some p
  | 0, hm => by
    have : i = 0 := by omega
    subst this
    exact h
  | m + 1, hm => by
    by_cases hi : i = m + 1
    · subst hi; exact h
    · show (match firstV P m with | some v => some v | none => if P m then some m else none) = some p
      rw [fv_mono h (by omega)]
theorem fv_n {P : Nat → Bool} {i : Nat} (h : firstV P i = none) (h2 : P i = false) : firstV P (i + 1) = none := by
  show (match firstV P i with | some v => some v | none => if P i then some i else none) = none
  rw [h, h2]; rfl
theorem fv_y {P : Nat → Bool} {i : Nat} (h : firstV P i = none) (h2 : P i = true) : firstV P (i + 1) = some i := by
  show (match firstV P i with | some v => some v | none => if P i then some i else none) = some i
  rw [h, h2]; rfl
/-- beyond the chairs no way is changed -/
theorem dy_out {n fo : Nat} {we lo : Nat → Nat} {F : Nat → Int32} {u ct : Nat} (hok : ∀ p, p < ct → dB F u p ≤ 9 ∧ actOk n (dA F u p) (dB F u p)) : ∀ p, p ≤ ct → ∀ j, n ≤ j → (dyS n fo we lo F u p).2 j = lo j
  | 0, _, _, _ => rfl
  | p + 1, hp, j, hj => by
    have ih := dy_out (fo := fo) (we := we) (lo := lo) hok p (by omega) j hj
    have hk := (hok p (by omega)).2
    show actL n (dyS n fo we lo F u p).1 we (dyS n fo we lo F u p).2 (dA F u p) (dB F u p) j = lo j
    rw [← ih]
    unfold actL
    split
    · rfl
    · split
      · rfl
      · split
        · rename_i h4
          have := hk.1 (Or.inl h4)
          unfold trn
          split
          · rfl
          · unfold updN
            rw [if_neg (by omega)]
        · unfold blwL
          rw [decide_eq_false (show ¬ j < n by omega)]; rfl
section AN
variable {n fo : Nat} {ki st we lo : Nat → Nat} {F : Nat → Int32} {u ct : Nat} {what : Int32}
theorem an_1 (h : what = nI 1) : ansD n fo ki st we lo F u ct what = optI (firstV (dyX n fo we lo F u) ct) := by
  subst h
  unfold ansD
  cases firstV (dyX n fo we lo F u) ct with
  | none => rfl
  | some p => rfl
theorem an_f {p : Nat} (h : firstV (dyX n fo we lo F u) ct = some p) (h1 : ¬ what = nI 1) : ansD n fo ki st we lo F u ct what = -100 - nI p := by
  unfold ansD
  rw [h]
  exact if_neg h1
end AN
theorem what4 {v : Int32} (h : (rgB 0 4 v || rgB 10 17 v) = true) (h1 : v.toInt < 10) (n0 : ¬ v = 0) (n1 : ¬ v = nI 1) (n2 : ¬ v = nI 2) (n3 : ¬ v = nI 3) : v = nI 4 := by
  rcases Bool.or_eq_true_iff.mp h with h | h
  · have h := of_decide_eq_true h
    have e := nI_ofT h.1
    rcases (show v.toInt.toNat = 0 ∨ v.toInt.toNat = 1 ∨ v.toInt.toNat = 2 ∨ v.toInt.toNat = 3 ∨ v.toInt.toNat = 4 by omega) with q | q | q | q | q <;> rw [q] at e
    · exact absurd e n0
    · exact absurd e n1
    · exact absurd e n2
    · exact absurd e n3
    · exact e
  · have h := of_decide_eq_true h
    omega
theorem what10 {v : Int32} (h1 : ¬ v.toInt < 10) {k : Nat} (hk : k < 10) : ¬ v = nI k := by
  intro e
  rw [e, nI_toInt (by omega)] at h1
  omega
theorem refP_val {n : Nat} {a b : Int32} : refP n a b = nI 0 ∨ (refP n a b).toInt < 0 := by
  unfold refP
  repeat' split
  all_goals first | exact Or.inl rfl | exact Or.inr (by decide)
theorem fr_val {n : Nat} {F : Nat → Int32} {u : Nat} : ∀ m, firstR (refD n F u) m = nI 0 ∨ (firstR (refD n F u) m).toInt < 0
  | 0 => Or.inl rfl
  | m + 1 => by
    show (if firstR (refD n F u) m = nI 0 then refD n F u m else firstR (refD n F u) m) = nI 0 ∨ (if firstR (refD n F u) m = nI 0 then refD n F u m else firstR (refD n F u) m).toInt < 0
    split
    · exact refP_val
    · exact fr_val m
theorem fr_ge {n : Nat} {F : Nat → Int32} {u m : Nat} (h : 0 ≤ (firstR (refD n F u) m).toInt) : firstR (refD n F u) m = nI 0 := by
  rcases fr_val (n := n) (F := F) (u := u) m with e | e
  · exact e
  · omega
theorem fr_lt {n : Nat} {F : Nat → Int32} {u m : Nat} (h : ¬ 0 ≤ (firstR (refD n F u) m).toInt) : ¬ firstR (refD n F u) m = nI 0 := by
  intro e
  rw [e] at h
  exact h (by decide)
theorem b47 {b : Int32} (h : rgB 0 9 b = true) (h4 : ¬ b.toInt < 4) (h8 : ¬ b = nI 8) (h9 : ¬ b = nI 9) : rgB 4 7 b = true := by
  have h := of_decide_eq_true h
  have e := nI_ofT h.1
  have n8 : ¬ b.toInt.toNat = 8 := fun q => h8 (by rw [q] at e; exact e)
  have n9 : ¬ b.toInt.toNat = 9 := fun q => h9 (by rw [q] at e; exact e)
  exact rgB_y (by omega) (by omega)
theorem not8 {b : Int32} (h : rgB 4 7 b = true) : ¬ b = nI 8 := by
  intro e
  rw [e] at h
  exact absurd h (by decide)
