/-! ===== what holds of the state all along ===== -/
def stB (n fo : Nat) (ki st we lo : Nat → Nat) (rd : Nat) (rc rv sla sle : Nat → Nat) : Prop :=
  n ≤ 8 ∧ fo < 256 ∧ (∀ j, ki j ≤ 2) ∧ (∀ j, st j ≤ 3) ∧ (∀ j, we j ≤ 9) ∧ (∀ j, lo j ≤ 3) ∧ rd ≤ 8 ∧ (∀ r, r < rd → rc r < n) ∧ (∀ j, rv j ≤ 10) ∧ (∀ j, sla j ≤ 2) ∧ (∀ j, sle j ≤ 60)
theorem rg_cl {a b : Int} {v : Int32} (ha : 0 ≤ a) (hb : b < 1000) (h : rgB a b v = true) : a ≤ (v.toNatClampNeg : Int) ∧ (v.toNatClampNeg : Int) ≤ b := by
  obtain ⟨w, h1, h2, rfl⟩ := rgB_nat ha h
  rw [cl8 (j := w) (by omega)]
  exact ⟨h1, h2⟩
theorem has_cl {n : Nat} {k : Int32} (hn : n ≤ 8) (h : hasB n k = true) : k.toNatClampNeg < n := by
  obtain ⟨j, hj, rfl⟩ := hasB_t h
  rw [cl8 (j := j) (by omega)]
  exact hj
section ST
variable {n fo : Nat} {ki st we lo : Nat → Nat} {rd : Nat} {rc rv sla sle : Nat → Nat} {k v w : Int32}
theorem st_0 : stB 0 0 zN zN zN zN 0 zN zN zN zN := by
  refine ⟨?_, ?_, ?_, ?_, ?_, ?_, ?_, ?_, ?_, ?_, ?_⟩
  all_goals first | decide | (intro j; exact Nat.zero_le _) | (intro r hr; exact absurd hr (Nat.not_lt_zero r))
theorem st_paint (h : stB n fo ki st we lo rd rc rv sla sle) : stB n fo ki (S_paint n st k v) we lo rd rc rv sla sle := by
  obtain ⟨h1, h2, h3, h4, h5, h6, h7, h8, h9, h10, h11⟩ := h
  refine ⟨h1, h2, h3, ?_, h5, h6, h7, h8, h9, h10, h11⟩
  unfold S_paint
  split
  · rename_i hc
    rw [Bool.and_eq_true] at hc
    have := rg_cl (by decide) (by decide) hc.2
    exact updN_b h4 (by omega)
  · exact h4
theorem st_load (h : stB n fo ki st we lo rd rc rv sla sle) : stB n fo ki st (S_load n we k v) lo rd rc rv sla sle := by
  obtain ⟨h1, h2, h3, h4, h5, h6, h7, h8, h9, h10, h11⟩ := h
  refine ⟨h1, h2, h3, h4, ?_, h6, h7, h8, h9, h10, h11⟩
  unfold S_load
  split
  · rename_i hc
    rw [Bool.and_eq_true] at hc
    have := rg_cl (by decide) (by decide) hc.2
    exact updN_b h5 (by omega)
  · exact h5
theorem st_turn (h : stB n fo ki st we lo rd rc rv sla sle) : stB n fo ki st we (S_turn n fo lo k v) rd rc rv sla sle := by
  obtain ⟨h1, h2, h3, h4, h5, h6, h7, h8, h9, h10, h11⟩ := h
  refine ⟨h1, h2, h3, h4, h5, ?_, h7, h8, h9, h10, h11⟩
  unfold S_turn
  split
  · rename_i hc
    rw [Bool.and_eq_true] at hc
    have := rg_cl (by decide) (by decide) hc.2
    exact trn_le h6 (by omega)
  · exact h6
theorem st_gust (h : stB n fo ki st we lo rd rc rv sla sle) : stB n fo ki st we (S_gust n fo we lo k v) rd rc rv sla sle := by
  obtain ⟨h1, h2, h3, h4, h5, h6, h7, h8, h9, h10, h11⟩ := h
  refine ⟨h1, h2, h3, h4, h5, ?_, h7, h8, h9, h10, h11⟩
  unfold S_gust
  split
  · exact h6
  · split
    · rename_i hc
      rw [Bool.and_eq_true] at hc
      have := rg_cl (by decide) (by decide) hc.1
      exact blw_le h6 (by omega)
    · exact h6
theorem st_rain (h : stB n fo ki st we lo rd rc rv sla sle) : stB n (S_rain n fo) ki st we lo rd rc rv sla sle := by
  obtain ⟨h1, h2, h3, h4, h5, h6, h7, h8, h9, h10, h11⟩ := h
  refine ⟨h1, ?_, h3, h4, h5, h6, h7, h8, h9, h10, h11⟩
  have e1 := two_pow_le h1
  have e2 : 1 ≤ 2 ^ n := Nat.one_le_two_pow
  unfold S_rain
  split <;> omega
theorem st_open (h : stB n fo ki st we lo rd rc rv sla sle) : stB n (S_open n fo k) ki st we lo rd rc rv sla sle := by
  obtain ⟨h1, h2, h3, h4, h5, h6, h7, h8, h9, h10, h11⟩ := h
  refine ⟨h1, ?_, h3, h4, h5, h6, h7, h8, h9, h10, h11⟩
  unfold S_open
  split
  · rename_i hc
    have := has_cl h1 hc
    exact opn_lt h2 (by omega)
  · exact h2
theorem st_reading (h : stB n fo ki st we lo rd rc rv sla sle) : stB n fo ki st we lo (S_reading n rd k v) (C_reading n rd rc k v) (V_reading n rd rv k v) sla sle := by
  obtain ⟨h1, h2, h3, h4, h5, h6, h7, h8, h9, h10, h11⟩ := h
  unfold S_reading C_reading V_reading
  cases hk : okReading n rd k v with
  | false => exact ⟨h1, h2, h3, h4, h5, h6, h7, h8, h9, h10, h11⟩
  | true =>
    unfold okReading at hk
    rw [Bool.and_eq_true, Bool.and_eq_true] at hk
    have e1 := has_cl h1 hk.1
    have e2 := rg_cl (by decide) (by decide) hk.2.1
    have e3 := of_decide_eq_true hk.2.2
    rw [if_pos rfl, if_pos rfl, if_pos rfl]
    refine ⟨h1, h2, h3, h4, h5, h6, by omega, ?_, updN_b h9 (by omega), h10, h11⟩
    intro r hr
    unfold updN
    split
    · exact e1
    · exact h8 r (by omega)
theorem st_back (h : stB n fo ki st we lo rd rc rv sla sle) : stB n fo ki st we lo (S_back rd k) rc rv sla sle := by
  obtain ⟨h1, h2, h3, h4, h5, h6, h7, h8, h9, h10, h11⟩ := h
  have e : S_back rd k ≤ rd := by
    unfold S_back
    split <;> omega
  exact ⟨h1, h2, h3, h4, h5, h6, by omega, fun r hr => h8 r (by omega), h9, h10, h11⟩
theorem up_b {f : Nat → Nat} {j u b : Nat} (h : ∀ x, f x ≤ b) (hu : u ≤ b) : ∀ x, va_up f j u x ≤ b := by
  intro x
  unfold va_up
  split
  · exact hu
  · exact h x
theorem st_sheet (h : stB n fo ki st we lo rd rc rv sla sle) : stB n fo ki st we lo rd rc rv (ifU (okSheet k v w) sla k.toNatClampNeg v.toNatClampNeg) (ifU (okSheet k v w) sle k.toNatClampNeg w.toNatClampNeg) := by
  obtain ⟨h1, h2, h3, h4, h5, h6, h7, h8, h9, h10, h11⟩ := h
  refine ⟨h1, h2, h3, h4, h5, h6, h7, h8, h9, ?_, ?_⟩
  · unfold ifU
    split
    · rename_i hc
      unfold okSheet at hc
      rw [Bool.and_eq_true, Bool.and_eq_true] at hc
      have := rg_cl (by decide) (by decide) hc.2.1
      exact up_b h10 (by omega)
    · exact h10
  · unfold ifU
    split
    · rename_i hc
      unfold okSheet at hc
      rw [Bool.and_eq_true, Bool.and_eq_true] at hc
      have := rg_cl (by decide) (by decide) hc.2.2
      exact up_b h11 (by omega)
    · exact h11
theorem tk_b {T : Nat → Int32} {c m b : Nat} {g : (Nat → Int32) → Nat → Nat} {old : Nat → Nat} (h : ∀ i, i < m → g T i ≤ b) (h2 : ∀ j, old j ≤ b) : ∀ j, tkF m (g T) old j ≤ b := by
  intro j
  unfold tkF
  split
  · rename_i hj; exact h j hj
  · exact h2 j
theorem tki_le {T : Nat → Int32} {i : Nat} : kiT T i ≤ 2 := by
  unfold kiT kindC
  repeat' split
  all_goals omega
theorem tks_le {T : Nat → Int32} {c i : Nat} (h : okT T c = true) (hi : i < (c - 1) / 5) : stT T i ≤ 3 := by
  obtain ⟨h1, h2, h3, h4⟩ := okT_f h
  have e := (fig_of (by decide) (gon_2 (by omega) (h4 (2 + i * 5 + 1) (by omega)))).2.2
  unfold stT
  omega
theorem tkw_le {T : Nat → Int32} {c i : Nat} (h : okT T c = true) (hi : i < (c - 1) / 5) : weT T i ≤ 9 := by
  obtain ⟨h1, h2, h3, h4⟩ := okT_f h
  have e := (fig_of (by decide) (gon_3 (by omega) (h4 (2 + i * 5 + 2) (by omega)))).2.2
  unfold weT
  omega
theorem tkl_le {T : Nat → Int32} {c i : Nat} (h : okT T c = true) (hi : i < (c - 1) / 5) : loT T i ≤ 3 := by
  obtain ⟨h1, h2, h3, h4⟩ := okT_f h
  have e := (fig_of (by decide) (gon_4 (by omega) (h4 (2 + i * 5 + 3) (by omega)))).2.2
  unfold loT
  omega
theorem st_front {sh : Nat → Bool} {sf : Nat → Nat → Int32} {la i ct : Int32} (h : stB n fo ki st we lo rd rc rv sla sle) :
    stB (ifO (okFront sh sla sle sf k la i ct) (numT ct) n) (ifO (okFront sh sla sle sf k la i ct) 0 fo) (ifO (okFront sh sla sle sf k la i ct) (tkF (numT ct) (kiT (textA (sf k.toNatClampNeg) i.toNatClampNeg)) ki) ki) (ifO (okFront sh sla sle sf k la i ct) (tkF (numT ct) (stT (textA (sf k.toNatClampNeg) i.toNatClampNeg)) st) st) (ifO (okFront sh sla sle sf k la i ct) (tkF (numT ct) (weT (textA (sf k.toNatClampNeg) i.toNatClampNeg)) we) we) (ifO (okFront sh sla sle sf k la i ct) (tkF (numT ct) (loT (textA (sf k.toNatClampNeg) i.toNatClampNeg)) lo) lo) (ifO (okFront sh sla sle sf k la i ct) 0 rd) rc rv sla sle := by
  cases hk : okFront sh sla sle sf k la i ct with
  | false => exact h
  | true =>
    obtain ⟨h1, h2, h3, h4, h5, h6, h7, h8, h9, h10, h11⟩ := h
    unfold okFront at hk
    simp only [Bool.and_eq_true] at hk
    have ho := hk.2.2.2
    obtain ⟨o1, o2, o3, o4⟩ := okT_f ho
    refine ⟨?_, show 0 < 256 by decide, tk_b (c := 0) (fun _ _ => tki_le) h3, tk_b (c := 0) (fun _ hi => tks_le ho hi) h4, tk_b (c := 0) (fun _ hi => tkw_le ho hi) h5, tk_b (c := 0) (fun _ hi => tkl_le ho hi) h6, show 0 ≤ 8 by decide, fun r hr => absurd hr (Nat.not_lt_zero r), h9, h10, h11⟩
    show numT ct ≤ 8
    unfold numT
    omega
end ST
/-! the sheets' cells on both sides -/
section BG
variable {bg : Nat → Int32} {k i k2 i2 ct v : Int32} {sh : Nat → Bool} {sla sle : Nat → Nat}
theorem bg_put {x : Int32} (hsle : ∀ j, sle j ≤ 60) : ∀ j y, y < 60 → ifU (okPut sh sle k i) (bigF bg) k.toNatClampNeg (upd (bigF bg k.toNatClampNeg) i.toNatClampNeg x) j y = bigF (ifO (okPut sh sle k i) (upd bg (60 * k.toNatClampNeg + i.toNatClampNeg) x) bg) j y := by
  intro j y hy
  cases hk : okPut sh sle k i with
  | false => rfl
  | true =>
    unfold okPut at hk
    rw [Bool.and_eq_true, Bool.and_eq_true] at hk
    obtain ⟨u, hu, rfl⟩ := hldB_at hk.2.2
    have := hsle k.toNatClampNeg
    rw [cl8 (j := u) (by omega)]
    generalize k.toNatClampNeg = a at *
    show va_up (bigF bg) a (upd (bigF bg a) u x) j y = upd bg (60 * a + u) x (60 * j + y)
    unfold va_up upd
    by_cases hj : j = a
    · subst hj
      rw [if_pos rfl]
      by_cases hyu : y = u
      · subst hyu; rw [if_pos rfl, if_pos rfl]
      · rw [if_neg hyu, if_neg (by omega)]; rfl
    · rw [if_neg hj, if_neg (by omega)]; rfl
theorem bg_sheet : ∀ j y, y < 60 → ifU (okSheet k v i) (bigF bg) k.toNatClampNeg (clrF i.toNatClampNeg (bigF bg k.toNatClampNeg)) j y = bigF (ifO (okSheet k v i) (clG i.toNatClampNeg (60 * k.toNatClampNeg) bg) bg) j y := by
  intro j y hy
  cases hk : okSheet k v i with
  | false => rfl
  | true =>
    unfold okSheet at hk
    rw [Bool.and_eq_true, Bool.and_eq_true] at hk
    have h := rg_cl (by decide) (by decide) hk.2.2
    generalize i.toNatClampNeg = u at *
    generalize k.toNatClampNeg = a at *
    show va_up (bigF bg) a (clrF u (bigF bg a)) j y = clG u (60 * a) bg (60 * j + y)
    unfold va_up clrF clG
    by_cases hj : j = a
    · subst hj
      rw [if_pos rfl]
      by_cases hyu : y < u
      · rw [if_pos hyu, if_pos (by omega)]
      · rw [if_neg hyu, if_neg (by omega)]; rfl
    · rw [if_neg hj, if_neg (by omega)]; rfl
theorem bg_copy (hsle : ∀ j, sle j ≤ 60) : ∀ j y, y < 60 → ifU (okCopy sh sla sle k i k2 i2 ct) (bigF bg) k2.toNatClampNeg (va_cpy (bigF bg k.toNatClampNeg) (bigF bg k2.toNatClampNeg) i.toNatClampNeg i2.toNatClampNeg ct.toNatClampNeg) j y = bigF (ifO (okCopy sh sla sle k i k2 i2 ct) (cpG (60 * k.toNatClampNeg + i.toNatClampNeg) (60 * k2.toNatClampNeg + i2.toNatClampNeg) ct.toNatClampNeg bg) bg) j y := by
  intro j y hy
  cases hk : okCopy sh sla sle k i k2 i2 ct with
  | false => rfl
  | true =>
    unfold okCopy at hk
    simp only [Bool.and_eq_true] at hk
    obtain ⟨u, c, hu, rfl, rfl⟩ := hldB_nat hk.2.2.2.1
    have g1 := hsle k.toNatClampNeg
    have g2 := hsle k2.toNatClampNeg
    obtain ⟨w, hw, rfl⟩ := hldB_nat2 (by omega) hk.2.2.2.2
    rw [cl8 (j := u) (by omega), cl8 (j := c) (by omega), cl8 (j := w) (by omega)]
    generalize k.toNatClampNeg = a at *
    generalize k2.toNatClampNeg = d at *
    show va_up (bigF bg) d (va_cpy (bigF bg a) (bigF bg d) u w c) j y = cpG (60 * a + u) (60 * d + w) c bg (60 * j + y)
    unfold va_up va_cpy cpG
    by_cases hj : j = d
    · subst hj
      rw [if_pos rfl]
      by_cases hyu : w ≤ y ∧ y < w + c
      · rw [if_pos hyu, if_pos (by omega)]
        unfold bigF
        congr 1
        omega
      · rw [if_neg hyu, if_neg (by omega)]; rfl
    · rw [if_neg hj, if_neg (by omega)]; rfl
end BG
theorem wX_sf {D : va_G} {H : Heap} {cI cS : ClassId} {ad : Nat → Nat} {sh : Nat → Bool} {sla sle : Nat → Nat} {sf g : Nat → Nat → Int32} {n fo : Nat} {ki st we lo : Nat → Nat} {n2 go : Nat} {kj sj wj lj : Nat → Nat} {ti : Nat → Int32} {rc rv : Nat → Nat} {rd : Nat} {tr : Int32} {fa : Nat}
    (hP : va_P D vwCl (wX cI cS ad sh sla sle sf n fo ki st we lo n2 go kj sj wj lj ti rc rv rd tr fa) H) (h : ∀ j y, y < 60 → sf j y = g j y) : va_P D vwCl (wX cI cS ad sh sla sle g n fo ki st we lo n2 go kj sj wj lj ti rc rv rd tr fa) H := by
  have h1 := hP.fn 3 (g := g 0) rfl (h 0)
  have h2 := h1.fn 5 (g := g 1) rfl (h 1)
  have h3 := h2.fn 7 (g := g 2) rfl (h 2)
  exact h3.fn 9 (g := g 3) rfl (h 3)
