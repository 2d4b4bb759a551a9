theorem min8 {a : Nat} (h : a ≤ 8) : (if nI 8 < nI a then nI 8 else nI a) = nI a := by
  rw [if_neg (nI_nlt h (by omega))]
theorem ffT_none {T : Nat → Int32} {c : Nat} (h : ∀ p, p < c → (!gonB p (T p)) = false) : ffT T c = none := firstV_none h
theorem firstV_n {P : Nat → Bool} : ∀ {m : Nat}, firstV P m = none → ∀ v, v < m → P v = false
  | m + 1, h, v, hv => by
    have h : (match firstV P m with | some v => some v | none => if P m then some m else none) = none := h
    cases ho : firstV P m with
    | some z => rw [ho] at h; cases h
    | none =>
      rw [ho] at h
      by_cases hm : v < m
      · exact firstV_n ho v hm
      · have : v = m := by omega
        subst this
        cases hp : P v with
        | false => rfl
        | true => rw [hp] at h; cases h
theorem okT_f {T : Nat → Int32} {c : Nat} (h : okT T c = true) : 10 < c ∧ (c - 1) % 5 = 0 ∧ c ≤ 41 ∧ ∀ p, p < c → gonB p (T p) = true := by
  unfold okT wholeB at h
  cases ho : ffT T c with
  | some p => rw [ho] at h; simp at h
  | none =>
    rw [ho] at h
    simp only [Bool.true_and, Bool.and_eq_true, decide_eq_true_eq] at h
    have hg : ∀ p, p < c → gonB p (T p) = true := fun p hp => by
      have := firstV_n ho p hp
      simpa using this
    refine ⟨h.1, h.2, ?_, hg⟩
    rcases Nat.lt_or_ge 41 c with h41 | h41
    · have h2 := hg 41 h41
      unfold gonB at h2
      rw [if_neg (by decide), if_pos (by decide)] at h2
      cases h2
    · exact h41
theorem gon_1 {i : Nat} {x : Int32} (hi : i < 8) (h : gonB (2 + i * 5) x = true) : kdF x = nI (kindC x) := by
  unfold gonB at h
  rw [if_neg (by omega), if_neg (by omega), if_neg (by omega), if_pos (by omega)] at h
  have h : ¬ kdF x = -9 := by simpa using h
  unfold kdF at h ⊢
  unfold kindC
  by_cases h1 : x = nI 98
  · rw [if_pos h1, if_pos h1]
  · rw [if_neg h1] at h ⊢
    rw [if_neg h1]
    by_cases h2 : x = nI 112
    · rw [if_pos h2, if_pos h2]
    · rw [if_neg h2] at h ⊢
      rw [if_neg h2]
      by_cases h3 : x = nI 115
      · rw [if_pos h3]
      · rw [if_neg h3] at h; exact absurd rfl h
theorem fig_of {x : Int32} {a b : Int} (ha : 0 ≤ a) (h : rgB a b (x - nI 48) = true) : x - nI 48 = nI (figC x) ∧ a ≤ (figC x : Int) ∧ (figC x : Int) ≤ b := by
  have h := of_decide_eq_true h
  have e := nI_ofT (k := x - nI 48) (by omega)
  refine ⟨e, ?_, ?_⟩
  · show a ≤ ((x - nI 48).toInt.toNat : Int); omega
  · show ((x - nI 48).toInt.toNat : Int) ≤ b; omega
theorem rg_sub {x : Int32} : rgB 49 57 x = rgB 1 9 (x - nI 48) := by
  have hx1 := Int32.le_toInt x
  have hx2 := Int32.toInt_lt x
  have e : (x - nI 48).toInt = (x.toInt - 48).bmod (2 ^ 32) := by rw [Int32.toInt_sub]; rfl
  unfold rgB
  rw [e]
  have hb : (x.toInt - 48).bmod (2 ^ 32) = x.toInt - 48 ∨ (x.toInt < -2147483600 ∧ (x.toInt - 48).bmod (2 ^ 32) = x.toInt - 48 + 4294967296) := by
    by_cases h : x.toInt < -2147483600
    · right
      refine ⟨h, ?_⟩
      rw [← Int.add_bmod_right]
      exact Int.bmod_eq_of_le (by omega) (by omega)
    · left
      exact Int.bmod_eq_of_le (by omega) (by omega)
  congr 1
  apply propext
  rcases hb with h | ⟨h0, h⟩ <;> rw [h] <;> omega
theorem gon_2 {i : Nat} {x : Int32} (hi : i < 8) (h : gonB (2 + i * 5 + 1) x = true) : rgB 0 3 (x - nI 48) = true := by
  unfold gonB at h
  rw [if_neg (by omega), if_neg (by omega), if_neg (by omega), if_neg (by omega), if_pos (by omega)] at h
  exact h
theorem gon_3 {i : Nat} {x : Int32} (hi : i < 8) (h : gonB (2 + i * 5 + 2) x = true) : rgB 1 9 (x - nI 48) = true := by
  unfold gonB at h
  rw [if_neg (by omega), if_neg (by omega), if_neg (by omega), if_neg (by omega), if_neg (by omega), if_pos (by omega)] at h
  rw [← rg_sub]
  exact h
theorem gon_4 {i : Nat} {x : Int32} (hi : i < 8) (h : gonB (2 + i * 5 + 3) x = true) : rgB 0 3 (x - nI 48) = true := by
  unfold gonB at h
  rw [if_neg (by omega), if_neg (by omega), if_neg (by omega), if_neg (by omega), if_neg (by omega), if_neg (by omega)] at h
  exact h
section TK
variable {F : Nat → Int32} {u c i : Nat}
theorem tk_ki (h : okT (textA F u) c = true) (hi : i < (c - 1) / 5) : kdF (F (u + 2 + i * 5)) = nI (kiT (textA F u) i) := by
  obtain ⟨h1, h2, h3, h4⟩ := okT_f h
  have e := gon_1 (by omega) (h4 (2 + i * 5) (by omega))
  rw [show u + 2 + i * 5 = u + (2 + i * 5) by omega]
  exact e
theorem tk_st (h : okT (textA F u) c = true) (hi : i < (c - 1) / 5) : F (u + 2 + i * 5 + 1) - nI 48 = nI (stT (textA F u) i) := by
  obtain ⟨h1, h2, h3, h4⟩ := okT_f h
  have e := (fig_of (by decide) (gon_2 (by omega) (h4 (2 + i * 5 + 1) (by omega)))).1
  rw [show u + 2 + i * 5 + 1 = u + (2 + i * 5 + 1) by omega]
  exact e
theorem tk_we (h : okT (textA F u) c = true) (hi : i < (c - 1) / 5) : F (u + 2 + i * 5 + 2) - nI 48 = nI (weT (textA F u) i) := by
  obtain ⟨h1, h2, h3, h4⟩ := okT_f h
  have e := (fig_of (by decide) (gon_3 (by omega) (h4 (2 + i * 5 + 2) (by omega)))).1
  rw [show u + 2 + i * 5 + 2 = u + (2 + i * 5 + 2) by omega]
  exact e
theorem tk_lo (h : okT (textA F u) c = true) (hi : i < (c - 1) / 5) : F (u + 2 + i * 5 + 3) - nI 48 = nI (loT (textA F u) i) := by
  obtain ⟨h1, h2, h3, h4⟩ := okT_f h
  have e := (fig_of (by decide) (gon_4 (by omega) (h4 (2 + i * 5 + 3) (by omega)))).1
  rw [show u + 2 + i * 5 + 3 = u + (2 + i * 5 + 3) by omega]
  exact e
end TK
def fftR (T : Nat → Int32) (c : Nat) : Int32 := if okT T c then -9 else nI (plT T c)
theorem firstV_lt {P : Nat → Bool} : ∀ {m v : Nat}, firstV P m = some v → v < m
  | m + 1, v, h => by
    have h : (match firstV P m with | some v => some v | none => if P m then some m else none) = some v := h
    cases ho : firstV P m with
    | some z =>
      rw [ho] at h
      cases h
      exact Nat.lt_succ_of_lt (firstV_lt ho)
    | none =>
      rw [ho] at h
      by_cases hp : P m = true
      · rw [if_pos hp] at h; cases h; exact Nat.lt_succ_self _
      · rw [if_neg hp] at h; cases h
theorem plT_le {T : Nat → Int32} {c : Nat} : plT T c ≤ c := by
  unfold plT
  cases ho : ffT T c with
  | none => exact Nat.le_refl _
  | some p => exact Nat.le_of_lt (firstV_lt ho)
theorem nI_m9 {j : Nat} (h : j < 2 ^ 31) : ¬ nI j = -9 := by
  intro e
  have h2 := nI_toInt h
  rw [e] at h2
  have h3 : (-9 : Int32).toInt = -9 := by decide
  omega
theorem okE {T : Nat → Int32} {c : Nat} (hc : c ≤ 60) (h : fftR T c = -9) : okT T c = true := by
  unfold fftR at h
  cases ho : okT T c with
  | true => rfl
  | false =>
    rw [ho] at h
    have := plT_le (T := T) (c := c)
    exact absurd h (nI_m9 (by omega))
theorem okN {T : Nat → Int32} {c : Nat} (h : ¬ fftR T c = -9) : okT T c = false := by
  unfold fftR at h
  cases ho : okT T c with
  | false => rfl
  | true => rw [ho] at h; exact absurd rfl h
theorem hldB_neg {le : Nat} {i k : Int32} (h : k.toInt < 0) : hldB le i k = false := decide_eq_false (by omega)
