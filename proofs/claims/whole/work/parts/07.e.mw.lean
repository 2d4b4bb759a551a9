/-! ===== the model's wards: cuts told by the chairs that begin, from the left ===== -/
/-- the class's cuts for the model's -/
def rvN (n c : Nat) : Nat := setN (fun j => decide (j = n - 1) || c.testBit (n - 1 - j)) n
def uvN (n d : Nat) : Nat := setN (fun j => decide (0 < j) && d.testBit (n - 1 - j)) n
theorem rv_cut {n c m : Nat} (hm : m < n) : cutB n (rvN n c) m = (decide (m = 0) || c.testBit m) := by
  unfold cutB rvN
  rw [setN_bit, decide_eq_true (show n - 1 - m < n by omega), Bool.true_and]
  rw [show n - 1 - (n - 1 - m) = m by omega]
  congr 2
  apply propext
  omega
theorem rv_bit {n c j : Nat} : (rvN n c).testBit j = (decide (j < n) && (decide (j = n - 1) || c.testBit (n - 1 - j))) := setN_bit _ _ _
theorem uv_bit {n d j : Nat} : (uvN n d).testBit j = (decide (j < n) && (decide (0 < j) && d.testBit (n - 1 - j))) := setN_bit _ _ _
theorem rv_lt {n c : Nat} : rvN n c < 2 ^ n := setN_lt _ _
theorem uv_lt {n d : Nat} : uvN n d < 2 ^ n := setN_lt _ _
theorem rv_ge {n c : Nat} (hn : 0 < n) : 2 ^ (n - 1) ≤ rvN n c := by
  have h : (rvN n c).testBit (n - 1) = true := by
    rw [rv_bit, decide_eq_true (show n - 1 < n by omega), decide_eq_true rfl]; rfl
  exact Nat.ge_two_pow_of_testBit h
theorem uv_even {n d : Nat} : uvN n d % 2 = 0 := by
  have h : (uvN n d).testBit 0 = false := by rw [uv_bit]; simp
  rw [Nat.testBit_zero] at h
  have := of_decide_eq_false h
  omega
theorem rv_uv {n d : Nat} (hn : 0 < n) (h1 : 2 ^ (n - 1) ≤ d) (h2 : d < 2 ^ n) : rvN n (uvN n d) = d := by
  apply Nat.eq_of_testBit_eq
  intro j
  rw [rv_bit]
  by_cases hj : j < n
  · rw [decide_eq_true hj, Bool.true_and]
    by_cases hj1 : j = n - 1
    · subst hj1
      rw [decide_eq_true rfl, Bool.true_or]
      have h3 : d.testBit (n - 1) = true := by
        have e : 2 ^ n = 2 ^ (n - 1) + 2 ^ (n - 1) := by
          rw [← Nat.mul_two, ← Nat.pow_succ]
          congr 1
          omega
        obtain ⟨x, rfl⟩ : ∃ x, d = 2 ^ (n - 1) + x := ⟨d - 2 ^ (n - 1), by omega⟩
        exact bit_top (by omega)
      exact h3.symm
    · rw [decide_eq_false hj1, Bool.false_or, uv_bit, decide_eq_true (show n - 1 - j < n by omega), decide_eq_true (show 0 < n - 1 - j by omega)]
      rw [show n - 1 - (n - 1 - j) = j by omega]; rfl
  · rw [decide_eq_false hj, Bool.false_and]
    exact (Nat.testBit_lt_two_pow (Nat.lt_of_lt_of_le h2 (Nat.pow_le_pow_right (by decide) (by omega)))).symm
theorem rv_pop : ∀ n, n < 9 → ∀ c, c < 2 ^ (n - 1) → 0 < n → popN (rvN n (2 * c)) = popN (2 * c) + 1 := by decide +kernel
theorem pop_lt : ∀ n, n < 9 → ∀ c, c < 2 ^ (n - 1) → 0 < n → popN (2 * c) + 1 ≤ n := by decide +kernel
theorem pop_any : ∀ q, q < 9 → 0 < q → popN (2 * (2 ^ (q - 1) - 1)) + 1 = q := by decide +kernel
theorem lowb : ∀ x, x < 256 → nI x &&& -nI x = nI (x &&& (256 - x)) := by decide +kernel
/-- one row of wards is ahead of another -/
def iahB (a b : Nat) : Bool := !decide (((a ^^^ b) &&& (256 - (a ^^^ b))) &&& a = 0)
theorem iah_rv : ∀ n, n < 9 → ∀ a, a < 2 ^ (n - 1) → ∀ b, b < 2 ^ (n - 1) → 0 < n → iahB (2 * a) (2 * b) = decide (rvN n (2 * b) < rvN n (2 * a)) := by decide +kernel
/-! won, ward by ward, each told as it ends -/
def wmS (n : Nat) (b : Nat → Bool) (t : Nat → Int) : Nat → Nat × Int
  | 0 => (0, 0)
  | k + 1 => if decide (k + 1 = n) || b (k + 1) then ((wmS n b t k).1 + (if 0 < (wmS n b t k).2 + t k then 1 else 0), 0) else ((wmS n b t k).1, (wmS n b t k).2 + t k)
theorem wm_y {n : Nat} {b : Nat → Bool} {t : Nat → Int} {k : Nat} (h : (decide (k + 1 = n) || b (k + 1)) = true) : wmS n b t (k + 1) = ((wmS n b t k).1 + (if 0 < (wmS n b t k).2 + t k then 1 else 0), 0) := by
  show (if decide (k + 1 = n) || b (k + 1) then _ else _) = _
  rw [if_pos h]
theorem wm_n {n : Nat} {b : Nat → Bool} {t : Nat → Int} {k : Nat} (h : (decide (k + 1 = n) || b (k + 1)) = false) : wmS n b t (k + 1) = ((wmS n b t k).1, (wmS n b t k).2 + t k) := by
  show (if decide (k + 1 = n) || b (k + 1) then _ else _) = _
  rw [if_neg (by rw [h]; decide)]
theorem wmS_b {n : Nat} {b : Nat → Bool} {t : Nat → Int} (h : ∀ j, -10 ≤ t j ∧ t j ≤ 10) : ∀ m : Nat, -(10 * (m : Int)) ≤ (wmS n b t m).2 ∧ (wmS n b t m).2 ≤ 10 * (m : Int) ∧ (wmS n b t m).1 ≤ m
  | 0 => by simp [wmS]
  | m + 1 => by
    have h1 := wmS_b (n := n) (b := b) h m
    have h2 := h m
    unfold wmS
    split
    · dsimp only
      refine ⟨by omega, by omega, ?_⟩
      split <;> omega
    · dsimp only
      refine ⟨by omega, by omega, by omega⟩
theorem wm_ww {n : Nat} {b B : Nat → Bool} {t : Nat → Int} (hB : ∀ j, j < n → B j = (decide (j = 0) || b j)) : ∀ k, k < n → wwS B t (k + 1) = ((wmS n b t k).1, (wmS n b t k).2 + t k)
  | 0, h0 => by
    have e : B 0 = true := by rw [hB 0 h0]; rfl
    rw [ww_y e]
    simp [wwS, wmS]
  | k + 1, h => by
    have ih := wm_ww (t := t) hB k (by omega)
    have e : B (k + 1) = b (k + 1) := by
      rw [hB (k + 1) h, decide_eq_false (by omega), Bool.false_or]
    cases hb : b (k + 1) with
    | true =>
      rw [ww_y (e.trans hb), wm_y (by rw [hb, Bool.or_true]), ih]
      simp
    | false =>
      rw [ww_n (e.trans hb), wm_n (by rw [hb, Bool.or_false]; exact decide_eq_false (by omega)), ih]
theorem wm_won {n : Nat} {b B : Nat → Bool} {t : Nat → Int} (hn : 0 < n) (hB : ∀ j, j < n → B j = (decide (j = 0) || b j)) : (wmS n b t n).1 = wwN B t n := by
  obtain ⟨m, rfl⟩ : ∃ m, n = m + 1 := ⟨n - 1, by omega⟩
  have e := wm_ww (t := t) hB m (Nat.lt_succ_self m)
  rw [wm_y (by rw [decide_eq_true rfl, Bool.true_or])]
  unfold wwN
  rw [e]
  dsimp only
  split <;> rfl
theorem wm_win {n fo : Nat} {ki st we lo : Nat → Nat} {c : Nat} (hn : 0 < n) : (wmS n (fun j => c.testBit j) (tiN n fo ki st we lo) n).1 = winX n fo ki st we lo (rvN n c) := wm_won hn (fun j hj => rv_cut hj)
section TM
variable {n fo : Nat} {ki st we lo : Nat → Nat} {i : Nat} {z : Int}
theorem tm_1 (h : sdN n fo st lo i = 1) : zI z + nI (voN fo ki we i) = zI (z + tiN n fo ki st we lo i) := by
  unfold tiN
  rw [if_pos h, ← zI_add, zI_nat]
theorem tm_2 (h1 : ¬ sdN n fo st lo i = 1) (h2 : sdN n fo st lo i = 2) : zI z + -nI (voN fo ki we i) = zI (z + tiN n fo ki st we lo i) := by
  unfold tiN
  rw [if_neg h1, if_pos h2, ← zI_add, zI_neg]
theorem tm_3 (h1 : ¬ sdN n fo st lo i = 1) (h2 : ¬ sdN n fo st lo i = 2) : zI z + nI 0 = zI (z + tiN n fo ki st we lo i) := by
  unfold tiN
  rw [if_neg h1, if_neg h2, ← zI_add, zI_0]
end TM
/-! the fairest, from no cut on -/
def moC (W : Nat → Nat) (q : Nat) (o : Option Nat) (c : Nat) : Bool := decide (popN c + 1 = q) && (match o with | none => true | some b => decide (W b < W c) || (decide (W c = W b) && iahB c b))
theorem moC_n {W : Nat → Nat} {q c : Nat} : moC W q none c = decide (popN c + 1 = q) := by
  show (decide (popN c + 1 = q) && true) = _
  rw [Bool.and_true]
theorem moC_s {W : Nat → Nat} {q c b : Nat} : moC W q (some b) c = (decide (popN c + 1 = q) && (decide (W b < W c) || (decide (W c = W b) && iahB c b))) := rfl
def moO (W : Nat → Nat) (q : Nat) : Nat → Option Nat
  | 0 => none
  | i + 1 => if moC W q (moO W q i) (2 * i) then some (2 * i) else moO W q i
theorem mo_y {W : Nat → Nat} {q i : Nat} (h : moC W q (moO W q i) (2 * i) = true) : moO W q (i + 1) = some (2 * i) := by
  show (if moC W q (moO W q i) (2 * i) then some (2 * i) else moO W q i) = _
  rw [if_pos h]
theorem mo_f {W : Nat → Nat} {q i : Nat} (h : moC W q (moO W q i) (2 * i) = false) : moO W q (i + 1) = moO W q i := by
  show (if moC W q (moO W q i) (2 * i) then some (2 * i) else moO W q i) = _
  rw [if_neg (by rw [h]; decide)]
def optM (W : Nat → Nat) (o : Option Nat) : Int32 := match o with
  | none => -9
  | some b => nI (W b)
theorem optM_t {W : Nat → Nat} (hW : ∀ c, W c < 1000) (o : Option Nat) : (o = none ∧ (optM W o).toInt = -9) ∨ ∃ b, o = some b ∧ (optM W o).toInt = (W b : Int) := by
  cases o with
  | none => exact Or.inl ⟨rfl, show (-9 : Int32).toInt = -9 by decide⟩
  | some b =>
    have := hW b
    exact Or.inr ⟨b, rfl, nI_toInt (by omega)⟩
theorem mo_n {W : Nat → Nat} {q i : Nat} (h : ¬ popN (2 * i) + 1 = q) : moO W q (i + 1) = moO W q i := mo_f (by
  unfold moC
  rw [decide_eq_false h]; rfl)
theorem mo_gt {W : Nat → Nat} {q i : Nat} (hW : ∀ c, W c < 1000) (h : popN (2 * i) + 1 = q) (h2 : (optM W (moO W q i)).toInt < (W (2 * i) : Int)) : moO W q (i + 1) = some (2 * i) := mo_y (by
  rcases optM_t hW (moO W q i) with ⟨e, -⟩ | ⟨b, e, e2⟩
  · rw [e, moC_n, decide_eq_true h]
  · rw [e2] at h2
    rw [e, moC_s, decide_eq_true h, decide_eq_true (show W b < W (2 * i) by omega)]; rfl)
theorem mo_le {W : Nat → Nat} {q i : Nat} (hW : ∀ c, W c < 1000) (h2 : ¬ (optM W (moO W q i)).toInt < (W (2 * i) : Int)) (h3 : ¬ nI (W (2 * i)) = optM W (moO W q i)) : moO W q (i + 1) = moO W q i := mo_f (by
  rcases optM_t hW (moO W q i) with ⟨e, e2⟩ | ⟨b, e, e2⟩
  · rw [e2] at h2; omega
  · rw [e2] at h2
    rw [e] at h3 ⊢
    have h4 : ¬ W (2 * i) = W b := fun z => h3 (by rw [z]; rfl)
    rw [moC_s, decide_eq_false (show ¬ W b < W (2 * i) by omega), decide_eq_false h4, Bool.false_and, Bool.false_or, Bool.and_false])
theorem mo_some {W : Nat → Nat} {q i : Nat} (hW : ∀ c, W c < 1000) (h3 : nI (W (2 * i)) = optM W (moO W q i)) : ∃ b, moO W q i = some b ∧ W (2 * i) = W b := by
  have h1 := hW (2 * i)
  have e0 : (nI (W (2 * i))).toInt = (W (2 * i) : Int) := nI_toInt (by omega)
  rw [h3] at e0
  rcases optM_t hW (moO W q i) with ⟨e, e2⟩ | ⟨b, e, e2⟩
  · omega
  · exact ⟨b, e, by omega⟩
theorem mo_eqn {W : Nat → Nat} {q i b : Nat} (hb : moO W q i = some b) (hw : W (2 * i) = W b) (h : iahB (2 * i) b = false) : moO W q (i + 1) = moO W q i := mo_f (by
  rw [hb, moC_s, h, decide_eq_false (show ¬ W b < W (2 * i) by omega), Bool.and_false, Bool.false_or, Bool.and_false])
theorem mo_eqy {W : Nat → Nat} {q i b : Nat} (hb : moO W q i = some b) (hw : W (2 * i) = W b) (h0 : popN (2 * i) + 1 = q) (h : iahB (2 * i) b = true) : moO W q (i + 1) = some (2 * i) := mo_y (by
  rw [hb, moC_s, h, decide_eq_true hw, decide_eq_true h0, Bool.true_and, Bool.true_and, Bool.or_true])
theorem mo_nz {W : Nat → Nat} (hW : ∀ c, W c < 1000) {o : Option Nat} (h : (optM W o).toInt < -9) : False := by
  rcases optM_t hW o with ⟨e, e2⟩ | ⟨b, e, e2⟩ <;> omega
theorem mo_ev {W : Nat → Nat} {q : Nat} : ∀ {i b : Nat}, moO W q i = some b → ∃ j, j < i ∧ b = 2 * j ∧ popN (2 * j) + 1 = q
  | i + 1, b, h => by
    cases hc : moC W q (moO W q i) (2 * i) with
    | true =>
      rw [mo_y hc] at h
      cases h
      unfold moC at hc
      rw [Bool.and_eq_true] at hc
      exact ⟨i, Nat.lt_succ_self _, rfl, of_decide_eq_true hc.1⟩
    | false =>
      rw [mo_f hc] at h
      obtain ⟨j, h1, h2⟩ := mo_ev h
      exact ⟨j, by omega, h2⟩
/-- the best of the first i is no less than any of them -/
theorem mo_max {W : Nat → Nat} {q n : Nat} (hn : n < 9) (hn0 : 0 < n) : ∀ i, i ≤ 2 ^ (n - 1) → ∀ j, j < i → popN (2 * j) + 1 = q → ∃ b, moO W q i = some b ∧ (W (2 * j) < W b ∨ (W (2 * j) = W b ∧ rvN n (2 * j) ≤ rvN n b))
  | i + 1, hi, j, hj, hq => by
    by_cases hji : j = i
    · subst hji
      cases ho : moO W q j with
      | none => exact ⟨2 * j, mo_y (by rw [ho, moC_n, decide_eq_true hq]), Or.inr ⟨rfl, Nat.le_refl _⟩⟩
      | some b =>
        cases hc : moC W q (moO W q j) (2 * j) with
        | true => exact ⟨2 * j, mo_y hc, Or.inr ⟨rfl, Nat.le_refl _⟩⟩
        | false =>
          refine ⟨b, by rw [mo_f hc, ho], ?_⟩
          rw [ho, moC_s, decide_eq_true hq, Bool.true_and, Bool.or_eq_false_iff] at hc
          have c1 := of_decide_eq_false hc.1
          by_cases hw : W (2 * j) = W b
          · have hc2 := hc.2
            rw [decide_eq_true hw, Bool.true_and] at hc2
            obtain ⟨k, hk, rfl, -⟩ := mo_ev ho
            rw [iah_rv n hn j (by omega) k (by omega) hn0] at hc2
            have := of_decide_eq_false hc2
            exact Or.inr ⟨hw, by omega⟩
          · exact Or.inl (by omega)
    · obtain ⟨b, e, hb⟩ := mo_max (W := W) (q := q) hn hn0 i (by omega) j (by omega) hq
      cases hc : moC W q (moO W q i) (2 * i) with
      | true =>
        refine ⟨2 * i, mo_y hc, ?_⟩
        rw [e, moC_s, Bool.and_eq_true, Bool.or_eq_true] at hc
        obtain ⟨k, hk, rfl, -⟩ := mo_ev e
        rcases hc.2 with h1 | h1
        · have h1 := of_decide_eq_true h1
          exact Or.inl (by omega)
        · rw [Bool.and_eq_true, iah_rv n hn i (by omega) k (by omega) hn0] at h1
          have h2 := of_decide_eq_true h1.1
          have h3 := of_decide_eq_true h1.2
          rcases hb with hb | hb
          · exact Or.inl (by omega)
          · exact Or.inr ⟨by omega, by omega⟩
      | false => exact ⟨b, by rw [mo_f hc, e], hb⟩
/-- the class's: the best of the greatest i -/
def fcC (W : Nat → Nat) (q : Nat) (o : Option Nat) (c : Nat) : Bool := decide (popN c = q) && (match o with | none => true | some b => decide (W b < W c))
theorem fc_t {W : Nat → Nat} {q p i : Nat} (h : fcC W q (fcO W q p i) (2 * p - 1 - i) = true) : fcO W q p (i + 1) = some (2 * p - 1 - i) := by
  show (if fcC W q (fcO W q p i) (2 * p - 1 - i) then some (2 * p - 1 - i) else fcO W q p i) = _
  rw [if_pos h]
theorem fc_f {W : Nat → Nat} {q p i : Nat} (h : fcC W q (fcO W q p i) (2 * p - 1 - i) = false) : fcO W q p (i + 1) = fcO W q p i := by
  show (if fcC W q (fcO W q p i) (2 * p - 1 - i) then some (2 * p - 1 - i) else fcO W q p i) = _
  rw [if_neg (by rw [h]; decide)]
theorem fc_ev {W : Nat → Nat} {q p : Nat} : ∀ {i b : Nat}, fcO W q p i = some b → ∃ j, j < i ∧ b = 2 * p - 1 - j ∧ popN b = q
  | i + 1, b, h => by
    cases hc : fcC W q (fcO W q p i) (2 * p - 1 - i) with
    | true =>
      rw [fc_t hc] at h
      cases h
      unfold fcC at hc
      rw [Bool.and_eq_true] at hc
      exact ⟨i, Nat.lt_succ_self _, rfl, of_decide_eq_true hc.1⟩
    | false =>
      rw [fc_f hc] at h
      obtain ⟨j, h1, h2⟩ := fc_ev h
      exact ⟨j, by omega, h2⟩
theorem fc_max {W : Nat → Nat} {q p : Nat} : ∀ i, i ≤ p → ∀ j, j < i → popN (2 * p - 1 - j) = q → ∃ b, fcO W q p i = some b ∧ (W (2 * p - 1 - j) < W b ∨ (W (2 * p - 1 - j) = W b ∧ 2 * p - 1 - j ≤ b))
  | i + 1, hi, j, hj, hq => by
    by_cases hji : j = i
    · subst hji
      cases ho : fcO W q p j with
      | none => exact ⟨2 * p - 1 - j, fc_t (by rw [ho]; unfold fcC; rw [decide_eq_true hq]; rfl), Or.inr ⟨rfl, Nat.le_refl _⟩⟩
      | some b =>
        cases hc : fcC W q (fcO W q p j) (2 * p - 1 - j) with
        | true => exact ⟨2 * p - 1 - j, fc_t hc, Or.inr ⟨rfl, Nat.le_refl _⟩⟩
        | false =>
          refine ⟨b, by rw [fc_f hc, ho], ?_⟩
          have hc : (decide (popN (2 * p - 1 - j) = q) && decide (W b < W (2 * p - 1 - j))) = false := by rw [ho] at hc; exact hc
          rw [decide_eq_true hq, Bool.true_and] at hc
          have c1 := of_decide_eq_false hc
          obtain ⟨k, hk, e, -⟩ := fc_ev ho
          by_cases hw : W (2 * p - 1 - j) = W b
          · exact Or.inr ⟨hw, by omega⟩
          · exact Or.inl (by omega)
    · obtain ⟨b, e, hb⟩ := fc_max (W := W) (q := q) (p := p) i (by omega) j (by omega) hq
      cases hc : fcC W q (fcO W q p i) (2 * p - 1 - i) with
      | true =>
        refine ⟨2 * p - 1 - i, fc_t hc, ?_⟩
        have hc : (decide (popN (2 * p - 1 - i) = q) && decide (W b < W (2 * p - 1 - i))) = true := by rw [e] at hc; exact hc
        rw [Bool.and_eq_true] at hc
        have h1 := of_decide_eq_true hc.2
        rcases hb with hb | hb
        · exact Or.inl (by omega)
        · exact Or.inl (by omega)
      | false => exact ⟨b, by rw [fc_f hc, e], hb⟩
section MW
variable {n fo : Nat} {ki st we lo : Nat → Nat} {q : Nat}
/-- the model's count of wards for its own cuts -/
def winM (n fo : Nat) (ki st we lo : Nat → Nat) (c : Nat) : Nat := winX n fo ki st we lo (rvN n c)
theorem pow_2 {n : Nat} (hn : 0 < n) : 2 ^ n = 2 * 2 ^ (n - 1) := by
  obtain ⟨m, rfl⟩ : ∃ m, n = m + 1 := ⟨n - 1, by omega⟩
  rw [Nat.pow_succ, Nat.mul_comm]; rfl
theorem wd_none (hn : n < 9) (hn0 : 0 < n) (hq0 : 0 < q) (hq : q < 9) (h : moO (winM n fo ki st we lo) q (2 ^ (n - 1)) = none) : n < q := by
  rcases Nat.lt_or_ge n q with h1 | h1
  · exact h1
  · have e : 2 ^ (q - 1) ≤ 2 ^ (n - 1) := Nat.pow_le_pow_right (by decide) (by omega)
    have e0 : 1 ≤ 2 ^ (q - 1) := Nat.one_le_two_pow
    obtain ⟨b, e1, -⟩ := mo_max (W := winM n fo ki st we lo) hn hn0 (2 ^ (n - 1)) (Nat.le_refl _) (2 ^ (q - 1) - 1) (by omega) (pop_any q hq hq0)
    rw [h] at e1
    cases e1
theorem wd_some {b : Nat} (hn : n < 9) (hn0 : 0 < n) (h : moO (winM n fo ki st we lo) q (2 ^ (n - 1)) = some b) : ¬ n < q ∧ bestX n fo ki st we lo q = rvN n b ∧ popN b + 1 = q ∧ b % 2 = 0 ∧ b < 2 ^ n := by
  obtain ⟨j, hj, rfl, hp⟩ := mo_ev h
  have h2 := pop_lt n hn j hj hn0
  have e2 := pow_2 hn0
  refine ⟨by omega, ?_, hp, by omega, by omega⟩
  have g1 := rv_ge (n := n) (c := 2 * j) hn0
  have g2 := rv_lt (n := n) (c := 2 * j)
  have hpr := rv_pop n hn j hj hn0
  obtain ⟨b, e, hb⟩ := fc_max (W := winX n fo ki st we lo) (q := q) (p := 2 ^ (n - 1)) (2 ^ (n - 1)) (Nat.le_refl _) (2 * 2 ^ (n - 1) - 1 - rvN n (2 * j)) (by omega) (by
    rw [show 2 * 2 ^ (n - 1) - 1 - (2 * 2 ^ (n - 1) - 1 - rvN n (2 * j)) = rvN n (2 * j) by omega]; omega)
  rw [show 2 * 2 ^ (n - 1) - 1 - (2 * 2 ^ (n - 1) - 1 - rvN n (2 * j)) = rvN n (2 * j) by omega] at hb
  obtain ⟨k, hk, eb, hpb⟩ := fc_ev e
  have hb1 : 2 ^ (n - 1) ≤ b := by omega
  have hb2 : b < 2 ^ n := by omega
  have ev := uv_even (n := n) (d := b)
  have hl := uv_lt (n := n) (d := b)
  obtain ⟨c, hc⟩ : ∃ c, uvN n b = 2 * c := ⟨uvN n b / 2, by omega⟩
  have er := rv_uv hn0 hb1 hb2
  have hpc := rv_pop n hn c (by omega) hn0
  rw [← hc, er] at hpc
  obtain ⟨b', e', hb'⟩ := mo_max (W := winM n fo ki st we lo) (q := q) hn hn0 (2 ^ (n - 1)) (Nat.le_refl _) c (by omega) (by rw [← hc]; omega)
  rw [h] at e'
  cases e'
  rw [← hc] at hb'
  unfold winM at hb'
  rw [er] at hb'
  unfold bestX
  rw [e]
  show b = _
  rcases hb with hb | hb <;> rcases hb' with hb' | hb' <;> omega
theorem winM_lt (hwe : ∀ j, we j ≤ 9) (hn : n ≤ 8) (c : Nat) : winM n fo ki st we lo c < 1000 := winX_lt hwe hn _
end MW
/-! where a ward begins -/
def bgF (c : Nat) : Nat → Nat → Nat → Nat
  | 0, _, a => a
  | f + 1, lf, a => if lf = 0 then a else bgF c f (if c.testBit (a + 1) then lf - 1 else lf) (a + 1)
theorem bg_fow : ∀ n, n < 9 → ∀ c, c < 2 ^ (n - 1) → ∀ k, k < popN (2 * c) + 1 → 0 < n → fowN n (rvN n (2 * c)) k = some (bgF (2 * c) 7 k 0) := by decide +kernel
theorem bg_fow2 {n b k : Nat} (hn : n < 9) (hn0 : 0 < n) (he : b % 2 = 0) (hb : b < 2 ^ n) (hk : k < popN b + 1) : fowN n (rvN n b) k = some (bgF b 7 k 0) := by
  have e2 := pow_2 hn0
  obtain ⟨c, rfl⟩ : ∃ c, b = 2 * c := ⟨b / 2, by omega⟩
  exact bg_fow n hn c (by omega) k hk hn0
theorem bg_stop {c f a : Nat} : bgF c f 0 a = a := by
  cases f with
  | zero => rfl
  | succ f => rfl
theorem bg_y {c f lf a : Nat} (h0 : ¬ lf = 0) (h : c.testBit (a + 1) = true) : bgF c (f + 1) lf a = bgF c f (lf - 1) (a + 1) := by
  show (if lf = 0 then a else bgF c f (if c.testBit (a + 1) then lf - 1 else lf) (a + 1)) = _
  rw [if_neg h0, if_pos h]
theorem bg_n {c f lf a : Nat} (h0 : ¬ lf = 0) (h : c.testBit (a + 1) = false) : bgF c (f + 1) lf a = bgF c f lf (a + 1) := by
  show (if lf = 0 then a else bgF c f (if c.testBit (a + 1) then lf - 1 else lf) (a + 1)) = _
  rw [if_neg h0, if_neg (by rw [h]; decide)]
theorem cnt_s {P : Nat → Bool} {i : Nat} : cntN P (i + 1) = cntN P i + (if P i then 1 else 0) := rfl
theorem bg_go {c lf a : Nat} (ha : a ≤ 7) (h0 : 0 < lf) (hl : lf + cntN (Nat.testBit c) (a + 1) ≤ popN c) : a < 7 := by
  rcases Nat.lt_or_ge a 7 with h | h
  · exact h
  · have : a = 7 := by omega
    subst this
    have e : cntN (Nat.testBit c) (7 + 1) = popN c := rfl
    omega
theorem bg_in {c k : Nat} (he : c % 2 = 0) (hk : k ≤ popN c) : k + cntN (Nat.testBit c) (0 + 1) ≤ popN c := by
  have h : c.testBit 0 = false := by
    rw [Nat.testBit_zero]
    exact decide_eq_false (by omega)
  rw [cnt_n h]
  exact hk
theorem updN_back {f g : Nat → Nat} {j : Nat} (h : ∀ x, ¬ x = j → g x = f x) : updN g j (f j) = f := by
  funext x
  unfold updN
  split
  · subst_vars; rfl
  · rename_i hx; exact h x hx
theorem updN_o {f : Nat → Nat} {j v : Nat} : ∀ x, ¬ x = j → updN f j v x = f x := fun x hx => by
  unfold updN
  rw [if_neg hx]
