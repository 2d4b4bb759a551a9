/-! ===== copies, days, texts ===== -/
theorem hldB_nat {le : Nat} {i k : Int32} (h : hldB le i k = true) : ∃ u c : Nat, u + c ≤ le ∧ i = nI u ∧ k = nI c := by
  have h := of_decide_eq_true h
  exact ⟨i.toInt.toNat, k.toInt.toNat, by omega, nI_ofT h.1, nI_ofT h.2.2.1⟩
theorem hldB_nat2 {le c : Nat} {i : Int32} (hc : c < 2 ^ 31) (h : hldB le i (nI c) = true) : ∃ u : Nat, u + c ≤ le ∧ i = nI u := by
  have h := of_decide_eq_true h
  rw [nI_toInt hc] at h
  exact ⟨i.toInt.toNat, by omega, nI_ofT h.1⟩
def okCopy (sh : Nat → Bool) (sla sle : Nat → Nat) (k i k2 i2 ct : Int32) : Bool := (rgB 0 3 k && rgB 0 3 k2) && ((sh k.toNatClampNeg && sh k2.toNatClampNeg) && (decide (sla k.toNatClampNeg = sla k2.toNatClampNeg) && (hldB (sle k.toNatClampNeg) i ct && hldB (sle k2.toNatClampNeg) i2 ct)))
def S_copy (sh : Nat → Bool) (sla sle : Nat → Nat) (k i k2 i2 ct : Int32) : Nat :=
  if rgB 0 3 k && rgB 0 3 k2 then if sh k.toNatClampNeg && sh k2.toNatClampNeg then if sla k.toNatClampNeg = sla k2.toNatClampNeg then if hldB (sle k.toNatClampNeg) i ct && hldB (sle k2.toNatClampNeg) i2 ct then 0 else 3 else 2 else 1 else 0
def A_copy (sh : Nat → Bool) (sla sle : Nat → Nat) (k i k2 i2 ct : Int32) : Int32 :=
  if rgB 0 3 k && rgB 0 3 k2 then if sh k.toNatClampNeg && sh k2.toNatClampNeg then if sla k.toNatClampNeg = sla k2.toNatClampNeg then if hldB (sle k.toNatClampNeg) i ct && hldB (sle k2.toNatClampNeg) i2 ct then ct else -10 - nI 3 else -10 - nI 2 else -10 - nI 1 else -1
/-! a day -/
def refP (n : Nat) (a b : Int32) : Int32 :=
  if rgB 0 9 b then if b = nI 8 then if a = nI 0 then nI 0 else -2 else if rgB 4 7 b then if rgB 0 10 a then nI 0 else -2 else if hasB n a then nI 0 else -1 else -2
def firstR (g : Nat → Int32) : Nat → Int32
  | 0 => nI 0
  | m + 1 => if firstR g m = nI 0 then g m else firstR g m
theorem fr_zero {g : Nat → Int32} : ∀ {m : Nat}, (∀ r, r < m → g r = nI 0) → firstR g m = nI 0
  | 0, _ => rfl
  | m + 1, h => by
    show (if firstR g m = nI 0 then g m else firstR g m) = nI 0
    rw [fr_zero (fun r hr => h r (by omega)), if_pos rfl, h m (by omega)]
theorem fr_stop {g : Nat → Int32} {i : Nat} (h : ∀ r, r < i → g r = nI 0) (hi : ¬ g i = nI 0) : ∀ {m : Nat}, i < m → firstR g m = g i
  | m + 1, hm => by
    show (if firstR g m = nI 0 then g m else firstR g m) = g i
    by_cases h2 : i < m
    · rw [fr_stop h hi h2, if_neg hi]
    · have : i = m := by omega
      subst this
      rw [fr_zero h, if_pos rfl]
theorem fr_inv {g : Nat → Int32} : ∀ {m : Nat}, firstR g m = nI 0 → ∀ r, r < m → g r = nI 0
  | m + 1, h, r, hr => by
    have h : (if firstR g m = nI 0 then g m else firstR g m) = nI 0 := h
    by_cases h0 : firstR g m = nI 0
    · rw [if_pos h0] at h
      by_cases hm : r < m
      · exact fr_inv h0 r hm
      · have : r = m := by omega
        subst this; exact h
    · rw [if_neg h0] at h
      exact absurd h h0
def refD (n : Nat) (F : Nat → Int32) (u p : Nat) : Int32 := refP n (F (u + 2 * p)) (F (u + 2 * p + 1))
def dA (F : Nat → Int32) (u p : Nat) : Nat := (F (u + 2 * p)).toNatClampNeg
def dB (F : Nat → Int32) (u p : Nat) : Nat := (F (u + 2 * p + 1)).toNatClampNeg
theorem refP_ok {n : Nat} {a b : Int32} (hn : n ≤ 8) (h : refP n a b = nI 0) : a = nI a.toNatClampNeg ∧ b = nI b.toNatClampNeg ∧ b.toNatClampNeg ≤ 9 ∧ actOk n a.toNatClampNeg b.toNatClampNeg := by
  have e2 : ¬ (-2 : Int32) = nI 0 := by decide
  have e1 : ¬ (-1 : Int32) = nI 0 := by decide
  unfold refP at h
  by_cases h9 : rgB 0 9 b = true
  · rw [if_pos h9] at h
    obtain ⟨w, hw0, hw9, rfl⟩ := rgB_nat (by decide) h9
    have hcl := cl8 (j := w) (by omega)
    rw [hcl]
    by_cases h8 : nI w = nI 8
    · rw [if_pos h8] at h
      have hw8 : w = 8 := (nI_eq (by omega) (by omega)).mp h8
      by_cases ha : a = nI 0
      · subst ha
        have := cl8 (j := 0) (by omega)
        rw [this]
        exact ⟨rfl, rfl, by omega, by unfold actOk; omega⟩
      · rw [if_neg ha] at h; exact absurd h e2
    · rw [if_neg h8] at h
      have hw8 : ¬ w = 8 := fun q => h8 (by rw [q])
      by_cases h4 : rgB 4 7 (nI w) = true
      · rw [if_pos h4] at h
        have h4 := of_decide_eq_true h4
        rw [nI_toInt (by omega)] at h4
        by_cases ha : rgB 0 10 a = true
        · obtain ⟨v, hv0, hv9, rfl⟩ := rgB_nat (by decide) ha
          have := cl8 (j := v) (by omega)
          rw [this]
          exact ⟨rfl, rfl, by omega, by unfold actOk; omega⟩
        · rw [if_neg ha] at h; exact absurd h e2
      · rw [if_neg h4] at h
        have h4' : ¬ (4 ≤ w ∧ w ≤ 7) := fun q => h4 (rgB_y (by rw [nI_toInt (by omega)]; omega) (by rw [nI_toInt (by omega)]; omega))
        by_cases ha : hasB n a = true
        · obtain ⟨v, hv, rfl⟩ := hasB_t ha
          have := cl8 (j := v) (by omega)
          rw [this]
          exact ⟨rfl, rfl, by omega, by unfold actOk; omega⟩
        · rw [if_neg ha] at h; exact absurd h e1
  · rw [if_neg h9] at h; exact absurd h e2
/-- who is folded, and the ways, behind so many acts -/
def dyS (n fo : Nat) (we lo : Nat → Nat) (F : Nat → Int32) (u : Nat) : Nat → Nat × (Nat → Nat)
  | 0 => (fo, lo)
  | p + 1 => (actF n (dyS n fo we lo F u p).1 (dA F u p) (dB F u p), actL n (dyS n fo we lo F u p).1 we (dyS n fo we lo F u p).2 (dA F u p) (dB F u p))
theorem trn_le {fo : Nat} {lo : Nat → Nat} {j w : Nat} (h : ∀ j, lo j ≤ 3) (hw : w ≤ 3) : ∀ x, trn fo lo j w x ≤ 3 := by
  intro x
  have := h x
  unfold trn
  split
  · exact this
  · unfold updN; split <;> omega
theorem actF_lt {n fo a b : Nat} (hn : n ≤ 8) (hfo : fo < 256) (hb : b ≤ 9) (hok : actOk n a b) : actF n fo a b < 256 := by
  have h2 := two_pow_le hn
  have h1 : 1 ≤ 2 ^ n := Nat.one_le_two_pow
  unfold actF
  split
  · have := hok.1 (by omega)
    exact opn_lt hfo (by omega)
  · split <;> omega
theorem actL_le {n fo : Nat} {we lo : Nat → Nat} {a b : Nat} (hb : b ≤ 9) (h : ∀ j, lo j ≤ 3) : ∀ j, actL n fo we lo a b j ≤ 3 := by
  unfold actL
  split
  · exact h
  · split
    · exact h
    · split
      · exact trn_le h (by omega)
      · exact blw_le h (by omega)
theorem dy_inv {n fo : Nat} {we lo : Nat → Nat} {F : Nat → Int32} {u ct : Nat} (hn : n ≤ 8) (hfo : fo < 256) (hlo : ∀ j, lo j ≤ 3) (hok : ∀ p, p < ct → F (u + 2 * p) = nI (dA F u p) ∧ F (u + 2 * p + 1) = nI (dB F u p) ∧ dB F u p ≤ 9 ∧ actOk n (dA F u p) (dB F u p)) : ∀ p, p ≤ ct → (dyS n fo we lo F u p).1 < 256 ∧ ∀ j, (dyS n fo we lo F u p).2 j ≤ 3
  | 0, _ => ⟨hfo, hlo⟩
  | p + 1, hp => by
    obtain ⟨h1, h2⟩ := dy_inv hn hfo hlo hok p (by omega)
    obtain ⟨-, -, h3, h4⟩ := hok p (by omega)
    exact ⟨actF_lt hn h1 h3 h4, actL_le h3 h2⟩
theorem day_ok {n ct u : Nat} {F : Nat → Int32} (hn : n ≤ 8) (h : firstR (refD n F u) ct = nI 0) : ∀ p, p < ct → F (u + 2 * p) = nI (dA F u p) ∧ F (u + 2 * p + 1) = nI (dB F u p) ∧ dB F u p ≤ 9 ∧ actOk n (dA F u p) (dB F u p) := fun p hp => refP_ok hn (fr_inv h p hp)
def dyX (n fo : Nat) (we lo : Nat → Nat) (F : Nat → Int32) (u p : Nat) : Bool := !actB (dyS n fo we lo F u p).1 (dA F u p) (dB F u p)
def dyC (n fo : Nat) (ki st we lo : Nat → Nat) (F : Nat → Int32) (u p : Nat) : Bool := carB n (dyS n fo we lo F u (p + 1)).1 ki st we (dyS n fo we lo F u (p + 1)).2
def ansD (n fo : Nat) (ki st we lo : Nat → Nat) (F : Nat → Int32) (u ct : Nat) (what : Int32) : Int32 :=
  match firstV (dyX n fo we lo F u) ct with
  | some p => if what = nI 1 then nI p else -100 - nI p
  | none => if what = nI 0 then nI (vfN n (dyS n fo we lo F u ct).1 ki st we (dyS n fo we lo F u ct).2 1) else if what = nI 1 then -9 else if what = nI 2 then nI (vfN n (dyS n fo we lo F u ct).1 ki st we (dyS n fo we lo F u ct).2 2)
    else if what = nI 3 then nI (dyS n fo we lo F u ct).1 else if what = nI 4 then nI (cntN (dyC n fo ki st we lo F u) ct) else if hasB n (what - nI 10) then nI ((dyS n fo we lo F u ct).2 (what - nI 10).toNatClampNeg) else -9
def A_day (sh : Nat → Bool) (sla sle : Nat → Nat) (sf : Nat → Nat → Int32) (n fo : Nat) (ki st we lo : Nat → Nat) (k la i ct what : Int32) : Int32 :=
  if rgB 0 3 k then if rgB 0 2 la && (rgB 0 20 ct && (rgB 0 4 what || rgB 10 17 what)) then if n = 0 then -3
    else if fltN (sh k.toNatClampNeg) (sla k.toNatClampNeg) la.toNatClampNeg = 0 then if hldB (sle k.toNatClampNeg) i (nI (2 * ct.toNatClampNeg)) then
      if firstR (refD n (sf k.toNatClampNeg) i.toNatClampNeg) ct.toNatClampNeg = nI 0 then ansD n fo ki st we lo (sf k.toNatClampNeg) i.toNatClampNeg ct.toNatClampNeg what else firstR (refD n (sf k.toNatClampNeg) i.toNatClampNeg) ct.toNatClampNeg
    else -10 - nI 3 else -10 - nI (fltN (sh k.toNatClampNeg) (sla k.toNatClampNeg) la.toNatClampNeg) else -2 else -1
def S_day (sh : Nat → Bool) (sla sle : Nat → Nat) (n : Nat) (k la i ct what : Int32) : Nat :=
  if rgB 0 3 k then if rgB 0 2 la && (rgB 0 20 ct && (rgB 0 4 what || rgB 10 17 what)) then if n = 0 then 0
    else if fltN (sh k.toNatClampNeg) (sla k.toNatClampNeg) la.toNatClampNeg = 0 then if hldB (sle k.toNatClampNeg) i (nI (2 * ct.toNatClampNeg)) then 0 else 3 else fltN (sh k.toNatClampNeg) (sla k.toNatClampNeg) la.toNatClampNeg else 0 else 0
/-! a text -/
def kdF (x : Int32) : Int32 := if x = nI 98 then nI 2 else if x = nI 112 then nI 0 else if x = nI 115 then nI 1 else -9
def kindC (x : Int32) : Nat := if x = nI 98 then 2 else if x = nI 112 then 0 else 1
def gonB (p : Nat) (x : Int32) : Bool :=
  if p = 0 then decide (x = nI 102) else if 40 < p then false else if (p - 1) % 5 = 0 then decide (x = nI 59) else if (p - 1) % 5 = 1 then !decide (kdF x = -9) else if (p - 1) % 5 = 2 then rgB 0 3 (x - nI 48) else if (p - 1) % 5 = 3 then rgB 49 57 x else rgB 0 3 (x - nI 48)
def ffT (T : Nat → Int32) (c : Nat) : Option Nat := firstV (fun p => !gonB p (T p)) c
def wholeB (c : Nat) : Bool := decide (10 < c) && decide ((c - 1) % 5 = 0)
def okT (T : Nat → Int32) (c : Nat) : Bool := (match ffT T c with | none => true | some _ => false) && wholeB c
def plT (T : Nat → Int32) (c : Nat) : Nat := match ffT T c with
  | none => c
  | some p => p
def figC (x : Int32) : Nat := (x - nI 48).toNatClampNeg
def tkF (m : Nat) (g : Nat → Nat) (old : Nat → Nat) : Nat → Nat := fun k => if k < m then g k else old k
theorem tkF_0 {g old : Nat → Nat} : tkF 0 g old = old := by funext k; simp [tkF]
theorem tkF_s {g old : Nat → Nat} {i v : Nat} (h : v = g i) : updN (tkF i g old) i v = tkF (i + 1) g old := by
  subst h
  funext j
  unfold updN tkF
  by_cases h : j = i
  · subst h; simp
  · have : (j < i + 1) = (j < i) := by apply propext; omega
    rw [if_neg h]; simp only [this]
def kiT (T : Nat → Int32) (k : Nat) : Nat := kindC (T (2 + k * 5))
def stT (T : Nat → Int32) (k : Nat) : Nat := figC (T (2 + k * 5 + 1))
def weT (T : Nat → Int32) (k : Nat) : Nat := figC (T (2 + k * 5 + 2))
def loT (T : Nat → Int32) (k : Nat) : Nat := figC (T (2 + k * 5 + 3))
def textA (F : Nat → Int32) (u : Nat) : Nat → Int32 := fun p => F (u + p)
/-- a text is taken -/
def okFront (sh : Nat → Bool) (sla sle : Nat → Nat) (sf : Nat → Nat → Int32) (k la i ct : Int32) : Bool :=
  (rgB 0 3 k && rgB 0 2 la) && (decide (fltN (sh k.toNatClampNeg) (sla k.toNatClampNeg) la.toNatClampNeg = 0) && (hldB (sle k.toNatClampNeg) i ct && okT (textA (sf k.toNatClampNeg) i.toNatClampNeg) ct.toNatClampNeg))
def numT (ct : Int32) : Nat := (ct.toNatClampNeg - 1) / 5
def A_front (sh : Nat → Bool) (sla sle : Nat → Nat) (sf : Nat → Nat → Int32) (k la i ct : Int32) : Int32 :=
  if rgB 0 3 k then if rgB 0 2 la then if fltN (sh k.toNatClampNeg) (sla k.toNatClampNeg) la.toNatClampNeg = 0 then if ct.toInt < 0 then -10 - nI 4 else if hldB (sle k.toNatClampNeg) i ct then
    if okT (textA (sf k.toNatClampNeg) i.toNatClampNeg) ct.toNatClampNeg then nI (numT ct) else -100 - nI (plT (textA (sf k.toNatClampNeg) i.toNatClampNeg) ct.toNatClampNeg)
  else -10 - nI 3 else -10 - nI (fltN (sh k.toNatClampNeg) (sla k.toNatClampNeg) la.toNatClampNeg) else -2 else -1
def S_front (sh : Nat → Bool) (sla sle : Nat → Nat) (k la i ct : Int32) : Nat :=
  if rgB 0 3 k && rgB 0 2 la then if fltN (sh k.toNatClampNeg) (sla k.toNatClampNeg) la.toNatClampNeg = 0 then if ct.toInt < 0 then 4 else if hldB (sle k.toNatClampNeg) i ct then 0 else 3 else fltN (sh k.toNatClampNeg) (sla k.toNatClampNeg) la.toNatClampNeg else 0
def ifO {α : Type} (b : Bool) (x y : α) : α := if b then x else y
