/-! ===== wards ===== -/
def wwS (b : Nat → Bool) (t : Nat → Int) : Nat → Nat × Int
  | 0 => (0, 0)
  | m + 1 => if b m then ((wwS b t m).1 + (if 0 < (wwS b t m).2 then 1 else 0), t m) else ((wwS b t m).1, (wwS b t m).2 + t m)
def wwN (b : Nat → Bool) (t : Nat → Int) (n : Nat) : Nat := if 0 < (wwS b t n).2 then (wwS b t n).1 + 1 else (wwS b t n).1
theorem wwS_b {b : Nat → Bool} {t : Nat → Int} (h : ∀ j, -10 ≤ t j ∧ t j ≤ 10) : ∀ m : Nat, -(10 * (m : Int)) ≤ (wwS b t m).2 ∧ (wwS b t m).2 ≤ 10 * (m : Int) ∧ (wwS b t m).1 ≤ m
  | 0 => by simp [wwS]
  | m + 1 => by
    have h1 := wwS_b (b := b) h m
    have h2 := h m
    unfold wwS
    split
    · dsimp only
      refine ⟨by omega, by omega, ?_⟩
      split <;> omega
    · dsimp only
      refine ⟨by omega, by omega, by omega⟩
theorem wwN_le {b : Nat → Bool} {t : Nat → Int} (h : ∀ j, -10 ≤ t j ∧ t j ≤ 10) (n : Nat) : wwN b t n ≤ n + 1 := by
  have h1 := (wwS_b (b := b) h n).2.2
  unfold wwN
  split <;> omega
theorem ww_y {b : Nat → Bool} {t : Nat → Int} {m : Nat} (h : b m = true) : wwS b t (m + 1) = ((wwS b t m).1 + (if 0 < (wwS b t m).2 then 1 else 0), t m) := by
  show (if b m then _ else _) = _
  rw [if_pos h]
theorem ww_n {b : Nat → Bool} {t : Nat → Int} {m : Nat} (h : b m = false) : wwS b t (m + 1) = ((wwS b t m).1, (wwS b t m).2 + t m) := by
  show (if b m then _ else _) = _
  rw [if_neg (by rw [h]; decide)]
theorem zI_pos {z : Int} {m : Nat} (hm : m ≤ 8) (h1 : -(10 * (m : Int)) ≤ z) (h2 : z ≤ 10 * (m : Int)) : (zI z).toInt = z := zI_toInt (by omega) (by omega)
def cutB (n c m : Nat) : Bool := c.testBit (n - 1 - m)
def winX (n fo : Nat) (ki st we lo : Nat → Nat) (c : Nat) : Nat := wwN (cutB n c) (tiN n fo ki st we lo) n
def tilF (i : Nat) (T : Nat → Int) (ti : Nat → Int32) : Nat → Int32 := fun j => if j < i then zI (T j) else ti j
theorem tilF_0 {T : Nat → Int} {ti : Nat → Int32} : tilF 0 T ti = ti := by funext j; simp [tilF]
theorem tilF_s {T : Nat → Int} {ti : Nat → Int32} {i : Nat} : upd (tilF i T ti) i (zI (T i)) = tilF (i + 1) T ti := by
  funext j
  unfold upd tilF
  by_cases h : j = i
  · subst h; simp
  · have : (j < i + 1) = (j < i) := by apply propext; omega
    rw [if_neg h]; simp only [this]
theorem tilF_at {T : Nat → Int} {ti : Nat → Int32} {n : Nat} : ∀ j, j < n → tilF n T ti j = zI (T j) := fun j hj => by simp [tilF, hj]
/-- the fairest cuts, from the greatest down: the first i looked at -/
def fcO (W : Nat → Nat) (q p : Nat) : Nat → Option Nat
  | 0 => none
  | i + 1 => if decide (popN (2 * p - 1 - i) = q) && (match fcO W q p i with | none => true | some b => decide (W b < W (2 * p - 1 - i))) then some (2 * p - 1 - i) else fcO W q p i
def optC (o : Option Nat) : Nat := match o with
  | none => 0
  | some b => b
def optW (W : Nat → Nat) (o : Option Nat) : Int32 := match o with
  | none => -1
  | some b => nI (W b)
theorem fc_n1 {W : Nat → Nat} {q p i : Nat} (h : ¬ popN (2 * p - 1 - i) = q) : fcO W q p (i + 1) = fcO W q p i := by
  show (if decide (popN (2 * p - 1 - i) = q) && _ then _ else fcO W q p i) = _
  rw [decide_eq_false h]; rfl
theorem fc_n2 {W : Nat → Nat} {q p i : Nat} (hW : ∀ c, W c < 1000) (h : (W (2 * p - 1 - i) : Int) ≤ (optW W (fcO W q p i)).toInt) : fcO W q p (i + 1) = fcO W q p i := by
  show (if decide (popN (2 * p - 1 - i) = q) && _ then _ else fcO W q p i) = _
  cases ho : fcO W q p i with
  | none =>
    rw [ho] at h
    have h2 : (optW W none).toInt = -1 := show (-1 : Int32).toInt = -1 by decide
    omega
  | some b =>
    rw [ho] at h
    have h1 := hW b
    have h2 : (optW W (some b)).toInt = (W b : Int) := nI_toInt (by omega)
    have h3 : decide (W b < W (2 * p - 1 - i)) = false := decide_eq_false (by omega)
    simp [h3]
theorem fc_y {W : Nat → Nat} {q p i : Nat} (hW : ∀ c, W c < 1000) (h0 : popN (2 * p - 1 - i) = q) (h : ¬ (W (2 * p - 1 - i) : Int) ≤ (optW W (fcO W q p i)).toInt) : fcO W q p (i + 1) = some (2 * p - 1 - i) := by
  show (if decide (popN (2 * p - 1 - i) = q) && _ then _ else fcO W q p i) = _
  cases ho : fcO W q p i with
  | none => simp [h0]
  | some b =>
    rw [ho] at h
    have h1 := hW b
    have h2 : (optW W (some b)).toInt = (W b : Int) := nI_toInt (by omega)
    have h3 : decide (W b < W (2 * p - 1 - i)) = true := decide_eq_true (by omega)
    simp [h0, h3]
theorem optC_ite {c : Bool} {a b : Option Nat} {x : Nat} (h1 : optC a ≤ x) (h2 : optC b ≤ x) : optC (if c = true then a else b) ≤ x := by
  cases c
  · exact h2
  · exact h1
theorem fc_lt {W : Nat → Nat} {q p : Nat} : ∀ i, optC (fcO W q p i) ≤ 2 * p - 1
  | 0 => Nat.zero_le _
  | i + 1 => optC_ite (show 2 * p - 1 - i ≤ 2 * p - 1 by omega) (fc_lt i)
def bestX (n fo : Nat) (ki st we lo : Nat → Nat) (q : Nat) : Nat := optC (fcO (winX n fo ki st we lo) q (2 ^ (n - 1)) (2 ^ (n - 1)))
def fowN (n c w : Nat) : Option Nat := firstV (fun m => cutB n c m && decide (cntN (cutB n c) m = w)) n
theorem pow_pred {n : Nat} (hn : n ≤ 8) : 2 ^ (n - 1) ≤ 128 := show 2 ^ (n - 1) ≤ 2 ^ 7 from Nat.pow_le_pow_right (by decide) (by omega)
theorem xdecN {c : Nat} (h : 1 ≤ c) : nI c + Int32.ofInt (-1) = nI (c - 1) := by
  obtain ⟨d, rfl⟩ : ∃ d, c = d + 1 := ⟨c - 1, by omega⟩
  exact xdec
theorem winX_lt {n fo : Nat} {ki st we lo : Nat → Nat} (hwe : ∀ j, we j ≤ 9) (hn : n ≤ 8) (c : Nat) : winX n fo ki st we lo c < 1000 := by
  have h := wwN_le (b := cutB n c) (t := tiN n fo ki st we lo) (fun j => tiN_b hwe j) n
  unfold winX
  omega
def A_wards (n fo : Nat) (ki st we lo : Nat → Nat) (k v : Int32) : Int32 :=
  if n = 0 then -3 else if rgB 1 8 k && rgB (-1) 7 v then
    if decide (n < k.toNatClampNeg) || decide ((k.toNatClampNeg : Int) ≤ v.toInt) then -9
    else if v.toInt < 0 then nI (winX n fo ki st we lo (bestX n fo ki st we lo k.toNatClampNeg)) else optI (fowN n (bestX n fo ki st we lo k.toNatClampNeg) v.toNatClampNeg)
  else -2
theorem zI_0add (z : Int) : nI 0 + zI z = zI z := by rw [show nI 0 = zI 0 from rfl, zI_add, Int.zero_add]
