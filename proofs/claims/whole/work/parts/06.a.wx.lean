/-! ===== the world of a ChairBallot ===== -/
def adX (ad : Nat → Nat) : List Nat := [ad 0, ad 1, ad 2, ad 3, ad 4, ad 5, ad 6, ad 7, ad 8, ad 9, ad 10, ad 11, ad 12, ad 13, ad 14, ad 15, ad 16, ad 17, ad 18, ad 19, ad 20, ad 21, ad 22]
def wX (cI cS : ClassId) (ad : Nat → Nat) (sh : Nat → Bool) (sla sle : Nat → Nat) (sf : Nat → Nat → Int32) (n fo : Nat) (ki st we lo : Nat → Nat) (n2 go : Nat) (kj sj wj lj : Nat → Nat) (ti : Nat → Int32) (rc rv : Nat → Nat) (rd : Nat) (tr : Int32) (fa : Nat) : va_W := [
  (ad 0, .inr (2, [.ref (ad 1), .ref (ad 10), .ref (ad 15), .ref (ad 20), .ref (ad 21), .ref (ad 22), .int (nI rd), .int tr, .int (nI fa)])),
  (ad 1, .inl (cS, 4, .inr (.inr (.inr (.inr (fun j => some (ad (2 + 2 * j)))))))),
  (ad 2, .inr (1, [.ref (ad 3), .int (bI (sh 0)), .int (nI (sla 0)), .int (nI (sle 0))])), (ad 3, .inl (cI, 60, .inl (sf 0))),
  (ad 4, .inr (1, [.ref (ad 5), .int (bI (sh 1)), .int (nI (sla 1)), .int (nI (sle 1))])), (ad 5, .inl (cI, 60, .inl (sf 1))),
  (ad 6, .inr (1, [.ref (ad 7), .int (bI (sh 2)), .int (nI (sla 2)), .int (nI (sle 2))])), (ad 7, .inl (cI, 60, .inl (sf 2))),
  (ad 8, .inr (1, [.ref (ad 9), .int (bI (sh 3)), .int (nI (sla 3)), .int (nI (sle 3))])), (ad 9, .inl (cI, 60, .inl (sf 3))),
  (ad 10, .inr (0, [.ref (ad 11), .ref (ad 12), .ref (ad 13), .ref (ad 14), .int (nI n), .int (nI fo)])), (ad 11, .inl (cI, 8, .inl (aI ki))), (ad 12, .inl (cI, 8, .inl (aI st))), (ad 13, .inl (cI, 8, .inl (aI we))), (ad 14, .inl (cI, 8, .inl (aI lo))),
  (ad 15, .inr (0, [.ref (ad 16), .ref (ad 17), .ref (ad 18), .ref (ad 19), .int (nI n2), .int (nI go)])), (ad 16, .inl (cI, 8, .inl (aI kj))), (ad 17, .inl (cI, 8, .inl (aI sj))), (ad 18, .inl (cI, 8, .inl (aI wj))), (ad 19, .inl (cI, 8, .inl (aI lj))),
  (ad 20, .inl (cI, 8, .inl ti)), (ad 21, .inl (cI, 8, .inl (aI rc))), (ad 22, .inl (cI, 8, .inl (aI rv)))]
section WX
variable {cI cS : ClassId} {ad : Nat → Nat} {sh : Nat → Bool} {sla sle : Nat → Nat} {sf : Nat → Nat → Int32} {n fo : Nat} {ki st we lo : Nat → Nat} {n2 go : Nat} {kj sj wj lj : Nat → Nat} {ti : Nat → Int32} {rc rv : Nat → Nat} {rd : Nat} {tr : Int32} {fa : Nat}
/-- sheet j's two cells -/
theorem wX_so {j : Nat} (hj : j < 4) : (wX cI cS ad sh sla sle sf n fo ki st we lo n2 go kj sj wj lj ti rc rv rd tr fa)[2 + 2 * j]? = some (ad (2 + 2 * j), .inr (1, [.ref (ad (3 + 2 * j)), .int (bI (sh j)), .int (nI (sla j)), .int (nI (sle j))])) := by
  match j, hj with
  | 0, _ => rfl
  | 1, _ => rfl
  | 2, _ => rfl
  | 3, _ => rfl
theorem wX_sc {j : Nat} (hj : j < 4) : (wX cI cS ad sh sla sle sf n fo ki st we lo n2 go kj sj wj lj ti rc rv rd tr fa)[3 + 2 * j]? = some (ad (3 + 2 * j), .inl (cI, 60, .inl (sf j))) := by
  match j, hj with
  | 0, _ => rfl
  | 1, _ => rfl
  | 2, _ => rfl
  | 3, _ => rfl
theorem wX_sub {j : Nat} (hj : j < 4) : ([2 + 2 * j, 3 + 2 * j].filterMap fun i => (wX cI cS ad sh sla sle sf n fo ki st we lo n2 go kj sj wj lj ti rc rv rd tr fa)[i]?) = wSheet cI (ad (2 + 2 * j)) (ad (3 + 2 * j)) (sh j) (sla j) (sle j) (sf j) := by
  match j, hj with
  | 0, _ => rfl
  | 1, _ => rfl
  | 2, _ => rfl
  | 3, _ => rfl
theorem wX_map {j : Nat} (hj : j < 4) : ([2 + 2 * j, 3 + 2 * j].map fun i => (wX cI cS ad sh sla sle sf n fo ki st we lo n2 go kj sj wj lj ti rc rv rd tr fa)[i]?) = (wSheet cI (ad (2 + 2 * j)) (ad (3 + 2 * j)) (sh j) (sla j) (sle j) (sf j)).map some := by
  match j, hj with
  | 0, _ => rfl
  | 1, _ => rfl
  | 2, _ => rfl
  | 3, _ => rfl
theorem wX_xset {j : Nat} (hj : j < 4) {h : Bool} {la le : Nat} {f : Nat → Int32} : xset (wX cI cS ad sh sla sle sf n fo ki st we lo n2 go kj sj wj lj ti rc rv rd tr fa) [2 + 2 * j, 3 + 2 * j] (wSheet cI (ad (2 + 2 * j)) (ad (3 + 2 * j)) h la le f) = wX cI cS ad (va_up sh j h) (va_up sla j la) (va_up sle j le) (va_up sf j f) n fo ki st we lo n2 go kj sj wj lj ti rc rv rd tr fa := by
  match j, hj with
  | 0, _ => rfl
  | 1, _ => rfl
  | 2, _ => rfl
  | 3, _ => rfl
theorem wX_setO {j : Nat} (hj : j < 4) {h : Bool} : (wX cI cS ad sh sla sle sf n fo ki st we lo n2 go kj sj wj lj ti rc rv rd tr fa).set (2 + 2 * j) (ad (2 + 2 * j), .inr (1, [.ref (ad (3 + 2 * j)), .int (bI h), .int (nI (sla j)), .int (nI (sle j))])) = wX cI cS ad (va_up sh j h) sla sle sf n fo ki st we lo n2 go kj sj wj lj ti rc rv rd tr fa := by
  match j, hj with
  | 0, _ => rfl
  | 1, _ => rfl
  | 2, _ => rfl
  | 3, _ => rfl
theorem wX_setC {j : Nat} (hj : j < 4) {f : Nat → Int32} : (wX cI cS ad sh sla sle sf n fo ki st we lo n2 go kj sj wj lj ti rc rv rd tr fa).set (3 + 2 * j) (ad (3 + 2 * j), .inl (cI, 60, .inl f)) = wX cI cS ad sh sla sle (va_up sf j f) n fo ki st we lo n2 go kj sj wj lj ti rc rv rd tr fa := by
  match j, hj with
  | 0, _ => rfl
  | 1, _ => rfl
  | 2, _ => rfl
  | 3, _ => rfl
theorem ndX {j : Nat} (hj : j < 4) (h : nd (adX ad)) : nd [ad (2 + 2 * j), ad (3 + 2 * j)] := by
  match j, hj with
  | 0, _ => exact h.sub [2, 3] (by decide) rfl
  | 1, _ => exact h.sub [4, 5] (by decide) rfl
  | 2, _ => exact h.sub [6, 7] (by decide) rfl
  | 3, _ => exact h.sub [8, 9] (by decide) rfl
end WX
section XQ
variable {p : Program} {l : Launch} {e : Env} {R : Room} {s : State} {m : MethodId} {args : Array Value} {below : List Frame} {meth : Method} {c : Code} {H : Heap} {locs : List Loc} {cells slots : Nat} {Q : State → Prop}
variable {cc : ByteArray} {pc : Nat} {ls : Array Slot} {rest st0 : List Value} {D : va_G} {cI cS : ClassId} {A : Nat → Prop} {ws : va_W} {H0 : Heap}
/-- an answer that is a reference or null, nothing written -/
def QA (v : Value) : Array Value → State → Outcome → State → Prop := fun _ st oc t => oc = .returned (some v) ∧ t.heap = st.heap
theorem xretRa {v : Value} {free : Addr → Prop} {rt : FieldType} (hx : p.tables.exec = Jvm.exec) (hb : c.code = cc) (hr : meth.sig.returnType = some rt) (hrt : ∃ n, rt = .object n) (hlk : meth.locks = false) (hdg : decode cc pc = .ok (.areturn, 1)) (hv : v = .null ∨ ∃ a, v = .ref a) : W p l e R s m args below meth c s.heap [] cells slots (MQ below (QA v) args s cells slots free) (F0 m pc ls [v]) :=
  W.aret (v := v) hx hb hr (Or.inl hrt) hv (fun t ht _ => ⟨rfl, ht⟩) (fun _ h => by cases h) hdg hlk
theorem xrda {v : Value} {a : Array Value} (hr : va_Run p l e R s m args below meth c H locs cells slots 0 0 (F0 m pc ls st0) rest (QA v a) (fun _ => False))
    (kk : W p l e R s m args below meth c H locs cells slots Q (F0 m (pc + 3) ls (v :: rest))) : W p l e R s m args below meth c H locs cells slots Q (F0 m pc ls st0) := by
  intro T hT X
  obtain ⟨w, st₀, t, T', L, h0, X', hL, e1, -, ⟨hv, hh⟩, st⟩ := hr T hT X
  cases hv
  obtain ⟨t2, a1, b1⟩ := kk T' (by rw [e1, hh, h0]) (Stand.forget X' (fun q h => (hL q h).elim))
  exact ⟨t2, st t2 a1, b1⟩
theorem xaldq {a : Nat} (hx : p.tables.exec = Jvm.exec) (hb : c.code = cc) (hG : Gk D cI cS s) (hP : va_P D vwCl ws H) (q0 : Nat) {n : Nat} {f : Nat → Option Nat} (ha : ws[q0]? = some (a, .inl (cS, n, .inr (.inr (.inr (.inr f)))))) {i : Int32} (j : Nat) (e0 : i = nI j) (hj : j < n) (hn : n < 2 ^ 31) (hdg : decode cc pc = .ok (.aaload, 1))
    (kk : W p l e R s m args below meth c H locs cells slots Q (F0 m (pc + 1) ls (va_rf (f j) :: rest))) : W p l e R s m args below meth c H locs cells slots Q (F0 m pc ls (.int i :: .ref a :: rest)) := by
  subst e0
  refine va_aldq hx hb hG.1 hP q0 1 ha rfl (vp_in_nI hj hn) hdg ?_
  rw [nI_clamp (Nat.lt_trans hj hn)]
  exact kk
theorem xtopv {x x' : Value} (e0 : x = x') (kk : W p l e R s m args below meth c H locs cells slots Q (F0 m pc ls (x' :: rest))) : W p l e R s m args below meth c H locs cells slots Q (F0 m pc ls (x :: rest)) := by
  subst e0; exact kk
end XQ
section XW
variable {p : Program} {l : Launch} {e : Env} {R : Room} {s : State} {m : MethodId} {args : Array Value} {below : List Frame} {meth : Method} {c : Code} {H : Heap} {locs : List Loc} {cells slots : Nat} {Q : State → Prop}
variable {pc : Nat} {ls : Array Slot} {rest st0 : List Value} {D : va_G} {A : Nat → Prop} {a : Array Value} {ws : va_W} {H0 : Heap}
/-! calls of methods whose world is the caller's whole world -/
theorem adAll {ad : List Nat} (hD : va_D A ws) (had : ws.map Prod.fst = ad) : ∀ q, AW ad q → A q := by
  intro q hq
  have hq2 : q ∈ ws.map Prod.fst := by rw [had]; exact hq
  obtain ⟨x, hx, rfl⟩ := List.mem_map.mp hq2
  obtain ⟨k, hk⟩ := List.getElem?_of_mem hx
  exact hD.2 k x hk
theorem xmuW {S : Type} {post : Int32 → S → Prop} {w1 : S → va_W} {ad : List Nat} (hr : va_Run p l e R s m args below meth c H locs cells slots 0 0 (F0 m pc ls st0) rest (va_Qi post (fun u t => va_P D vwCl (w1 u) t.heap) (AW ad) a) (AW ad)) (hD : va_D A ws) (hS : va_S A H0 H locs) (had : ws.map Prod.fst = ad) (had1 : ∀ u, (w1 u).map Prod.fst = ad)
    (kk : ∀ (r : Int32) (u : S) (H1 : Heap) (locs1 : List Loc), post r u → va_P D vwCl (w1 u) H1 → va_D A (w1 u) → va_S A H0 H1 locs1 → W p l e R s m args below meth c H1 locs1 cells slots Q (F0 m (pc + 3) ls (.int r :: rest))) : W p l e R s m args below meth c H locs cells slots Q (F0 m pc ls st0) :=
  va_calli hr hS (fun q _ h => adAll hD had q h) (adAll hD had) (fun r u t H1 locs1 ht _ hw hB _ _ hS1 => kk r u H1 locs1 hw (by rw [← ht]; exact hB) (hD.re ((had1 u).trans had.symm)) hS1)
theorem xmuWl {S : Type} {post : Int64 → S → Prop} {w1 : S → va_W} {ad : List Nat} (hr : va_Run p l e R s m args below meth c H locs cells slots 0 0 (F0 m pc ls st0) rest (va_Ql post (fun u t => va_P D vwCl (w1 u) t.heap) (AW ad) a) (AW ad)) (hD : va_D A ws) (hS : va_S A H0 H locs) (had : ws.map Prod.fst = ad) (had1 : ∀ u, (w1 u).map Prod.fst = ad)
    (kk : ∀ (r : Int64) (u : S) (H1 : Heap) (locs1 : List Loc), post r u → va_P D vwCl (w1 u) H1 → va_D A (w1 u) → va_S A H0 H1 locs1 → W p l e R s m args below meth c H1 locs1 cells slots Q (F0 m (pc + 3) ls (.long r :: rest))) : W p l e R s m args below meth c H locs cells slots Q (F0 m pc ls st0) :=
  va_calll hr hS (fun q _ h => adAll hD had q h) (adAll hD had) (fun r u t H1 locs1 ht _ hw hB _ _ hS1 => kk r u H1 locs1 hw (by rw [← ht]; exact hB) (hD.re ((had1 u).trans had.symm)) hS1)
theorem xmuWv {S : Type} {post : S → Prop} {w1 : S → va_W} {ad : List Nat} (hr : va_Run p l e R s m args below meth c H locs cells slots 0 0 (F0 m pc ls st0) rest (va_Qv post (fun u t => va_P D vwCl (w1 u) t.heap) (AW ad) a) (AW ad)) (hD : va_D A ws) (hS : va_S A H0 H locs) (had : ws.map Prod.fst = ad) (had1 : ∀ u, (w1 u).map Prod.fst = ad)
    (kk : ∀ (u : S) (H1 : Heap) (locs1 : List Loc), post u → va_P D vwCl (w1 u) H1 → va_D A (w1 u) → va_S A H0 H1 locs1 → W p l e R s m args below meth c H1 locs1 cells slots Q (F0 m (pc + 3) ls rest)) : W p l e R s m args below meth c H locs cells slots Q (F0 m pc ls st0) :=
  va_callv hr hS (fun q _ h => adAll hD had q h) (adAll hD had) (fun u t H1 locs1 ht _ hw hB _ _ hS1 => kk u H1 locs1 hw (by rw [← ht]; exact hB) (hD.re ((had1 u).trans had.symm)) hS1)
end XW
