/-! ===== the worlds: a Row, a Sheet ===== -/
def wRow (cI : ClassId) (q a0 a1 a2 a3 n fo : Nat) (ki st we lo : Nat → Nat) : va_W := [(q, .inr (0, [.ref a0, .ref a1, .ref a2, .ref a3, .int (nI n), .int (nI fo)])), (a0, .inl (cI, 8, .inl (aI ki))), (a1, .inl (cI, 8, .inl (aI st))), (a2, .inl (cI, 8, .inl (aI we))), (a3, .inl (cI, 8, .inl (aI lo)))]
def wSheet (cI : ClassId) (q a : Nat) (h : Bool) (la le : Nat) (f : Nat → Int32) : va_W := [(q, .inr (1, [.ref a, .int (bI h), .int (nI la), .int (nI le)])), (a, .inl (cI, 60, .inl f))]
def wRow2 (cI : ClassId) (q a0 a1 a2 a3 n fo : Nat) (ki st we lo : Nat → Nat) (r b0 b1 b2 b3 n2 go : Nat) (kj sj wj lj : Nat → Nat) : va_W := wRow cI q a0 a1 a2 a3 n fo ki st we lo ++ wRow cI r b0 b1 b2 b3 n2 go kj sj wj lj
