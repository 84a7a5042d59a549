/-! BITS of small numbers -/
theorem n_smod {c : Nat} (hc : c < 32) : ((nI c &&& 31).toBitVec.smod 32).toNat = c := by
  revert c
  decide
theorem n_shr {m c : Nat} (hm : m < 2 ^ 31) (hc : c < 32) : nI m >>> (nI c &&& 31) = nI (m / 2 ^ c) := pk_shrN hm _ c (n_smod hc)
theorem n_shl {m c : Nat} (hc : c < 32) (h : m * 2 ^ c < 2 ^ 32) : nI m <<< (nI c &&& 31) = nI (m * 2 ^ c) := pk_shlN _ c (n_smod hc) h
theorem n_and1 {m : Nat} (hm : m < 2 ^ 32) : nI m &&& 1 = nI (m % 2) := pk_andN hm 1 rfl
theorem n_lane (x s : Int32) (k : Nat) (hs : (s.toBitVec.smod 32).toNat = k) : (x <<< s).toBitVec.toNat = x.toBitVec.toNat * 2 ^ k % 2 ^ 32 ∧ ((x <<< s) >>> s).toInt = (x <<< s).toInt >>> k := ⟨pk_shl x s k hs, pk_shr _ s k hs⟩
theorem n_and (x : Int32) {m : Int32} (k : Nat) (hm : m.toBitVec.toNat = 2 ^ k - 1) : x &&& m = nI (x.toBitVec.toNat % 2 ^ k) := pk_and x k hm
theorem n_tn {m : Nat} (h : m < 2 ^ 32) : (nI m).toBitVec.toNat = m := pk_tn h
theorem n_m1 (m : Nat) : nI (m + 1) + (-1) = nI m := pk_m1 m
theorem n_sneg {a b : Nat} (hb : b < 2 ^ 30) (h : a < b) : nI a - nI b < 0 := pk_sneg hb h
theorem n_subI {a b : Nat} (ha : a < 2 ^ 30) (hb : b < 2 ^ 30) : (nI a - nI b).toInt = (a : Int) - b := pk_sub_toInt ha hb
theorem n_or (a b : Nat) : nI a ||| nI b = nI (a ||| b) := by
  apply Int32.toBitVec_inj.mp
  rw [Int32.toBitVec_or]
  show BitVec.ofNat 32 a ||| BitVec.ofNat 32 b = BitVec.ofNat 32 (a ||| b)
  rw [BitVec.ofNat_or]
