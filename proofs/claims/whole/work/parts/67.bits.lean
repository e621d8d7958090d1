/-! bits of numbers that aren't below 0 -/
theorem ofI (n : Nat) : Int32.ofInt (n : Int) = nI n := Int32.ofInt_eq_ofNat
theorem or_nI (a b : Nat) : nI a ||| nI b = nI (a ||| b) := by
  apply Int32.toBitVec_inj.1
  show BitVec.ofNat 32 a ||| BitVec.ofNat 32 b = BitVec.ofNat 32 (a ||| b)
  apply BitVec.eq_of_getLsbD_eq
  intro i hi
  simp [hi]
theorem and_nI (a b : Nat) : nI a &&& nI b = nI (a &&& b) := by
  apply Int32.toBitVec_inj.1
  show BitVec.ofNat 32 a &&& BitVec.ofNat 32 b = BitVec.ofNat 32 (a &&& b)
  apply BitVec.eq_of_getLsbD_eq
  intro i hi
  simp [hi]
theorem iOr_n {x y : Nat} (hx : x < 2 ^ 31) (hy : y < 2 ^ 31) : iOr (x : Int) (y : Int) = ((x ||| y : Nat) : Int) := by
  unfold iOr
  rw [ofI, ofI, or_nI, nI_toInt (Nat.or_lt_two_pow hx hy)]
theorem iShl_1 : ∀ k : Nat, k < 31 → iShl 1 (k : Int) = ((2 ^ k : Nat) : Int) := by decide +kernel
theorem shc : ∀ k : Nat, k < 32 → ((nI k &&& 31).toBitVec.smod 32).toNat = k := by decide +kernel
theorem iShr_n {x k : Nat} (hx : x < 2 ^ 31) (hk : k < 32) : iShr (x : Int) (k : Int) = ((x / 2 ^ k : Nat) : Int) := by
  unfold iShr
  have h2 : x / 2 ^ k ≤ x := Nat.div_le_self _ _
  rw [ofI, ofI, pk_shrN hx _ k (shc k hk), nI_toInt (by omega)]
theorem iAnd_n {x y : Nat} (hx : x < 2 ^ 31) (_hy : y < 2 ^ 31) : iAnd (x : Int) (y : Int) = ((x &&& y : Nat) : Int) := by
  unfold iAnd
  rw [ofI, ofI, and_nI, nI_toInt (Nat.lt_of_le_of_lt Nat.and_le_left hx)]
theorem iBit {x k : Nat} (hx : x < 2 ^ 31) (hk : k < 32) : iAnd (iShr (x : Int) (k : Int)) 1 = if x.testBit k = true then 1 else 0 := by
  have h2 : x / 2 ^ k ≤ x := Nat.div_le_self _ _
  rw [iShr_n hx hk]
  have := iAnd_n (x := x / 2 ^ k) (y := 1) (by omega) (by decide)
  rw [show ((1 : Nat) : Int) = 1 from rfl] at this
  rw [this, Nat.and_one_is_mod, Nat.testBit_eq_decide_div_mod_eq]
  by_cases e : x / 2 ^ k % 2 = 1
  · rw [e]; simp
  · have : x / 2 ^ k % 2 = 0 := by omega
    rw [this]; simp
theorem iAnd_255 (x : Int) : 0 ≤ iAnd x 255 ∧ iAnd x 255 ≤ 255 := by
  unfold iAnd
  obtain ⟨j, hj, e⟩ := pk_andE (Int32.ofInt x) (m := Int32.ofInt 255) 8 (by decide +kernel)
  rw [e, nI_toInt (by omega)]
  omega
theorem iXor_1 : ∀ x : Nat, x < 128 → iXor (x : Int) 1 = if x % 2 = 0 then ((x + 1 : Nat) : Int) else ((x - 1 : Nat) : Int) := by decide +kernel
/-- the bits of s that aren't in m -/
def clr (s m : Nat) : Nat := s ^^^ (s &&& m)
theorem clr_bit (s m i : Nat) : (clr s m).testBit i = (s.testBit i && !m.testBit i) := by
  unfold clr
  rw [Nat.testBit_xor, Nat.testBit_and]
  cases s.testBit i <;> cases m.testBit i <;> rfl
theorem iClr {s m : Nat} (hs : s < 2 ^ 31) : iAnd (s : Int) (iXor (m : Int) (-1)) = ((clr s m : Nat) : Int) := by
  have e : iAnd (s : Int) (iXor (m : Int) (-1)) = (nI s &&& (nI m ^^^ Int32.ofInt (-1))).toInt := by
    unfold iAnd iXor
    rw [Int32.ofInt_toInt, ofI, ofI]
  have h : nI s &&& (nI m ^^^ Int32.ofInt (-1)) = nI (clr s m) := by
    apply Int32.toBitVec_inj.1
    have e1 : (Int32.ofInt (-1)).toBitVec = BitVec.allOnes 32 := by decide
    show BitVec.ofNat 32 s &&& (BitVec.ofNat 32 m ^^^ (Int32.ofInt (-1)).toBitVec) = BitVec.ofNat 32 (clr s m)
    rw [e1]
    apply BitVec.eq_of_getLsbD_eq
    intro i hi
    simp only [BitVec.getLsbD_and, BitVec.getLsbD_xor, BitVec.getLsbD_ofNat, BitVec.getLsbD_allOnes, hi, clr_bit]
    cases s.testBit i <;> cases m.testBit i <;> rfl
  have hlt : clr s m < 2 ^ 31 := by
    apply Nat.lt_of_le_of_lt _ hs
    apply Nat.le_of_testBit
    intro i hi
    rw [clr_bit, Bool.and_eq_true] at hi
    exact hi.1
  rw [e, h, nI_toInt hlt]
