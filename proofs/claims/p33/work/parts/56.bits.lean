/-! the bits that the law takes of its numbers: what is known of them -/
theorem msk_b (x : Int) (m : Nat) (hm : m < 2147483648) : 0 ≤ (Int32.ofInt x &&& Int32.ofInt (m : Int)).toInt ∧ (Int32.ofInt x &&& Int32.ofInt (m : Int)).toInt ≤ (m : Int) := by
  have e : (Int32.ofInt x &&& Int32.ofInt (m : Int)).toInt = ((Int32.ofInt x).toBitVec &&& (Int32.ofInt (m : Int)).toBitVec).toInt := rfl
  have hmn : (Int32.ofInt (m : Int)).toBitVec.toNat = m := by
    show (BitVec.ofInt 32 (m : Int)).toNat = m
    rw [BitVec.toNat_ofInt]
    omega
  have h1 : ((Int32.ofInt x).toBitVec &&& (Int32.ofInt (m : Int)).toBitVec).toNat ≤ m := by
    rw [BitVec.toNat_and, hmn]
    exact Nat.and_le_right
  have h2 := BitVec.toInt_eq_toNat_of_lt (x := (Int32.ofInt x).toBitVec &&& (Int32.ofInt (m : Int)).toBitVec) (by omega)
  rw [e, h2]
  omega
theorem i32_b (z : Int32) : am_rg z.toInt := by
  have h1 := z.toInt_lt
  have h2 := z.le_toInt
  unfold am_rg
  omega
theorem sh_b {x : Int} (hx : am_rg x) (h0 : 0 ≤ x) (k : Int) : 0 ≤ (Int32.ofInt x >>> (Int32.ofInt k &&& 31)).toInt := by
  have e : (Int32.ofInt x >>> (Int32.ofInt k &&& 31)).toInt = (BitVec.sshiftRight (Int32.ofInt x).toBitVec ((Int32.ofInt k &&& 31).toBitVec.smod 32).toNat).toInt := rfl
  rw [e, BitVec.toInt_sshiftRight]
  have e2 : (Int32.ofInt x).toBitVec.toInt = x := am_toInt hx
  rw [e2, Int.shiftRight_eq_div_pow]
  exact Int.ediv_nonneg h0 (Int.le_of_lt (Int.pow_pos (n := ((2 : Nat) : Int)) (by decide)))
theorem tm_b {x m : Int} (hx : 0 ≤ x) (hm : 0 < m) : 0 ≤ Int.tmod x m ∧ Int.tmod x m < m := ⟨Int.tmod_nonneg m hx, Int.tmod_lt_of_pos x hm⟩
theorem ce_b (L : Int) (xs : Int → Int) (k : Int) : 0 ≤ am_ce L xs k ∧ am_ce L xs k ≤ 2147483647 := msk_b _ 2147483647 (by decide)
