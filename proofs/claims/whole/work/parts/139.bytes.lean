/-! bytes of a word, on both sides -/
/-- byte j of a word, the most significant first -/
def am_by (w : Int32) (j : Nat) : Nat := w.toBitVec.toNat / 2 ^ (24 - 8 * j) % 256
theorem am_by_lt (w : Int32) (j : Nat) : am_by w j < 256 := Nat.mod_lt _ (by omega)
theorem ub_ok (w : Int32) (k : Nat) (hk : k < 32) : ((w.toUInt32 >>> ((nI k).toUInt32 &&& Int32.toUInt32 31)).toInt32) &&& 255 = nI (w.toBitVec.toNat / 2 ^ k % 256) := by
  have hs : ∀ k, k < 32 → (((nI k).toUInt32 &&& Int32.toUInt32 31).toBitVec % 32).toNat = k := by decide +kernel
  rw [pk_and _ 8 (by decide +kernel), pk_ushr w (nI k) k (hs k hk)]
theorem sb_ok' (w : Int32) (k : Nat) (hk : k ≤ 24) : (w >>> (nI k &&& 31)) &&& 255 = nI (w.toBitVec.toNat / 2 ^ k % 256) := by
  rw [pk_and _ 8 (by decide +kernel)]
  congr 1
  have h1 : (w >>> (nI k &&& 31)).toBitVec = w.toBitVec.sshiftRight k := by
    have e := nI_sc (l := k) (by omega)
    show w.toBitVec.sshiftRight' ((nI k &&& 31).toBitVec.smod 32) = _
    unfold BitVec.sshiftRight'
    rw [e]
  rw [h1]
  apply Nat.eq_of_testBit_eq
  intro i
  show (_ % 2 ^ 8).testBit i = (_ % 2 ^ 8).testBit i
  rw [Nat.testBit_mod_two_pow, Nat.testBit_mod_two_pow, Nat.testBit_div_two_pow]
  by_cases hi : i < 8
  · have h2 : (w.toBitVec.sshiftRight k).getLsbD i = w.toBitVec.getLsbD (k + i) := by
      rw [BitVec.getLsbD_sshiftRight]
      have h3 : (decide (32 ≤ i)) = false := by simp; omega
      rw [h3]
      simp only [Bool.not_false, Bool.true_and]
      rw [if_pos (by omega)]
    have h4 : (w.toBitVec.sshiftRight k).toNat.testBit i = w.toBitVec.toNat.testBit (k + i) := h2
    rw [h4, Nat.add_comm]
  · simp [hi]
