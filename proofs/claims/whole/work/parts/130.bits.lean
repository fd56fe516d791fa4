/-! numbers and bits -/
theorem nI_and (a b : Nat) : nI a &&& nI b = nI (a &&& b) := by
  apply Int32.toBitVec_inj.mp
  show BitVec.ofNat 32 a &&& BitVec.ofNat 32 b = BitVec.ofNat 32 (a &&& b)
  rw [BitVec.ofNat_and]
theorem nI_or (a b : Nat) : nI a ||| nI b = nI (a ||| b) := by
  apply Int32.toBitVec_inj.mp
  show BitVec.ofNat 32 a ||| BitVec.ofNat 32 b = BitVec.ofNat 32 (a ||| b)
  rw [BitVec.ofNat_or]
theorem nI_xor (a b : Nat) : nI a ^^^ nI b = nI (a ^^^ b) := by
  apply Int32.toBitVec_inj.mp
  show BitVec.ofNat 32 a ^^^ BitVec.ofNat 32 b = BitVec.ofNat 32 (a ^^^ b)
  rw [BitVec.ofNat_xor]
/-- the shift count, as the machine takes it -/
theorem nI_sc {l : Nat} (h : l < 32) : ((nI l &&& 31).toBitVec.smod 32).toNat = l := by
  have h2 : ∀ l, l < 32 → ((nI l &&& 31).toBitVec.smod 32).toNat = l := by decide +kernel
  exact h2 l h
theorem nI_shl {a l : Nat} (h : l < 32) (hb : a * 2 ^ l < 2 ^ 32) : nI a <<< (nI l &&& 31) = nI (a * 2 ^ l) := pk_shlN _ l (nI_sc h) hb
theorem nI_shr {a l : Nat} (ha : a < 2 ^ 31) (h : l < 32) : nI a >>> (nI l &&& 31) = nI (a / 2 ^ l) := pk_shrN ha _ l (nI_sc h)
theorem nI_pow {l : Nat} (h : l < 31) : (1 : Int32) <<< (nI l &&& 31) = nI (2 ^ l) := by
  have h1 : (2 : Nat) ^ l < 2 ^ 32 := Nat.pow_lt_pow_right (by omega) (by omega)
  rw [show (1 : Int32) = nI 1 by decide +kernel, nI_shl (by omega) (by omega), Nat.one_mul]
/-- the bit l -/
theorem nI_bit {a l : Nat} (ha : a < 2 ^ 31) (h : l < 32) : (nI a >>> (nI l &&& 31)) &&& 1 = nI (if a.testBit l then 1 else 0) := by
  rw [nI_shr ha h, show (1 : Int32) = nI 1 by decide +kernel, nI_and, Nat.and_one_is_mod]
  congr 1
  rw [Nat.testBit_eq_decide_div_mod_eq]
  by_cases hc : a / 2 ^ l % 2 = 1
  · simp [hc]
  · have : a / 2 ^ l % 2 = 0 := by omega
    simp [this]
theorem nI_bit1 {a l : Nat} (ha : a < 2 ^ 31) (h : l < 32) : ((nI a >>> (nI l &&& 31)) &&& 1 = 1) ↔ a.testBit l = true := by
  rw [nI_bit ha h]
  cases a.testBit l
  · exact ⟨fun h => absurd h (by decide +kernel), fun h => by cases h⟩
  · exact ⟨fun _ => rfl, fun _ => by decide +kernel⟩
theorem nI_m1 {a : Nat} (h : a < 2 ^ 31) : ¬ nI a = -1 := by
  intro e
  have h1 := congrArg Int32.toInt e
  rw [nI_toInt h] at h1
  have h2 : (-1 : Int32).toInt = -1 := by decide +kernel
  rw [h2] at h1
  omega
/-- complement within a number -/
def an_not (a b : Nat) : Nat := a &&& (b ^^^ (2 ^ 32 - 1))
theorem nI_not (b : Nat) : nI b ^^^ (-1) = nI (b ^^^ (2 ^ 32 - 1)) := by
  rw [show (-1 : Int32) = nI (2 ^ 32 - 1) by decide +kernel, nI_xor]
theorem an_not_bit {a b i : Nat} (hi : i < 32) : (an_not a b).testBit i = (a.testBit i && !b.testBit i) := by
  unfold an_not
  rw [Nat.testBit_and, Nat.testBit_xor, Nat.testBit_two_pow_sub_one]
  simp [hi]
/-- one place of the abstract heap -/
theorem si_at {σ : ja_S} {k j : Nat} {v : Int32} (a b : Nat) : (ja_si σ k j v).1 a b = if a = k ∧ b = j then v else σ.1 a b := by
  unfold ja_si
  dsimp only
  by_cases h : a = k
  · subst h
    rw [va_up_self]
    unfold upd
    by_cases h2 : b = j
    · rw [if_pos h2, if_pos ⟨rfl, h2⟩]
    · rw [if_neg h2, if_neg (fun q => h2 q.2)]
  · rw [va_up_ne _ _ h, if_neg (fun q => h q.1)]
theorem si_row {σ : ja_S} {k j : Nat} {v : Int32} {a : Nat} (h : a ≠ k) : (ja_si σ k j v).1 a = σ.1 a := va_up_ne _ _ h
theorem si_l {σ : ja_S} {k j : Nat} {v : Int32} : (ja_si σ k j v).2 = σ.2 := rfl
theorem sl_i {σ : ja_S} {k j : Nat} {v : Int64} : (ja_sl σ k j v).1 = σ.1 := rfl
theorem sl_row {σ : ja_S} {k j : Nat} {v : Int64} {a : Nat} (h : a ≠ k) : (ja_sl σ k j v).2 a = σ.2 a := va_up_ne _ _ h
/-- only the cells of S have changed -/
def ja_ch2 (S : Nat → Prop) (σ σ' : ja_S) : Prop := ∀ k, ¬ S k → σ'.1 k = σ.1 k ∧ σ'.2 k = σ.2 k
theorem ch_rf {S : Nat → Prop} {σ : ja_S} : ja_ch2 S σ σ := fun _ _ => ⟨rfl, rfl⟩
theorem ch_tr {S T : Nat → Prop} {σ σ' σ2 : ja_S} (h1 : ja_ch2 S σ σ') (h2 : ja_ch2 T σ' σ2) : ja_ch2 (fun k => S k ∨ T k) σ σ2 := fun k hk => ⟨((h2 k (fun h => hk (Or.inr h))).1).trans (h1 k (fun h => hk (Or.inl h))).1, ((h2 k (fun h => hk (Or.inr h))).2).trans (h1 k (fun h => hk (Or.inl h))).2⟩
theorem ch_mono {S T : Nat → Prop} {σ σ' : ja_S} (h : ja_ch2 S σ σ') (hST : ∀ k, S k → T k) : ja_ch2 T σ σ' := fun k hk => h k (fun z => hk (hST k z))
theorem ch_si {σ : ja_S} {k j : Nat} {v : Int32} : ja_ch2 (fun a => a = k) σ (ja_si σ k j v) := fun _ ha => ⟨va_up_ne _ _ ha, rfl⟩
theorem ch_sl {σ : ja_S} {k j : Nat} {v : Int64} : ja_ch2 (fun a => a = k) σ (ja_sl σ k j v) := fun _ ha => ⟨rfl, va_up_ne _ _ ha⟩
