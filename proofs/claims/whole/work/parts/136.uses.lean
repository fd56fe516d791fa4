/-! usesSheet: the sheet's rules and routes are asked -/
def am_u1 (σ : ja_S) : ja_S := (va_up σ.1 56 (fun j => if j < 96 then σ.1 46 (2 + j) else σ.1 56 j), σ.2)
def am_u2 (σ : ja_S) : ja_S := (va_up σ.1 57 (fun j => if j < 8 then σ.1 48 j else σ.1 57 j), σ.2)
def am_u3 (σ : ja_S) : ja_S := ja_si (ja_si (ja_si σ 45 27 (σ.1 46 0)) 45 28 (((1 : Int32) <<< ((σ.1 46 0) &&& 31)) - 1)) 45 29 0
def am_us (σ : ja_S) : ja_S := am_u3 (am_u2 (am_u1 σ))
theorem us_L2 : ∀ (n i : Nat) (σ : ja_S), i ≤ 96 → 96 - i < n → f_Model_usesSheet_L2 n 45 (nI i) σ = f_Model_usesSheet_L30 ja_FU 45 0 (va_up σ.1 56 (fun j => if i ≤ j ∧ j < 96 then σ.1 46 (2 + j) else σ.1 56 j), σ.2) := by
  intro n
  induction n with
  | zero => intro i σ _ h; omega
  | succ n ih =>
    intro i σ hi hn
    unfold f_Model_usesSheet_L2
    rw [show ja_q 45 3 = 46 from rfl, show ja_q 45 25 = 56 from rfl, show (96 : Int32) = nI 96 by decide +kernel]
    by_cases h : i = 96
    · subst h
      rw [if_pos (nI_le (Nat.le_refl _) (by omega))]
      congr 1
      have e : (fun j => if 96 ≤ j ∧ j < 96 then σ.1 46 (2 + j) else σ.1 56 j) = σ.1 56 := by
        funext j
        rw [if_neg (by omega)]
      rw [e, va_up_id]
    · rw [if_neg (nI_ge (by omega) (by omega)), show (2 : Int32) = nI 2 by decide +kernel, nI_add, ld0 (N := 98) rfl (by omega) (by omega), Option.bind_some, st0' (N := 128) rfl (by omega) (by omega), Option.bind_some, nI_1, ih (i + 1) _ (by omega) (by omega)]
      congr 1
      unfold ja_si
      rw [va_up_up]
      congr 2
      funext j
      dsimp only
      rw [va_up_self, va_up_ne _ _ (show (46 : Nat) ≠ 56 by omega)]
      unfold upd
      by_cases h1 : j = i
      · subst h1
        rw [if_neg (by omega), if_pos rfl, if_pos (by omega)]
      · by_cases h2 : i + 1 ≤ j ∧ j < 96
        · rw [if_pos h2, if_pos (by omega)]
        · rw [if_neg h2, if_neg h1, if_neg (by omega)]
theorem us_L30 : ∀ (n i : Nat) (σ : ja_S), i ≤ 8 → 8 - i < n → f_Model_usesSheet_L30 n 45 (nI i) σ = some (am_u3 (va_up σ.1 57 (fun j => if i ≤ j ∧ j < 8 then σ.1 48 j else σ.1 57 j), σ.2)) := by
  intro n
  induction n with
  | zero => intro i σ _ h; omega
  | succ n ih =>
    intro i σ hi hn
    unfold f_Model_usesSheet_L30
    rw [show ja_q 45 3 = 46 from rfl, show ja_q 45 5 = 48 from rfl, show ja_q 45 26 = 57 from rfl, show (8 : Int32) = nI 8 by decide +kernel]
    by_cases h : i = 8
    · subst h
      rw [if_pos (nI_le (Nat.le_refl _) (by omega)), am_z, ld0 (N := 98) rfl (by omega) (by omega), Option.bind_some]
      unfold ja_pu
      rw [Option.bind_some, Option.bind_some, Option.bind_some]
      have e : (fun j => if 8 ≤ j ∧ j < 8 then σ.1 48 j else σ.1 57 j) = σ.1 57 := by
        funext j
        rw [if_neg (by omega)]
      rw [e, va_up_id]
      unfold am_u3
      rw [si_at, if_pos ⟨rfl, rfl⟩, ← am_z]
    · rw [if_neg (nI_ge (by omega) (by omega)), ld0 (N := 8) rfl (by omega) (by omega), Option.bind_some, st0' (N := 8) rfl (by omega) (by omega), Option.bind_some, nI_1, ih (i + 1) _ (by omega) (by omega)]
      congr 2
      unfold ja_si
      rw [va_up_up]
      congr 2
      funext j
      dsimp only
      rw [va_up_self, va_up_ne _ _ (show (48 : Nat) ≠ 57 by omega)]
      unfold upd
      by_cases h1 : j = i
      · subst h1
        rw [if_neg (by omega), if_pos rfl, if_pos (by omega)]
      · by_cases h2 : i + 1 ≤ j ∧ j < 8
        · rw [if_pos h2, if_pos (by omega)]
        · rw [if_neg h2, if_neg h1, if_neg (by omega)]
theorem uses_ok {σ : ja_S} : f_Model_usesSheet 45 σ = some (am_us σ) := by
  unfold f_Model_usesSheet
  rw [am_z, us_L2 ja_FU 0 σ (by omega) (by unfold ja_FU; omega), am_z, us_L30 ja_FU 0 _ (by omega) (by unfold ja_FU; omega)]
  unfold am_us am_u2 am_u1
  have e1 : (fun j => if 0 ≤ j ∧ j < 96 then σ.1 46 (2 + j) else σ.1 56 j) = fun j => if j < 96 then σ.1 46 (2 + j) else σ.1 56 j := by
    funext j
    by_cases h : j < 96
    · rw [if_pos h, if_pos (by omega)]
    · rw [if_neg h, if_neg (by omega)]
  rw [e1]
  congr 3
  dsimp only
  congr 1
  funext j
  by_cases h : j < 8
  · rw [if_pos h, if_pos (by omega)]
  · rw [if_neg h, if_neg (by omega)]
theorem u1_row {σ : ja_S} {k : Nat} (h : k ≠ 56) : (am_u1 σ).1 k = σ.1 k := va_up_ne _ _ h
theorem u2_row {σ : ja_S} {k : Nat} (h : k ≠ 57) : (am_u2 σ).1 k = σ.1 k := va_up_ne _ _ h
theorem u1_56 {σ : ja_S} : (am_u1 σ).1 56 = fun j => if j < 96 then σ.1 46 (2 + j) else σ.1 56 j := by unfold am_u1; exact va_up_self σ.1 56 _
theorem u2_57 {σ : ja_S} : (am_u2 σ).1 57 = fun j => if j < 8 then σ.1 48 j else σ.1 57 j := by unfold am_u2; exact va_up_self σ.1 57 _
theorem us_46 {σ : ja_S} {k : Nat} (h2 : k ≠ 56) (h3 : k ≠ 57) : (am_u2 (am_u1 σ)).1 k = σ.1 k := by rw [u2_row h3, u1_row h2]
theorem us_row {σ : ja_S} {k : Nat} (h1 : k ≠ 45) (h2 : k ≠ 56) (h3 : k ≠ 57) : (am_us σ).1 k = σ.1 k := by
  unfold am_us am_u3
  rw [si_row h1, si_row h1, si_row h1, us_46 h2 h3]
theorem us_45 {σ : ja_S} {j : Nat} (h : j ≠ 27 ∧ j ≠ 28 ∧ j ≠ 29) : (am_us σ).1 45 j = σ.1 45 j := by
  unfold am_us am_u3
  rw [si_at, if_neg (by omega), si_at, if_neg (by omega), si_at, if_neg (by omega), us_46 (by omega) (by omega)]
theorem us_many {σ : ja_S} : (am_us σ).1 45 27 = σ.1 46 0 ∧ (am_us σ).1 45 28 = ((1 : Int32) <<< ((σ.1 46 0) &&& 31)) - 1 ∧ (am_us σ).1 45 29 = 0 := by
  unfold am_us am_u3
  refine ⟨?_, ?_, ?_⟩
  · rw [si_at, if_neg (by omega), si_at, if_neg (by omega), si_at, if_pos ⟨rfl, rfl⟩, us_46 (by omega) (by omega)]
  · rw [si_at, if_neg (by omega), si_at, if_pos ⟨rfl, rfl⟩, us_46 (by omega) (by omega)]
  · rw [si_at, if_pos ⟨rfl, rfl⟩]
theorem us_56 {σ : ja_S} {j : Nat} (h : j < 96) : (am_us σ).1 56 j = σ.1 46 (2 + j) := by
  unfold am_us am_u3
  rw [si_row (by omega), si_row (by omega), si_row (by omega), u2_row (by omega), u1_56]
  exact if_pos h
theorem us_57 {σ : ja_S} {j : Nat} (h : j < 8) : (am_us σ).1 57 j = σ.1 48 j := by
  unfold am_us am_u3
  rw [si_row (by omega), si_row (by omega), si_row (by omega), u2_57]
  exact (if_pos h).trans (by rw [u1_row (by omega)])
section US
variable {A : am_A} {σ : ja_S}
theorem am_M_us (hM : am_M A σ) : am_M A (am_us σ) := by
  unfold am_M at hM ⊢
  rw [us_row (k := 46) (by omega) (by omega) (by omega), us_row (k := 47) (by omega) (by omega) (by omega), us_row (k := 48) (by omega) (by omega) (by omega), us_row (k := 49) (by omega) (by omega) (by omega), us_row (k := 50) (by omega) (by omega) (by omega), us_row (k := 51) (by omega) (by omega) (by omega), us_45 (j := 0) (by omega), us_45 (j := 1) (by omega), us_45 (j := 2) (by omega), us_45 (j := 8) (by omega), us_45 (j := 11) (by omega), us_45 (j := 14) (by omega), us_45 (j := 15) (by omega), us_45 (j := 36) (by omega)]
  exact hM
theorem am_q_us (hA : am_ok A) (hM : am_M A σ) : am_q A.2.1 (am_us σ) := by
  have hl : A.2.1.length ≤ 24 := hA.2.2.1
  refine ⟨fun i hi => ?_, by omega, fun r hr => am_rok_rb (hA.2.2.2.1 r hr) hA.2.1⟩
  have h := am_M_rule hM hi
  rw [Nat.zero_add, us_56 (by omega), us_56 (by omega), us_56 (by omega), us_56 (by omega)]
  exact h
theorem us_used (hA : am_ok A) (hM : am_M A σ) : (am_us σ).1 45 27 = nI A.2.1.length ∧ (am_us σ).1 45 28 = nI (2 ^ A.2.1.length - 1) ∧ (am_us σ).1 45 29 = nI 0 := by
  have hl : A.2.1.length ≤ 24 := hA.2.2.1
  have h1 := am_M_rules hM
  have hp : 0 < 2 ^ A.2.1.length := Nat.pos_of_ne_zero (by simp)
  refine ⟨us_many.1.trans h1, us_many.2.1.trans ?_, us_many.2.2.trans am_z⟩
  rw [h1, nI_pow (by omega), show (1 : Int32) = nI 1 by decide +kernel, pk_sub (by omega)]
end US
