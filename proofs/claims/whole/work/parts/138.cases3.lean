/-! freeLevers -/
/-- the bits of those that p holds of, from i on -/
def am_bits (p : Nat → Bool) : Nat → Nat → Nat → Nat
  | 0, _, acc => acc
  | k + 1, i, acc => am_bits p k (i + 1) (if p i = true then acc ||| 2 ^ i else acc)
theorem io_m1 {o : Option Nat} (h : ∀ k ∈ o, k < 2 ^ 31) : am_io o = -1 ↔ o = none := by
  cases o with
  | none => exact ⟨fun _ => rfl, fun _ => rfl⟩
  | some k => exact ⟨fun q => absurd q (nI_m1 (h k rfl)), fun q => by cases q⟩
theorem first_lt {p : Nat → Bool} : ∀ (k i j : Nat), am_first p k i = some j → i ≤ j ∧ j < i + k
  | 0, _, _, h => by cases h
  | k + 1, i, j, h => by
    unfold am_first at h
    by_cases hp : p i = true
    · rw [if_pos hp] at h
      cases h
      omega
    · rw [if_neg hp] at h
      have := first_lt k (i + 1) j h
      omega
section C3
variable {A : am_A} {a : Nat → Int32} {σ : ja_S}
/-- no rule blocks the lever -/
def am_free (rs : List am_R) (s l : Nat) : Bool := (am_first (fun k => am_blk (am_rd rs k) s l) rs.length 0).isNone
theorem am_free_io {rs : List am_R} {s l : Nat} (h : rs.length ≤ 100) : am_io (am_first (fun k => am_blk (am_rd rs k) s l) rs.length 0) = -1 ↔ am_free rs s l = true := by
  unfold am_free
  rw [io_m1 (fun k hk => by have := first_lt _ _ _ hk; omega)]
  cases am_first (fun k => am_blk (am_rd rs k) s l) rs.length 0 <;> simp
theorem cfree_loop (hA : am_ok A) (hC : am_C A σ) {s : Nat} (hs : s < 2 ^ 12) : ∀ (n i acc : Nat), i ≤ A.1 → A.1 - i < n → f_Frame_freeLevers_L18 n 0 (nI s) (nI acc) (nI i) σ = some (nI (am_bits (am_free A.2.1 s) (A.1 - i) i acc), σ) := by
  have hn12 : A.1 ≤ 12 := hA.2.1
  have hl : A.2.1.length ≤ 24 := hA.2.2.1
  have e1 : σ.1 3 0 = nI A.1 := hC.2.2.2.2.1.1
  intro n
  induction n with
  | zero => intro i acc _ h; omega
  | succ n ih =>
    intro i acc hi hn
    unfold f_Frame_freeLevers_L18
    rw [show ja_q 0 3 = 3 from rfl, e1]
    by_cases h : i = A.1
    · subst h
      rw [if_pos (nI_le (Nat.le_refl _) (by omega)), Nat.sub_self]
      rfl
    · rw [if_neg (nI_ge (by omega) (by omega)), firstB_ok hA hC hs (by omega), Option.bind_some, show A.1 - i = (A.1 - (i + 1)) + 1 by omega]
      unfold am_bits
      by_cases hf : am_free A.2.1 s i = true
      · rw [if_pos ((am_free_io (by omega)).mpr hf), if_pos hf, nI_pow (by omega), nI_or, nI_1, ih (i + 1) _ (by omega) (by omega)]
      · rw [if_neg (fun q => hf ((am_free_io (by omega)).mp q)), if_neg hf, nI_1, ih (i + 1) _ (by omega) (by omega)]
theorem isFree_ok (hA : am_ok A) (hM : am_M A σ) {s l : Nat} (hs : s < 2 ^ 12) (hl2 : l < 12) : f_Model_isFree 45 (nI s) (nI l) (am_us σ) = some (am_bz (am_free A.2.1 s l), am_us σ) := by
  have hl : A.2.1.length ≤ 24 := hA.2.2.1
  unfold f_Model_isFree
  rw [(us_used hA hM).2.2, has_ok (by omega) (by omega), Option.bind_some, Nat.zero_testBit, if_pos (am_bz0.mpr rfl), blockOf_ok hA hM hs hl2, Option.bind_some]
  by_cases hf : am_free A.2.1 s l = true
  · rw [if_pos ((am_free_io (by omega)).mpr hf), hf]
    rfl
  · rw [if_neg (fun q => hf ((am_free_io (by omega)).mp q)), show am_free A.2.1 s l = false by simpa using hf]
    rfl
theorem mfree_loop (hA : am_ok A) (hM : am_M A σ) {s : Nat} (hs : s < 2 ^ 12) : ∀ (n i acc : Nat), i ≤ A.1 → A.1 - i < n → f_Model_freeLevers_L24 n 45 (nI s) (nI acc) (nI i) (am_us σ) = some (nI (am_bits (am_free A.2.1 s) (A.1 - i) i acc), am_us σ) := by
  have hn12 : A.1 ≤ 12 := hA.2.1
  have e1 : (am_us σ).1 45 0 = nI A.1 := (us_45 (by omega)).trans hM.1
  intro n
  induction n with
  | zero => intro i acc _ h; omega
  | succ n ih =>
    intro i acc hi hn
    unfold f_Model_freeLevers_L24
    rw [e1]
    by_cases h : i = A.1
    · subst h
      rw [if_pos (nI_le (Nat.le_refl _) (by omega)), Nat.sub_self]
      rfl
    · rw [if_neg (nI_ge (by omega) (by omega)), isFree_ok hA hM hs (by omega), Option.bind_some, show A.1 - i = (A.1 - (i + 1)) + 1 by omega]
      unfold am_bits
      cases hf : am_free A.2.1 s i with
      | true => rw [if_neg bz1, if_pos rfl, nI_pow (by omega), nI_or, nI_1, ih (i + 1) _ (by omega) (by omega)]
      | false => rw [if_pos (am_bz0.mpr rfl), if_neg (by simp), am_z, nI_or, Nat.or_zero, nI_1, ih (i + 1) _ (by omega) (by omega)]
theorem case_20 (hA : am_ok A) (hC : am_C A σ) (hM : am_M A σ) : am_ask A 20 a σ := by
  have hp := p12 hA.2.1
  have hn12 : A.1 ≤ 12 := hA.2.1
  have e1 : σ.1 3 0 = nI A.1 := hC.2.2.2.2.1.1
  have e2 : (ja_si σ 45 9 0).1 45 0 = nI A.1 := by rw [si_at, if_neg (by omega)]; exact hM.1
  have hM' := am_M_th (v := 0) hM
  cases hin : am_in (a 1) (2 ^ A.1) with
  | false =>
    refine am_asked hM ?_
    rw [jc_20]
    unfold f_Frame_freeLevers f_Model_freeLevers ja_pu
    rw [show ja_q 0 3 = 3 from rfl, hasState_ok e1 hA.2.1, hin, Option.bind_some, if_pos (am_bz0.mpr rfl), Option.bind_some, Option.bind_some, isState_ok e2 hA.2.1, hin, Option.bind_some, if_pos (am_bz0.mpr rfl), Option.bind_some, if_pos rfl]
  | true =>
    refine am_asked2 hM ?_
    obtain ⟨s, hs, es⟩ := am_in_t hin (by omega)
    have h1 := cfree_loop hA hC (s := s) (by omega) ja_FU 0 0 (by omega) (by unfold ja_FU; omega)
    have h2 := mfree_loop hA hM' (s := s) (by omega) ja_FU 0 0 (by omega) (by unfold ja_FU; omega)
    rw [← am_z] at h1 h2
    rw [jc_20]
    unfold f_Frame_freeLevers f_Model_freeLevers ja_pu
    rw [show ja_q 0 3 = 3 from rfl, hasState_ok e1 hA.2.1, hin, Option.bind_some, if_neg bz1, es, h1, Option.bind_some, Option.bind_some, isState_ok e2 hA.2.1, am_in_nI hs (by omega), Option.bind_some, if_neg bz1, uses_ok, Option.bind_some, h2, Option.bind_some, if_pos rfl]
end C3
