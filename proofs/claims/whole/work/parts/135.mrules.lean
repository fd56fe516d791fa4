/-! the reference's rules -/
/-- the rules that are asked: rows of four at cell 56 -/
def am_q (rs : List am_R) (σ : ja_S) : Prop := am_r4 (σ.1 56) 0 rs ∧ rs.length ≤ 32 ∧ ∀ r ∈ rs, am_rb r
def am_rd (rs : List am_R) (k : Nat) : am_R := rs.getD k (0, 0, 0, 0)
theorem bz1 : ¬ am_bz true = 0 := by decide
theorem nI_ne {a b : Nat} (h : a ≠ b) (ha : a < 2 ^ 31) (hb : b < 2 ^ 31) : ¬ nI a = nI b := fun q => h ((nI_eq ha hb).mp q)
theorem nI_ne2 {a : Nat} (h : a ≠ 2) (ha : a < 2 ^ 31) : ¬ nI a = 2 := by
  rw [show (2 : Int32) = nI 2 by decide +kernel]
  exact nI_ne h ha (by omega)
theorem nI_ne0' {a : Nat} (h : a ≠ 0) (ha : a < 2 ^ 31) : ¬ nI a = 0 := by
  rw [am_z]
  exact nI_ne h ha (by omega)
theorem has_ok {s l : Nat} {σ : ja_S} (hs : s < 2 ^ 31) (hl : l < 32) : f_Model_has (nI s) (nI l) σ = some (am_bz (s.testBit l), σ) := by
  unfold f_Model_has
  by_cases h : s.testBit l = true
  · rw [if_pos ((nI_bit1 hs hl).mpr h), h]
    rfl
  · rw [if_neg (fun q => h ((nI_bit1 hs hl).mp q)), show s.testBit l = false by simpa using h]
    rfl
theorem nI_4k {k : Nat} (c : Int32) (j : Nat) (hc : c = nI j) : (4 : Int32) * nI k + c = nI (4 * k + j) := by
  rw [hc, show (4 : Int32) = nI 4 by decide +kernel, pk_mul, nI_add]
theorem nI_4k0 {k : Nat} : (4 : Int32) * nI k = nI (4 * k) := by
  rw [show (4 : Int32) = nI 4 by decide +kernel, pk_mul]
theorem ld56 {rs : List am_R} {σ : ja_S} {k : Nat} (h : am_q rs σ) (hk : k < rs.length) : ja_ld ja_L0 σ 56 (nI (4 * k)) = some (nI (am_rd rs k).1) ∧ ja_ld ja_L0 σ 56 (nI (4 * k + 1)) = some (nI (am_rd rs k).2.1) ∧ ja_ld ja_L0 σ 56 (nI (4 * k + 2)) = some (nI (am_rd rs k).2.2.1) ∧ ja_ld ja_L0 σ 56 (nI (4 * k + 3)) = some (am_cd (am_rd rs k).2.2.2) := by
  obtain ⟨h1, h2, h3⟩ := h
  have h4 := h1 k hk
  rw [Nat.zero_add] at h4
  refine ⟨?_, ?_, ?_, ?_⟩
  · rw [ld0 (N := 128) rfl (by omega) (by omega), h4.1]; rfl
  · rw [ld0 (N := 128) rfl (by omega) (by omega), h4.2.1]; rfl
  · rw [ld0 (N := 128) rfl (by omega) (by omega), h4.2.2.1]; rfl
  · rw [ld0 (N := 128) rfl (by omega) (by omega), h4.2.2.2]; rfl
theorem am_q_rb {rs : List am_R} {σ : ja_S} {k : Nat} (h : am_q rs σ) (hk : k < rs.length) : am_rb (am_rd rs k) := h.2.2 _ (getD_mem hk)
theorem isActive_ok {rs : List am_R} {σ : ja_S} {k s : Nat} (h : am_q rs σ) (hk : k < rs.length) (hs : s < 2 ^ 31) : f_Model_isActive 45 (nI k) (nI s) σ = some (am_bz (am_act (am_rd rs k).2.2.2 s), σ) := by
  have hc24 : (am_rd rs k).2.2.2 ≤ 24 := (am_q_rb h hk).2.2.2
  unfold f_Model_isActive am_act
  rw [show ja_q 45 25 = 56 from rfl, nI_4k 3 3 (by decide +kernel), (ld56 h hk).2.2.2, Option.bind_some]
  generalize (am_rd rs k).2.2.2 = c at hc24 ⊢
  by_cases hc : c = 0
  · rw [hc, if_pos (show am_cd 0 = -1 by decide +kernel)]
    rfl
  · rw [cd_pos hc, if_neg (nI_m1 (by omega)), show (2 : Int32) = nI 2 by decide +kernel, pk_div (by omega) (by omega) (by omega), has_ok hs (by omega), Option.bind_some]
    have e : ∀ y : Int32, f_Model_isActive_B31 (nI (c - 1)) y σ = some ((if y = nI ((c - 1) % 2) then 1 else 0), σ) := by
      intro y
      unfold f_Model_isActive_B31
      rw [show (2 : Int32) = nI 2 by decide +kernel, pk_rem (by omega) (by omega) (by omega)]
      by_cases hy : y = nI ((c - 1) % 2)
      · rw [if_pos hy, if_pos hy]
      · rw [if_neg hy, if_neg hy]
    have hm : (c - 1) % 2 = 0 ∨ (c - 1) % 2 = 1 := by omega
    have hc0 : (c == 0) = false := by simp [hc]
    rw [hc0, Bool.false_or]
    cases s.testBit ((c - 1) / 2) with
    | false =>
      rw [if_pos (am_bz0.mpr rfl), e]
      rcases hm with hm | hm <;> rw [hm] <;> exact congrArg (fun z => some (z, σ)) (by decide +kernel)
    | true =>
      rw [if_neg bz1, e]
      rcases hm with hm | hm <;> rw [hm] <;> exact congrArg (fun z => some (z, σ)) (by decide +kernel)
theorem mforb_ok {rs : List am_R} {σ : ja_S} {k s : Nat} (h : am_q rs σ) (hk : k < rs.length) (hs : s < 2 ^ 31) : f_Model_forbids 45 (nI k) (nI s) σ = some (am_bz (am_forb (am_rd rs k) s), σ) := by
  have hb := am_q_rb h hk
  obtain ⟨b1, b2, b3, b4⟩ := hb
  unfold f_Model_forbids am_forb
  rw [show ja_q 45 25 = 56 from rfl, nI_4k0, (ld56 h hk).1, Option.bind_some]
  by_cases h2 : (am_rd rs k).1 = 2
  · rw [if_pos (show nI (am_rd rs k).1 = 2 by rw [h2]; decide +kernel), show ((am_rd rs k).1 != 2) = false by simp [h2]]
    rfl
  · rw [if_neg (nI_ne2 h2 (by omega)), show ((am_rd rs k).1 != 2) = true by simp [h2], Bool.true_and, ja_ad 2 2 (by decide +kernel), (ld56 h hk).2.2.1, Option.bind_some, has_ok hs (by omega), Option.bind_some]
    cases s.testBit (am_rd rs k).2.2.1 with
    | false =>
      rw [if_pos (am_bz0.mpr rfl)]
      rfl
    | true =>
      rw [if_neg bz1, isActive_ok h hk hs, Option.bind_some, Bool.true_and]
      cases am_act (am_rd rs k).2.2.2 s with
      | false =>
        rw [if_pos (am_bz0.mpr rfl)]
        rfl
      | true =>
        rw [if_neg bz1, ja_ad 1 1 (by decide +kernel), (ld56 h hk).2.1, Option.bind_some, has_ok hs (by omega), Option.bind_some, (ld56 h hk).1, Option.bind_some, Bool.true_and]
        unfold f_Model_forbids_B70
        by_cases h0 : (am_rd rs k).1 = 0
        · rw [if_pos (show nI (am_rd rs k).1 = 0 by rw [h0]; decide +kernel), show ((am_rd rs k).1 == 0) = true by simp [h0]]
          cases s.testBit (am_rd rs k).2.1 <;> rfl
        · rw [if_neg (nI_ne0' h0 (by omega)), show ((am_rd rs k).1 == 0) = false by simp [h0]]
          cases s.testBit (am_rd rs k).2.1 <;> rfl
theorem mblk_ok {rs : List am_R} {σ : ja_S} {k s l : Nat} (h : am_q rs σ) (hk : k < rs.length) (hs : s < 2 ^ 12) (hl : l < 12) : f_Model_blocks 45 (nI k) (nI s) (nI l) σ = some (am_bz (am_blk (am_rd rs k) s l), σ) := by
  have hb := am_q_rb h hk
  obtain ⟨b1, b2, b3, b4⟩ := hb
  have hx := xor_lt30 hs hl
  unfold f_Model_blocks am_blk
  rw [show ja_q 45 25 = 56 from rfl, nI_4k0, (ld56 h hk).1, Option.bind_some]
  by_cases h2 : (am_rd rs k).1 = 2
  · rw [if_pos (show nI (am_rd rs k).1 = 2 by rw [h2]; decide +kernel), if_pos h2, ja_ad 1 1 (by decide +kernel), (ld56 h hk).2.1, Option.bind_some, ja_ad 2 2 (by decide +kernel), (ld56 h hk).2.2.1, Option.bind_some]
    by_cases h3 : (am_rd rs k).2.2.1 = l
    · rw [if_pos (show nI (am_rd rs k).2.2.1 = nI l by rw [h3]), show ((am_rd rs k).2.2.1 == l) = true by simp [h3], Bool.true_and]
      by_cases h4 : (am_rd rs k).2.1 = (am_rd rs k).2.2.1
      · rw [if_pos (show nI (am_rd rs k).2.1 = nI (am_rd rs k).2.2.1 by rw [h4]), show ((am_rd rs k).2.1 != (am_rd rs k).2.2.1) = false by simp [h4]]
        rfl
      · rw [if_neg (nI_ne h4 (by omega) (by omega)), show ((am_rd rs k).2.1 != (am_rd rs k).2.2.1) = true by simp [h4], Bool.true_and, has_ok (by omega) (by omega), Option.bind_some]
        cases s.testBit (am_rd rs k).2.1 with
        | false =>
          rw [if_pos (am_bz0.mpr rfl)]
          rfl
        | true =>
          rw [if_neg bz1, isActive_ok h hk (by omega), Option.bind_some, Bool.true_and]
          cases am_act (am_rd rs k).2.2.2 s with
          | false => rw [if_pos (am_bz0.mpr rfl)]; rfl
          | true => rw [if_neg bz1]; rfl
    · rw [if_neg (nI_ne h3 (by omega) (by omega)), show ((am_rd rs k).2.2.1 == l) = false by simp [h3]]
      rfl
  · rw [if_neg (nI_ne2 h2 (by omega)), if_neg h2, nI_pow (by omega), nI_xor, mforb_ok h hk (by omega), Option.bind_some, rb_bz]
/-- the first place where p holds, from i on -/
def am_first (p : Nat → Bool) : Nat → Nat → Option Nat
  | 0, _ => none
  | n + 1, i => if p i = true then some i else am_first p n (i + 1)
theorem permits_loop {rs : List am_R} {σ : ja_S} {s : Nat} (hlen : σ.1 3 3 = nI rs.length) (hr : ∀ i, i < rs.length → σ.1 4 i = nI (am_pk (am_rd rs i))) (h24 : rs.length ≤ 24) (hrb : ∀ r ∈ rs, am_rb r) (hs : s < 2 ^ 30) : ∀ (n i : Nat), i ≤ rs.length → rs.length - i < n → f_Sheet_permits_L2 n 3 (nI s) (nI i) σ = some (am_bz (am_first (fun k => am_forb (am_rd rs k) s) (rs.length - i) i).isNone, σ) := by
  intro n
  induction n with
  | zero => intro i _ h; omega
  | succ n ih =>
    intro i hi hn
    unfold f_Sheet_permits_L2
    rw [hlen, show ja_q 3 2 = 4 from rfl]
    by_cases h : i = rs.length
    · subst h
      rw [if_pos (nI_le (Nat.le_refl _) (by omega)), Nat.sub_self]
      rfl
    · rw [if_neg (nI_ge (by omega) (by omega)), ld0 (N := 24) rfl (by omega) (by omega), Option.bind_some, hr i (by omega), rforb_ok (r := am_rd rs i) (hrb _ (getD_mem (by omega))) hs, Option.bind_some, show rs.length - i = (rs.length - (i + 1)) + 1 by omega]
      unfold am_first
      cases am_forb (am_rd rs i) s with
      | false => rw [if_pos (am_bz0.mpr rfl), nI_1, ih (i + 1) (by omega) (by omega)]; rfl
      | true => rw [if_neg bz1]; rfl
theorem firstB_loop {rs : List am_R} {σ : ja_S} {s l : Nat} (hlen : σ.1 3 3 = nI rs.length) (hr : ∀ i, i < rs.length → σ.1 4 i = nI (am_pk (am_rd rs i))) (h24 : rs.length ≤ 24) (hrb : ∀ r ∈ rs, am_rb r ∧ r.2.1 ≠ r.2.2.1) (hs : s < 2 ^ 12) (hl : l < 12) : ∀ (n i : Nat), i ≤ rs.length → rs.length - i < n → f_Sheet_firstBlocker_L2 n 3 (nI s) (nI l) (nI i) σ = some (am_io (am_first (fun k => am_blk (am_rd rs k) s l) (rs.length - i) i), σ) := by
  intro n
  induction n with
  | zero => intro i _ h; omega
  | succ n ih =>
    intro i hi hn
    unfold f_Sheet_firstBlocker_L2
    rw [hlen, show ja_q 3 2 = 4 from rfl]
    by_cases h : i = rs.length
    · subst h
      rw [if_pos (nI_le (Nat.le_refl _) (by omega)), Nat.sub_self]
      rfl
    · have hm := hrb _ (getD_mem (l := rs) (i := i) (d := (0, 0, 0, 0)) (by omega))
      rw [if_neg (nI_ge (by omega) (by omega)), ld0 (N := 24) rfl (by omega) (by omega), Option.bind_some, hr i (by omega), rblk_ok (r := am_rd rs i) hm.1 hm.2 hs hl, Option.bind_some, show rs.length - i = (rs.length - (i + 1)) + 1 by omega]
      unfold am_first
      cases am_blk (am_rd rs i) s l with
      | false => rw [if_pos (am_bz0.mpr rfl), nI_1, ih (i + 1) (by omega) (by omega)]; rfl
      | true => rw [if_neg bz1]; rfl
