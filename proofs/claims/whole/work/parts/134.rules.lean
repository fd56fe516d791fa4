/-! what a rule forbids and blocks, on both sides -/
def am_rb (r : am_R) : Prop := r.1 < 3 ∧ r.2.1 < 12 ∧ r.2.2.1 < 12 ∧ r.2.2.2 ≤ 24
theorem am_rb16 {r : am_R} (h : am_rb r) : r.1 < 3 ∧ r.2.1 < 16 ∧ r.2.2.1 < 16 ∧ r.2.2.2 < 256 := by
  obtain ⟨h1, h2, h3, h4⟩ := h
  omega
theorem am_rok_rb {n : Nat} {r : am_R} (h : am_rok n r) (hn : n ≤ 12) : am_rb r := by
  have := am_pklt h hn
  obtain ⟨h1, h2, h3, h4, h5⟩ := h
  exact ⟨h1, by omega, by omega, this.2⟩
def am_act (c s : Nat) : Bool := c == 0 || (s.testBit ((c - 1) / 2) == ((c - 1) % 2 == 1))
def am_forb (r : am_R) (s : Nat) : Bool := r.1 != 2 && (s.testBit r.2.2.1 && (am_act r.2.2.2 s && (s.testBit r.2.1 == (r.1 == 0))))
def am_blk (r : am_R) (s l : Nat) : Bool := if r.1 = 2 then r.2.2.1 == l && (r.2.1 != r.2.2.1 && (s.testBit r.2.1 && am_act r.2.2.2 s)) else am_forb r (s ^^^ 2 ^ l)
/-- in which states a rule bites, as the class has it -/
def am_bite (r : am_R) (s : Nat) : Bool := if r.1 = 0 then s.testBit r.2.1 && (s.testBit r.2.2.1 && am_act r.2.2.2 s) else if r.1 = 1 then !s.testBit r.2.1 && (s.testBit r.2.2.1 && am_act r.2.2.2 s) else s.testBit r.2.1 && am_act r.2.2.2 s
def am_rev (r : am_R) : Nat := (if r.1 = 1 then 0 else 2 ^ r.2.1) ||| (if r.1 = 2 then 0 else 2 ^ r.2.2.1) ||| (if r.2.2.2 = 0 then 0 else if (r.2.2.2 - 1) % 2 = 1 then 2 ^ ((r.2.2.2 - 1) / 2) else 0)
def am_nor (r : am_R) : Nat := (if r.1 = 1 then 2 ^ r.2.1 else 0) ||| (if r.2.2.2 = 0 then 0 else if (r.2.2.2 - 1) % 2 = 0 then 2 ^ ((r.2.2.2 - 1) / 2) else 0)
theorem nand_or (s x y : Nat) : s &&& (x ||| y) = x ||| y ↔ s &&& x = x ∧ s &&& y = y := by
  constructor
  · intro h
    have hb : ∀ i, (s &&& (x ||| y)).testBit i = (x ||| y).testBit i := fun i => by rw [h]
    constructor <;> (apply Nat.eq_of_testBit_eq; intro i; have := hb i; simp only [Nat.testBit_and, Nat.testBit_or] at this ⊢; cases h1 : s.testBit i <;> cases h2 : x.testBit i <;> cases h3 : y.testBit i <;> simp_all)
  · intro ⟨h1, h2⟩
    rw [Nat.and_or_distrib_left, h1, h2]
theorem nand_or0 (s x y : Nat) : s &&& (x ||| y) = 0 ↔ s &&& x = 0 ∧ s &&& y = 0 := by
  rw [Nat.and_or_distrib_left]
  constructor
  · intro h
    have hb : ∀ i, ((s &&& x) ||| (s &&& y)).testBit i = false := fun i => by rw [h]; simp
    constructor <;> (apply Nat.eq_of_testBit_eq; intro i; have := hb i; simp only [Nat.testBit_or, Bool.or_eq_false_iff] at this; simp [this.1, this.2])
  · intro ⟨h1, h2⟩
    rw [h1, h2]
    rfl
theorem nand_p (s a : Nat) : s &&& 2 ^ a = 2 ^ a ↔ s.testBit a = true := by
  constructor
  · intro h
    have := congrArg (fun z => z.testBit a) h
    simp only [Nat.testBit_and, Nat.testBit_two_pow_self, Bool.and_true] at this
    exact this
  · intro h
    apply Nat.eq_of_testBit_eq
    intro i
    rw [Nat.testBit_and, Nat.testBit_two_pow]
    by_cases hi : a = i
    · subst hi; simp [h]
    · simp [hi]
theorem nand_p0 (s a : Nat) : s &&& 2 ^ a = 0 ↔ s.testBit a = false := by
  constructor
  · intro h
    have := congrArg (fun z => z.testBit a) h
    simp only [Nat.testBit_and, Nat.testBit_two_pow_self, Bool.and_true, Nat.zero_testBit] at this
    exact this
  · intro h
    apply Nat.eq_of_testBit_eq
    intro i
    rw [Nat.testBit_and, Nat.testBit_two_pow, Nat.zero_testBit]
    by_cases hi : a = i
    · subst hi; simp [h]
    · simp [hi]
theorem nif1 {p : Prop} {_ : Decidable p} (s x : Nat) : (s &&& (if p then 0 else x) = if p then 0 else x) ↔ (p ∨ s &&& x = x) := by
  by_cases h : p
  · rw [if_pos h]; exact ⟨fun _ => Or.inl h, fun _ => Nat.and_zero s⟩
  · rw [if_neg h]; exact ⟨Or.inr, fun q => q.resolve_left h⟩
theorem nif2 {p : Prop} {_ : Decidable p} (s x : Nat) : (s &&& (if p then x else 0) = if p then x else 0) ↔ (¬ p ∨ s &&& x = x) := by
  by_cases h : p
  · rw [if_pos h]; exact ⟨Or.inr, fun q => q.resolve_left (fun z => z h)⟩
  · rw [if_neg h]; exact ⟨fun _ => Or.inl h, fun _ => Nat.and_zero s⟩
theorem nif3 {p : Prop} {_ : Decidable p} (s x : Nat) : (s &&& (if p then x else 0) = 0) ↔ (¬ p ∨ s &&& x = 0) := by
  by_cases h : p
  · rw [if_pos h]; exact ⟨Or.inr, fun q => q.resolve_left (fun z => z h)⟩
  · rw [if_neg h]; exact ⟨fun _ => Or.inl h, fun _ => Nat.and_zero s⟩
theorem nif4 {p : Prop} {_ : Decidable p} (s x : Nat) : (s &&& (if p then 0 else x) = 0) ↔ (p ∨ s &&& x = 0) := by
  by_cases h : p
  · rw [if_pos h]; exact ⟨fun _ => Or.inl h, fun _ => Nat.and_zero s⟩
  · rw [if_neg h]; exact ⟨Or.inr, fun q => q.resolve_left h⟩
theorem am_bite_iff (r : am_R) (s : Nat) (h : r.1 < 3) : am_bite r s = true ↔ (s &&& am_rev r = am_rev r ∧ s &&& am_nor r = 0) := by
  unfold am_rev am_nor
  rw [nand_or, nand_or, nand_or0, nif1, nif1, nif1, nif2, nif3, nif4, nif3, nand_p, nand_p, nand_p, nand_p0, nand_p0]
  unfold am_bite am_act
  have hk : r.1 = 0 ∨ r.1 = 1 ∨ r.1 = 2 := by omega
  have hc : r.2.2.2 = 0 ∨ (r.2.2.2 ≠ 0 ∧ (r.2.2.2 - 1) % 2 = 0) ∨ (r.2.2.2 ≠ 0 ∧ (r.2.2.2 - 1) % 2 = 1) := by omega
  generalize s.testBit r.2.1 = tA
  generalize s.testBit r.2.2.1 = tB
  generalize s.testBit ((r.2.2.2 - 1) / 2) = tC
  generalize (r.2.2.2 - 1) % 2 = d at hc ⊢
  generalize r.2.2.2 = c at hc ⊢
  generalize r.1 = k at hk ⊢
  rcases hk with rfl | rfl | rfl <;> rcases hc with rfl | ⟨hc, rfl⟩ | ⟨hc, rfl⟩ <;> cases tA <;> cases tB <;> cases tC <;> simp_all
theorem am_bite_ok (r : am_R) (s : Nat) (h : r.1 < 3) : am_bite r s = decide (s &&& am_rev r = am_rev r ∧ s &&& am_nor r = 0) := by
  by_cases hb : am_bite r s = true
  · rw [hb, decide_eq_true ((am_bite_iff r s h).mp hb)]
  · rw [decide_eq_false (fun q => hb ((am_bite_iff r s h).mpr q))]
    simpa using hb
theorem am_forb_bite (r : am_R) (s : Nat) (h : r.1 < 3) : am_forb r s = (r.1 != 2 && am_bite r s) := by
  unfold am_forb am_bite
  have hk : r.1 = 0 ∨ r.1 = 1 ∨ r.1 = 2 := by omega
  rcases hk with hk | hk | hk <;> simp [hk]
  · cases s.testBit r.2.1 <;> cases s.testBit r.2.2.1 <;> simp
  · cases s.testBit r.2.1 <;> cases s.testBit r.2.2.1 <;> simp
theorem cd_neg {c : Nat} (h : c ≤ 24) : am_cd c < 0 ↔ c = 0 := by
  have h2 : ∀ c, c < 25 → (am_cd c < 0 ↔ c = 0) := by decide +kernel
  exact h2 c (by omega)
theorem cd_pos {c : Nat} (h : c ≠ 0) : am_cd c = nI (c - 1) := by
  unfold am_cd
  rw [show (1 : Int32) = nI 1 by decide +kernel, pk_sub (by omega)]
theorem nI_odd {c : Nat} : nI c &&& (1 : Int32) = nI (c % 2) := by
  rw [show (1 : Int32) = nI 1 by decide +kernel, nI_and, Nat.and_one_is_mod]
theorem nI_half {c : Nat} (h : c < 2 ^ 31) : nI c >>> ((1 : Int32) &&& 31) = nI (c / 2) := by
  rw [show (1 : Int32) = nI 1 by decide +kernel, nI_shr h (by omega)]
theorem am_z : (0 : Int32) = nI 0 := by decide +kernel
theorem am_0or {x : Nat} : (0 : Int32) ||| nI x = nI x := by
  rw [show (0 : Int32) = nI 0 by decide +kernel, nI_or, Nat.zero_or]
theorem rev_B36 {r : am_R} {σ : ja_S} {x : Nat} (h : am_rb r) : f_Rule_reversedLevers_B36 (nI (am_pk r)) (nI x) σ = some (nI (x ||| (if r.2.2.2 = 0 then 0 else if (r.2.2.2 - 1) % 2 = 1 then 2 ^ ((r.2.2.2 - 1) / 2) else 0)), σ) := by
  have h16 := am_rb16 h
  have hc24 : r.2.2.2 ≤ 24 := h.2.2.2
  unfold f_Rule_reversedLevers_B36
  simp only [rcd_ok h16, Option.bind_some]
  by_cases hc : r.2.2.2 = 0
  · rw [if_pos ((cd_neg hc24).mpr hc), if_pos hc, Nat.or_zero]
  · rw [if_neg (fun q => hc ((cd_neg hc24).mp q)), if_neg hc, cd_pos hc, nI_odd]
    by_cases ho : (r.2.2.2 - 1) % 2 = 1
    · rw [if_pos (by rw [ho]; decide +kernel), if_pos ho, nI_half (by omega), nI_pow (by omega), nI_or]
    · rw [if_neg (by rw [show (r.2.2.2 - 1) % 2 = 0 by omega]; decide +kernel), if_neg ho, Nat.or_zero]
theorem rev_B19 {r : am_R} {σ : ja_S} (x : Nat) (h : am_rb r) : f_Rule_reversedLevers_B19 (nI (am_pk r)) (nI x) σ = some (nI (x ||| (if r.1 = 2 then 0 else 2 ^ r.2.2.1) ||| (if r.2.2.2 = 0 then 0 else if (r.2.2.2 - 1) % 2 = 1 then 2 ^ ((r.2.2.2 - 1) / 2) else 0)), σ) := by
  have h16 := am_rb16 h
  have h1 : r.1 < 3 := h.1
  have h3 : r.2.2.1 < 12 := h.2.2.1
  unfold f_Rule_reversedLevers_B19
  rw [rk_ok h16, Option.bind_some]
  by_cases hk : r.1 = 2
  · rw [if_pos (show nI r.1 = 2 by rw [hk]; decide +kernel), if_pos hk, Nat.or_zero]
    exact rev_B36 h
  · have hne : ¬ nI r.1 = 2 := by
      intro q
      rw [show (2 : Int32) = nI 2 by decide +kernel, nI_eq (by omega) (by omega)] at q
      exact hk q
    rw [if_neg hne, if_neg hk, rlb_ok h16, Option.bind_some, nI_pow (l := r.2.2.1) (by omega), nI_or]
    exact rev_B36 h
theorem rev_ok {r : am_R} {σ : ja_S} (h : am_rb r) : f_Rule_reversedLevers (nI (am_pk r)) σ = some (nI (am_rev r), σ) := by
  have h16 := am_rb16 h
  have h1 : r.1 < 3 := h.1
  have h2 : r.2.1 < 12 := h.2.1
  unfold f_Rule_reversedLevers am_rev
  rw [rk_ok h16]
  show (if nI r.1 = 1 then f_Rule_reversedLevers_B19 (nI (am_pk r)) 0 σ else _) = _
  by_cases hk : r.1 = 1
  · rw [if_pos (by rw [hk]; decide +kernel), if_pos hk, am_z]
    exact rev_B19 0 h
  · have hne : ¬ nI r.1 = 1 := by
      intro q
      rw [show (1 : Int32) = nI 1 by decide +kernel, nI_eq (by omega) (by omega)] at q
      exact hk q
    rw [if_neg hne, if_neg hk, ra_ok h16]
    show f_Rule_reversedLevers_B19 (nI (am_pk r)) ((0 : Int32) ||| (1 : Int32) <<< (nI r.2.1 &&& 31)) σ = _
    rw [nI_pow (by omega), am_0or]
    exact rev_B19 _ h
theorem nor_B19 {r : am_R} {σ : ja_S} {x : Nat} (h : am_rb r) : f_Rule_normalLevers_B19 (nI (am_pk r)) (nI x) σ = some (nI (x ||| (if r.2.2.2 = 0 then 0 else if (r.2.2.2 - 1) % 2 = 0 then 2 ^ ((r.2.2.2 - 1) / 2) else 0)), σ) := by
  have h16 := am_rb16 h
  have hc24 : r.2.2.2 ≤ 24 := h.2.2.2
  unfold f_Rule_normalLevers_B19
  simp only [rcd_ok h16, Option.bind_some]
  by_cases hc : r.2.2.2 = 0
  · rw [if_pos ((cd_neg hc24).mpr hc), if_pos hc, Nat.or_zero]
  · rw [if_neg (fun q => hc ((cd_neg hc24).mp q)), if_neg hc, cd_pos hc, nI_odd]
    by_cases ho : (r.2.2.2 - 1) % 2 = 0
    · rw [if_pos (by rw [ho]; decide +kernel), if_pos ho, nI_half (by omega), nI_pow (by omega), nI_or]
    · rw [if_neg (by rw [show (r.2.2.2 - 1) % 2 = 1 by omega]; decide +kernel), if_neg ho, Nat.or_zero]
theorem nor_ok {r : am_R} {σ : ja_S} (h : am_rb r) : f_Rule_normalLevers (nI (am_pk r)) σ = some (nI (am_nor r), σ) := by
  have h16 := am_rb16 h
  have h1 : r.1 < 3 := h.1
  have h2 : r.2.1 < 12 := h.2.1
  unfold f_Rule_normalLevers am_nor
  rw [rk_ok h16, Option.bind_some]
  by_cases hk : r.1 = 1
  · rw [if_pos (show nI r.1 = 1 by rw [hk]; decide +kernel), if_pos hk, ra_ok h16, Option.bind_some, nI_pow (l := r.2.1) (by omega), am_0or]
    exact nor_B19 h
  · have hne : ¬ nI r.1 = 1 := by
      intro q
      rw [show (1 : Int32) = nI 1 by decide +kernel, nI_eq (by omega) (by omega)] at q
      exact hk q
    rw [if_neg hne, if_neg hk, am_z]
    exact nor_B19 (x := 0) h
theorem am_rev_lt {r : am_R} (h : am_rb r) : am_rev r < 2 ^ 12 ∧ am_nor r < 2 ^ 12 := by
  obtain ⟨h1, h2, h3, h4⟩ := h
  have p1 : 2 ^ r.2.1 < 2 ^ 12 := Nat.pow_lt_pow_right (by omega) h2
  have p2 : 2 ^ r.2.2.1 < 2 ^ 12 := Nat.pow_lt_pow_right (by omega) h3
  have p3 : 2 ^ ((r.2.2.2 - 1) / 2) < 2 ^ 12 := Nat.pow_lt_pow_right (by omega) (by omega)
  unfold am_rev am_nor
  refine ⟨Nat.or_lt_two_pow (Nat.or_lt_two_pow ?_ ?_) ?_, Nat.or_lt_two_pow ?_ ?_⟩
  all_goals (repeat' split)
  all_goals omega
theorem bites_ok {r : am_R} {σ : ja_S} {s : Nat} (h : am_rb r) (hs : s < 2 ^ 30) : f_Rule_bites (nI (am_pk r)) (nI s) σ = some (am_bz (am_bite r s), σ) := by
  have hr := am_rev_lt h
  have hl : s &&& am_rev r < 2 ^ 31 := Nat.lt_of_le_of_lt Nat.and_le_left (by omega)
  have hl2 : s &&& am_nor r < 2 ^ 31 := Nat.lt_of_le_of_lt Nat.and_le_left (by omega)
  unfold f_Rule_bites
  rw [rev_ok h]
  simp only [Option.bind_some]
  rw [nI_and, am_bite_ok r s h.1]
  by_cases h1 : s &&& am_rev r = am_rev r
  · rw [if_pos (by rw [h1]), nor_ok h]
    simp only [Option.bind_some]
    rw [nI_and]
    by_cases h2 : s &&& am_nor r = 0
    · rw [if_pos (by rw [h2]; decide +kernel), decide_eq_true ⟨h1, h2⟩]
      rfl
    · rw [if_neg (by intro q; rw [show (0 : Int32) = nI 0 by decide +kernel, nI_eq (by omega) (by omega)] at q; exact h2 q), decide_eq_false (fun q => h2 q.2)]
      rfl
  · rw [if_neg (by intro q; rw [nI_eq (by omega) (by omega)] at q; exact h1 q), decide_eq_false (fun q => h1 q.1)]
    rfl
theorem rforb_ok {r : am_R} {σ : ja_S} {s : Nat} (h : am_rb r) (hs : s < 2 ^ 30) : f_Rule_forbids (nI (am_pk r)) (nI s) σ = some (am_bz (am_forb r s), σ) := by
  have h16 := am_rb16 h
  obtain ⟨h1, -⟩ := id h
  unfold f_Rule_forbids
  rw [rk_ok h16, am_forb_bite r s h.1]
  simp only [Option.bind_some]
  by_cases hk : r.1 = 2
  · rw [if_pos (by rw [hk]; decide +kernel)]
    simp [hk, am_bz]
  · rw [if_neg (by intro q; rw [show (2 : Int32) = nI 2 by decide +kernel, nI_eq (by omega) (by omega)] at q; exact hk q), bites_ok h hs]
    simp only [Option.bind_some]
    cases am_bite r s <;> simp [hk, am_bz]
theorem xor_lt30 {s l : Nat} (hs : s < 2 ^ 12) (hl : l < 12) : s ^^^ 2 ^ l < 2 ^ 12 := Nat.xor_lt_two_pow hs (Nat.pow_lt_pow_right (by omega) hl)
theorem rblk_ok {r : am_R} {σ : ja_S} {s l : Nat} (h : am_rb r) (hne : r.2.1 ≠ r.2.2.1) (hs : s < 2 ^ 12) (hl : l < 12) : f_Rule_blocks (nI (am_pk r)) (nI s) (nI l) σ = some (am_bz (am_blk r s l), σ) := by
  have h16 := am_rb16 h
  obtain ⟨h1, h2, h3, h4⟩ := id h
  have hx := xor_lt30 hs hl
  unfold f_Rule_blocks am_blk
  rw [rk_ok h16]
  simp only [Option.bind_some]
  by_cases hk : r.1 = 2
  · rw [if_pos (by rw [hk]; decide +kernel), if_pos hk, rlb_ok h16]
    simp only [Option.bind_some]
    by_cases hb : r.2.2.1 = l
    · rw [if_pos (by rw [hb]), bites_ok h (by omega)]
      simp only [Option.bind_some]
      have e : am_bite r s = (s.testBit r.2.1 && am_act r.2.2.2 s) := by unfold am_bite; rw [if_neg (by omega), if_neg (by omega)]
      rw [e]
      have hne' : (r.2.1 != r.2.2.1) = true := by simp [hne]
      rw [hne']
      cases s.testBit r.2.1 && am_act r.2.2.2 s <;> simp [hb, am_bz]
    · rw [if_neg (by intro q; rw [nI_eq (by omega) (by omega)] at q; exact hb q)]
      simp [hb, am_bz]
  · rw [if_neg (by intro q; rw [show (2 : Int32) = nI 2 by decide +kernel, nI_eq (by omega) (by omega)] at q; exact hk q), if_neg hk, nI_pow (by omega), nI_xor, bites_ok h (by omega)]
    simp only [Option.bind_some]
    rw [rb_bz, am_forb_bite r _ h.1, show (r.1 != 2) = true by simp [hk], Bool.true_and]
