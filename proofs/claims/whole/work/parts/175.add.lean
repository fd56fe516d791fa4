/-! addRule -/
section C15
variable {A : am_A} {a : Nat → Int32} {σ : ja_S}
theorem kind_ok {x : Int32} {τ : ja_S} : f_Model_isIn x.toInt64 0 (2 : Int64) τ = some (am_bz (decide (0 ≤ x.toInt ∧ x.toInt ≤ 2)), τ) := by
  rw [show (2 : Int64) = (2 : Int32).toInt64 by decide +kernel]
  exact isIn_ok (by decide +kernel)
theorem add_pre (hA : am_ok A) (x1 x2 x3 x4 : Int32) : (∃ v : Int32, (∀ σ, am_C A σ → f_Frame_addRule 0 x1 x2 x3 x4 σ = some (v, σ)) ∧ ∀ τ, am_M A τ → f_Model_addRule 45 x1 x2 x3 x4 τ = some (v, ja_si τ 45 9 0)) ∨ ∃ r : am_R, am_rok A.1 r ∧ x1 = nI r.1 ∧ x2 = nI r.2.1 ∧ x3 = nI r.2.2.1 ∧ x4 = am_cd r.2.2.2 ∧ (∀ σ, am_C A σ → f_Frame_addRule 0 x1 x2 x3 x4 σ = f_Frame_addRule_B88 0 x1 x2 x3 x4 σ) ∧ ∀ τ, am_M A τ → f_Model_addRule 45 x1 x2 x3 x4 τ = f_Model_addRule_B99 45 x1 x2 x3 x4 (ja_si τ 45 9 0) := by
  have hN : A.1 ≤ 12 := hA.2.1
  have c0 : ∀ σ, am_C A σ → σ.1 3 0 = nI A.1 := fun σ hC => hC.2.2.2.2.1.1
  have m0 : ∀ τ : ja_S, am_M A τ → (ja_si τ 45 9 0).1 45 0 = nI A.1 := fun τ h => by rw [si_at, if_neg (by omega)]; exact h.1
  cases h2 : am_in x2 A.1 with
  | false =>
    refine Or.inl ⟨-2, fun σ hC => ?_, fun τ hM => ?_⟩
    · unfold f_Frame_addRule
      rw [show ja_q 0 3 = 3 from rfl, hasLever_ok (c0 σ hC) (by omega), h2, Option.bind_some, if_pos (am_bz0.mpr rfl)]
    · unfold f_Model_addRule ja_pu
      rw [Option.bind_some, isLever_ok (m0 τ hM) (by omega), h2, Option.bind_some, if_pos (am_bz0.mpr rfl)]
  | true =>
    cases h3 : am_in x3 A.1 with
    | false =>
      refine Or.inl ⟨-2, fun σ hC => ?_, fun τ hM => ?_⟩
      · unfold f_Frame_addRule
        rw [show ja_q 0 3 = 3 from rfl, hasLever_ok (c0 σ hC) (by omega), h2, Option.bind_some, if_neg bz1, hasLever_ok (c0 σ hC) (by omega), h3, Option.bind_some, if_pos (am_bz0.mpr rfl)]
      · unfold f_Model_addRule ja_pu
        rw [Option.bind_some, isLever_ok (m0 τ hM) (by omega), h2, Option.bind_some, if_neg bz1, isLever_ok (m0 τ hM) (by omega), h3, Option.bind_some, if_pos (am_bz0.mpr rfl)]
    | true =>
      obtain ⟨la, hla, ela⟩ := am_in_t h2 (by omega)
      obtain ⟨lb, hlb, elb⟩ := am_in_t h3 (by omega)
      -- the kind
      have kcase : (x1 < 0 ∨ 2 < x1) ∨ ∃ k, k < 3 ∧ x1 = nI k := by
        rcases pk_ix x1 (n := 3) (by omega) with h | h | h
        · exact Or.inl (Or.inl h)
        · refine Or.inl (Or.inr ?_)
          rw [Int32.le_iff_toInt_le, nI_toInt (by omega)] at h
          rw [Int32.lt_iff_toInt_lt, show (2 : Int32).toInt = 2 by decide +kernel]
          omega
        · exact Or.inr h
      have kbad : (x1 < 0 ∨ 2 < x1) → decide (0 ≤ x1.toInt ∧ x1.toInt ≤ 2) = false := by
        intro h
        apply decide_eq_false
        rcases h with h | h
        · have := i32_lt0.mp h
          omega
        · rw [Int32.lt_iff_toInt_lt, show (2 : Int32).toInt = 2 by decide +kernel] at h
          omega
      have kgood : ∀ k, k < 3 → decide (0 ≤ (nI k).toInt ∧ (nI k).toInt ≤ 2) = true ∧ ¬ nI k < 0 ∧ ¬ 2 < nI k := by
        intro k hk
        rw [nI_toInt (by omega)]
        refine ⟨decide_eq_true (by omega), nI_pos (by omega), ?_⟩
        rw [show (2 : Int32) = nI 2 by decide +kernel]
        exact nI_nlt (by omega) (by omega)
      by_cases h4 : x4 < 0
      · -- no condition
        have cls : ∀ σ, am_C A σ → f_Frame_addRule 0 x1 x2 x3 x4 σ = f_Frame_addRule_B44 0 x1 x2 x3 x4 σ := fun σ hC => by
          unfold f_Frame_addRule
          rw [show ja_q 0 3 = 3 from rfl, hasLever_ok (c0 σ hC) (by omega), h2, Option.bind_some, if_neg bz1, hasLever_ok (c0 σ hC) (by omega), h3, Option.bind_some, if_neg bz1, if_pos h4]
        have ref : ∀ τ, am_M A τ → f_Model_addRule 45 x1 x2 x3 x4 τ = f_Model_addRule_B50 45 x1 x2 x3 x4 0 (ja_si τ 45 9 0) := fun τ hM => by
          unfold f_Model_addRule f_Model_addRule_B40 ja_pu
          rw [Option.bind_some, isLever_ok (m0 τ hM) (by omega), h2, Option.bind_some, if_neg bz1, isLever_ok (m0 τ hM) (by omega), h3, Option.bind_some, if_neg bz1, if_pos h4, if_pos h4]
        rcases kcase with hk | ⟨k, hk, ek⟩
        · refine Or.inl ⟨-3, fun σ hC => ?_, fun τ hM => ?_⟩
          · rw [cls σ hC]
            unfold f_Frame_addRule_B44
            rcases hk with hk' | hk'
            · rw [if_pos hk']
            · by_cases hk2 : x1 < 0
              · rw [if_pos hk2]
              · rw [if_neg hk2, if_pos hk']
          · rw [ref τ hM]
            unfold f_Model_addRule_B50
            rw [kind_ok, kbad hk, Option.bind_some, if_pos (am_bz0.mpr rfl)]
        · obtain ⟨g1, g2, g3⟩ := kgood k hk
          rw [← ek] at g1 g2 g3
          by_cases hm1 : x4 < -1
          · refine Or.inl ⟨-3, fun σ hC => ?_, fun τ hM => ?_⟩
            · rw [cls σ hC]
              unfold f_Frame_addRule_B44
              rw [if_neg g2, if_neg g3, if_pos hm1]
            · rw [ref τ hM]
              unfold f_Model_addRule_B50
              rw [kind_ok, g1, Option.bind_some, if_neg bz1, if_pos hm1]
          · by_cases hab : x2 = x3
            · refine Or.inl ⟨-3, fun σ hC => ?_, fun τ hM => ?_⟩
              · rw [cls σ hC]
                unfold f_Frame_addRule_B44
                rw [if_neg g2, if_neg g3, if_neg hm1, if_pos hab]
              · rw [ref τ hM]
                unfold f_Model_addRule_B50
                rw [kind_ok, g1, Option.bind_some, if_neg bz1, if_neg hm1, if_pos hab]
            · have hx4 : x4 = am_cd 0 := by
                rw [show am_cd 0 = (-1 : Int32) by decide +kernel, ← Int32.toInt_inj, show (-1 : Int32).toInt = -1 by decide +kernel]
                have h5 := i32_lt0.mp h4
                rw [Int32.lt_iff_toInt_lt, show (-1 : Int32).toInt = -1 by decide +kernel] at hm1
                omega
              refine Or.inr ⟨(k, la, lb, 0), ⟨hk, hla, hlb, ?_, Or.inl rfl⟩, ek, ela, elb, hx4, fun σ hC => ?_, fun τ hM => ?_⟩
              · intro z
                exact hab (by rw [ela, elb]; exact congrArg nI z)
              · rw [cls σ hC]
                unfold f_Frame_addRule_B44
                rw [if_neg g2, if_neg g3, if_neg hm1, if_neg hab, if_pos h4]
              · rw [ref τ hM]
                unfold f_Model_addRule_B50
                rw [kind_ok, g1, Option.bind_some, if_neg bz1, if_neg hm1, if_neg hab, if_pos (show (0 : Int32) = 0 from rfl)]
      · obtain ⟨c, hc, ec⟩ := nI_of h4
        have hsh : x4 >>> ((1 : Int32) &&& 31) = nI (c / 2) := by rw [ec, nI_half hc]
        have hdv : x4 / (2 : Int32) = nI (c / 2) := by rw [ec, show (2 : Int32) = nI 2 by decide +kernel, pk_div hc (by omega) (by omega)]
        have hm1 : ¬ x4 < -1 := by
          rw [Int32.lt_iff_toInt_lt, show (-1 : Int32).toInt = -1 by decide +kernel, ec, nI_toInt hc]
          omega
        cases h5 : am_in (nI (c / 2)) A.1 with
        | false =>
          refine Or.inl ⟨-2, fun σ hC => ?_, fun τ hM => ?_⟩
          · unfold f_Frame_addRule
            rw [show ja_q 0 3 = 3 from rfl, hasLever_ok (c0 σ hC) (by omega), h2, Option.bind_some, if_neg bz1, hasLever_ok (c0 σ hC) (by omega), h3, Option.bind_some, if_neg bz1, if_neg h4, hsh, hasLever_ok (c0 σ hC) (by omega), h5, Option.bind_some, if_pos (am_bz0.mpr rfl)]
          · unfold f_Model_addRule ja_pu
            rw [Option.bind_some, isLever_ok (m0 τ hM) (by omega), h2, Option.bind_some, if_neg bz1, isLever_ok (m0 τ hM) (by omega), h3, Option.bind_some, if_neg bz1, if_neg h4, hdv, isLever_ok (m0 τ hM) (by omega), h5, Option.bind_some, if_pos (am_bz0.mpr rfl)]
        | true =>
          have hc2 : c / 2 < A.1 := by
            have := of_decide_eq_true h5
            rw [nI_toInt (by omega)] at this
            omega
          have cls : ∀ σ, am_C A σ → f_Frame_addRule 0 x1 x2 x3 x4 σ = f_Frame_addRule_B44 0 x1 x2 x3 x4 σ := fun σ hC => by
            unfold f_Frame_addRule
            rw [show ja_q 0 3 = 3 from rfl, hasLever_ok (c0 σ hC) (by omega), h2, Option.bind_some, if_neg bz1, hasLever_ok (c0 σ hC) (by omega), h3, Option.bind_some, if_neg bz1, if_neg h4, hsh, hasLever_ok (c0 σ hC) (by omega), h5, Option.bind_some, if_neg bz1]
          have ref : ∀ τ, am_M A τ → f_Model_addRule 45 x1 x2 x3 x4 τ = f_Model_addRule_B50 45 x1 x2 x3 x4 1 (ja_si τ 45 9 0) := fun τ hM => by
            unfold f_Model_addRule f_Model_addRule_B40 ja_pu
            rw [Option.bind_some, isLever_ok (m0 τ hM) (by omega), h2, Option.bind_some, if_neg bz1, isLever_ok (m0 τ hM) (by omega), h3, Option.bind_some, if_neg bz1, if_neg h4, hdv, isLever_ok (m0 τ hM) (by omega), h5, Option.bind_some, if_neg bz1, if_neg h4]
          rcases kcase with hk | ⟨k, hk, ek⟩
          · refine Or.inl ⟨-3, fun σ hC => ?_, fun τ hM => ?_⟩
            · rw [cls σ hC]
              unfold f_Frame_addRule_B44
              rcases hk with hk' | hk'
              · rw [if_pos hk']
              · by_cases hk2 : x1 < 0
                · rw [if_pos hk2]
                · rw [if_neg hk2, if_pos hk']
            · rw [ref τ hM]
              unfold f_Model_addRule_B50
              rw [kind_ok, kbad hk, Option.bind_some, if_pos (am_bz0.mpr rfl)]
          · obtain ⟨g1, g2, g3⟩ := kgood k hk
            rw [← ek] at g1 g2 g3
            by_cases hab : x2 = x3
            · refine Or.inl ⟨-3, fun σ hC => ?_, fun τ hM => ?_⟩
              · rw [cls σ hC]
                unfold f_Frame_addRule_B44
                rw [if_neg g2, if_neg g3, if_neg hm1, if_pos hab]
              · rw [ref τ hM]
                unfold f_Model_addRule_B50
                rw [kind_ok, g1, Option.bind_some, if_neg bz1, if_neg hm1, if_pos hab]
            · by_cases ha : nI (c / 2) = x2
              · refine Or.inl ⟨-3, fun σ hC => ?_, fun τ hM => ?_⟩
                · rw [cls σ hC]
                  unfold f_Frame_addRule_B44
                  rw [if_neg g2, if_neg g3, if_neg hm1, if_neg hab, if_neg h4, hsh, if_pos ha]
                · rw [ref τ hM]
                  unfold f_Model_addRule_B50
                  rw [kind_ok, g1, Option.bind_some, if_neg bz1, if_neg hm1, if_neg hab, if_neg i1n0, hdv, if_pos ha]
              · by_cases hb : nI (c / 2) = x3
                · refine Or.inl ⟨-3, fun σ hC => ?_, fun τ hM => ?_⟩
                  · rw [cls σ hC]
                    unfold f_Frame_addRule_B44
                    rw [if_neg g2, if_neg g3, if_neg hm1, if_neg hab, if_neg h4, hsh, if_neg ha, if_pos hb]
                  · rw [ref τ hM]
                    unfold f_Model_addRule_B50
                    rw [kind_ok, g1, Option.bind_some, if_neg bz1, if_neg hm1, if_neg hab, if_neg i1n0, hdv, if_neg ha, if_pos hb]
                · refine Or.inr ⟨(k, la, lb, c + 1), ⟨hk, hla, hlb, ?_, Or.inr ⟨?_, ?_, ?_⟩⟩, ek, ela, elb, ?_, fun σ hC => ?_, fun τ hM => ?_⟩
                  · intro z
                    exact hab (by rw [ela, elb]; exact congrArg nI z)
                  · show (c + 1 - 1) / 2 < A.1
                    rw [show c + 1 - 1 = c by omega]; exact hc2
                  · show (c + 1 - 1) / 2 ≠ la
                    rw [show c + 1 - 1 = c by omega]
                    intro z
                    exact ha (by rw [ela, z])
                  · show (c + 1 - 1) / 2 ≠ lb
                    rw [show c + 1 - 1 = c by omega]
                    intro z
                    exact hb (by rw [elb, z])
                  · show x4 = am_cd (c + 1)
                    rw [cd_pos (by omega), show c + 1 - 1 = c by omega, ec]
                  · rw [cls σ hC]
                    unfold f_Frame_addRule_B44
                    rw [if_neg g2, if_neg g3, if_neg hm1, if_neg hab, if_neg h4, hsh, if_neg ha, if_neg hb]
                  · rw [ref τ hM]
                    unfold f_Model_addRule_B50
                    rw [kind_ok, g1, Option.bind_some, if_neg bz1, if_neg hm1, if_neg hab, if_neg i1n0, hdv, if_neg ha, if_neg hb]
theorem add_L157 {m : Nat} (hm : m < 24) : ∀ (n i : Nat) (τ : ja_S), i ≤ 4 → 4 - i < n → τ.1 46 0 = nI m → τ.1 45 27 = nI m → ∃ τ', f_Model_addRule_L157 n 45 (nI i) τ = some (nI (m + 1), τ') ∧ τ'.1 46 0 = nI (m + 1) ∧ (∀ q, q ≠ 0 → τ'.1 46 q = if 2 + 4 * m + i ≤ q ∧ q < 2 + 4 * m + 4 then τ.1 56 (q - 2) else τ.1 46 q) ∧ (∀ k j, k ≠ 46 → τ'.1 k j = τ.1 k j) ∧ τ'.2 = τ.2 := by
  intro n
  induction n with
  | zero => intro i τ _ h; omega
  | succ n ih =>
    intro i τ hi hn h0 h27
    rw [f_Model_addRule_L157, show (4 : Int32) = nI 4 by decide +kernel, show ja_q 45 3 = 46 from rfl, show ja_q 45 25 = 56 from rfl]
    have hld : ja_ld ja_L0 τ 46 0 = some (nI m) := by rw [am_z, ld0 (N := 98) rfl (by omega) (by omega), h0]
    by_cases h : i = 4
    · have hst : ja_st ja_L0 τ 46 0 (nI m + 1) = some (ja_si τ 46 0 (nI (m + 1))) := by
        rw [am_z, st0' (N := 98) rfl (by omega) (by omega), nI_1]
      have hld2 : ja_ld ja_L0 (ja_si τ 46 0 (nI (m + 1))) 46 0 = some (nI (m + 1)) := by
        rw [am_z, ld0 (N := 98) rfl (by omega) (by omega), si_at, if_pos ⟨rfl, rfl⟩]
      rw [h, if_pos (nI_le (Nat.le_refl _) (by omega)), hld, Option.bind_some, hst, Option.bind_some, hld2, Option.bind_some]
      refine ⟨_, rfl, ?_, fun q hq => ?_, fun k j hk => ?_, rfl⟩
      · rw [si_at, if_pos ⟨rfl, rfl⟩]
      · rw [si_at, if_neg (by omega), if_neg (by omega)]
      · rw [si_row hk]
    · rw [if_neg (nI_ge (by omega) (by omega)), hld, Option.bind_some, h27, pk_mul, nI_add, ld0 (N := 128) rfl (by omega) (by omega), Option.bind_some, show (2 : Int32) = nI 2 by decide +kernel, nI_add, nI_add, st0' (N := 98) rfl (by omega) (by omega), Option.bind_some, nI_1]
      obtain ⟨τ', e1, e2, e3, e4, e5⟩ := ih (i + 1) (ja_si τ 46 (2 + 4 * m + i) (τ.1 56 (4 * m + i))) (by omega) (by omega) (by rw [si_at, if_neg (by omega)]; exact h0) (by rw [si_row (by omega)]; exact h27)
      refine ⟨τ', e1, e2, fun q hq => ?_, fun k j hk => (e4 k j hk).trans (by rw [si_row hk]), e5⟩
      rw [e3 q hq, si_row (a := 56) (by omega)]
      by_cases hqi : q = 2 + 4 * m + i
      · rw [if_neg (by omega), si_at, if_pos ⟨rfl, hqi⟩, if_pos (by omega), hqi, show 2 + 4 * m + i - 2 = 4 * m + i by omega]
      · by_cases hc : 2 + 4 * m + (i + 1) ≤ q ∧ q < 2 + 4 * m + 4
        · rw [if_pos hc, if_pos (by omega)]
        · rw [if_neg hc, si_at, if_neg (by omega), if_neg (by omega)]
theorem case_15 (hA : am_ok A) (hC : am_C A σ) (hM : am_M A σ) : am_do A 15 a σ := by
  have hN : A.1 ≤ 12 := hA.2.1
  have hp := p12 hN
  have hl24 : A.2.1.length ≤ 24 := hA.2.2.1
  have hcur : A.2.2.2.2.1 < 2 ^ A.1 := hA.2.2.2.2.2.2.2.2.1
  have c1 := am_C_rules hC
  have c6 : σ.1 0 6 = nI A.2.2.2.2.1 := hC.2.2.2.2.2.1
  rcases add_pre hA (a 1) (a 2) (a 3) (a 4) with ⟨v, h1, h2⟩ | ⟨r, hr, e1, e2, e3, e4, h1, h2⟩
  · refine am_ask_do hA hC (am_asked hM ?_)
    rw [jc_15, h1 σ hC, Option.bind_some, h2 σ hM, Option.bind_some]
    exact if_pos rfl
  · have hrb := am_rok_rb hr hN
    have hld0 : ∀ τ : ja_S, am_M A τ → ja_ld ja_L0 (ja_si τ 45 9 0) 46 0 = some (nI A.2.1.length) := fun τ h => by
      rw [am_z, ld0 (N := 98) rfl (by omega) (by omega), si_row (by omega), am_M_rules h]
    by_cases hfull : A.2.1.length = 24
    · refine am_ask_do hA hC (am_asked hM ?_)
      rw [jc_15, h1 σ hC]
      unfold f_Frame_addRule_B88
      rw [show ja_q 0 3 = 3 from rfl, c1, show (24 : Int32) = nI 24 by decide +kernel, if_neg (nI_nlt (by omega) (by omega)), Option.bind_some, h2 σ hM]
      unfold f_Model_addRule_B99
      rw [show ja_q 45 3 = 46 from rfl, hld0 σ hM, Option.bind_some, if_pos (by rw [hfull]; decide +kernel), Option.bind_some]
      exact if_pos rfl
    · have hlt : A.2.1.length < 24 := by omega
      have hpk := pack_ok (σ := σ) (am_rb16 hrb)
      have hfb := rforb_ok (σ := σ) (s := A.2.2.2.2.1) hrb (by omega)
      -- the reference's trial, over any state with the same frame
      have mtry : ∀ τ : ja_S, am_M A τ → ∃ τ1, f_Model_usesSheet 45 (ja_si τ 45 9 0) = some τ1 ∧ τ1.1 45 27 = nI A.2.1.length ∧ ∃ τ2, f_Model_puts 45 (nI A.2.1.length) (nI r.1) (nI r.2.1) (nI r.2.2.1) (am_cd r.2.2.2) τ1 = some τ2 ∧ am_q (A.2.1 ++ [r]) τ2 ∧ τ2.1 46 1 = nI A.2.2.2.2.1 ∧ τ2.1 45 27 = nI A.2.1.length ∧ fr_md τ τ2 := by
        intro τ hMτ
        obtain ⟨τ1, g1, g2, g3, g4⟩ := mstart hA (am_M_th (v := 0) hMτ)
        obtain ⟨τ2, p1, p2, p3, p4⟩ := puts_ok (r := r) rfl (by omega) g2.1.1
        have hM1 := am_M_md (am_M_th (v := 0) hMτ) g4
        refine ⟨τ1, g1, g2.2.2.1, τ2, p1, ⟨p2, by rw [List.length_append, List.length_singleton]; omega, ?_⟩, ?_, ?_, ?_⟩
        · intro x hx
          rcases List.mem_append.mp hx with hx | hx
          · exact g2.1.2.2 x hx
          · rw [List.mem_singleton.mp hx]; exact hrb
        · rw [p3 46 1 (by omega)]; exact hM1.2.2.2.1.2.1
        · rw [p3 45 27 (by omega)]; exact g2.2.2.1
        · exact fr_md_tr md_th (fr_md_tr g4 ⟨fun k j x y => p3 k j (by omega), p4⟩)
      have hrdl : am_rd (A.2.1 ++ [r]) A.2.1.length = r := by
        unfold am_rd
        rw [rd_app, if_neg (by omega), if_pos rfl]
      by_cases hf : am_forb r A.2.2.2.2.1 = true
      · -- it would make the state illegal
        obtain ⟨τ1, g1, g2, τ2, p1, p2, p3, p4, p5⟩ := mtry σ hM
        have hmf := mforb_ok p2 (k := A.2.1.length) (s := A.2.2.2.2.1) (by rw [List.length_append, List.length_singleton]; omega) (by omega)
        rw [hrdl, hf] at hmf
        refine am_ask_do hA hC (am_asked3 (τ := τ2) hM ?_ p5)
        rw [jc_15, h1 σ hC]
        unfold f_Frame_addRule_B88
        rw [show ja_q 0 3 = 3 from rfl, c1, show (24 : Int32) = nI 24 by decide +kernel, if_pos (nI_lt hlt (by omega)), e1, e2, e3, e4, hpk, Option.bind_some, c6, hfb, hf, Option.bind_some, if_neg bz1, Option.bind_some]
        rw [e1, e2, e3, e4] at h2
        rw [h2 σ hM]
        unfold f_Model_addRule_B99
        rw [show ja_q 45 3 = 46 from rfl, hld0 σ hM, Option.bind_some, show (24 : Int32) = nI 24 by decide +kernel, if_neg (nI_ne hfull (by omega) (by omega)), g1, Option.bind_some, g2, p1, Option.bind_some, show (1 : Int32) = nI 1 by decide +kernel, ld0 (N := 98) rfl (by omega) (by omega), Option.bind_some, p3, p4, hmf, Option.bind_some, if_neg bz1, Option.bind_some]
        exact if_pos rfl
      · have hf' : am_forb r A.2.2.2.2.1 = false := by simpa using hf
        obtain ⟨ds, hds, hist⟩ := am_C_hs hA hC
        obtain ⟨σ1, n1, n2, n3⟩ := note_ok (d := (1, A.2.1.length, am_pk r)) hds
        have hrs1 : rs_ok σ1 A.2.1 := by
          have := am_C_rs hC
          exact ⟨(n3.1 3 3 (by omega)).trans this.1, fun i hi => (n3.1 4 i (by omega)).trans (this.2 i hi)⟩
        obtain ⟨σ2, d1, d2, d3⟩ := insert_ok (p := A.2.1.length) (r := r) hrs1 (Nat.le_refl _) hlt
        rw [ins_end] at d2
        have hlen2 : (A.2.1 ++ [r]).length = A.2.1.length + 1 := by rw [List.length_append, List.length_singleton]
        have f3 : ∀ k j, (k < 13 ∨ 16 < k) → k ≠ 4 → (k ≠ 3 ∨ j ≠ 3) → ((k ≠ 0 ∨ (j ≠ 8 ∧ j ≠ 11)) ∧ k ≠ 29) → (fg_st σ2).1 k j = σ.1 k j := fun k j a1 a2 a3 a4 => (fg_at a4).trans ((d3.1 k j a2 a3).trans (n3.1 k j a1))
        have hM3 : am_M A (fg_st σ2) := am_M_ch hM (fun k hk => funext fun j => f3 k j (by omega) (by omega) (by omega) (by omega))
        obtain ⟨τ1, g1, g2, τ2, p1, p2, p3, p4, p5⟩ := mtry (fg_st σ2) hM3
        have hmf := mforb_ok p2 (k := A.2.1.length) (s := A.2.2.2.2.1) (by rw [hlen2]; omega) (by omega)
        rw [hrdl, hf'] at hmf
        have hM4 := am_M_md hM3 p5
        obtain ⟨r1, r2, r3⟩ := am_M_rm hA hM4
        obtain ⟨τ3, v1, v2, v3⟩ := remembers_ok r1 r2 hl24 r3
        have k46 : ∀ j, τ3.1 46 j = τ2.1 46 j := fun j => v3.1 46 j (by omega) (by omega)
        obtain ⟨τ4, w1, w0, w2, w3, w4⟩ := add_L157 (m := A.2.1.length) hlt ja_FU 0 τ3 (by omega) (by unfold ja_FU; omega) ((k46 0).trans r2.1) ((v3.1 45 27 (by omega) (by omega)).trans p4)
        obtain ⟨oso1, oso2⟩ := os_ok hA
        have g4 : ∀ k j, k < 52 → k ≠ 46 → k ≠ 47 → (k ≠ 45 ∨ j = 0 ∨ j = 1 ∨ j = 2 ∨ j = 11 ∨ j = 14 ∨ j = 15 ∨ j = 36) → τ4.1 k j = (fg_st σ2).1 k j := fun k j a0 a1 a2 a3 => by
          rw [w3 k j a1, v3.1 k j a2 (by omega), p5.1 k j a0 (by omega)]
        refine ⟨am_nw A (A.2.1 ++ [r]) A.2.2.2.2.1 ((A.2.1, A.2.2.2.2.1) :: A.2.2.2.2.2.1.take 11), τ4, ?_, am_ok_nw hA (by omega) (fun x hx => ?_) hcur oso1 oso2, ?_, ?_, Or.inr ?_, fun k h1 h2 h29 => ?_⟩
        · rw [jc_15, h1 σ hC]
          unfold f_Frame_addRule_B88
          have n1' : f_History_note 13 1 (nI A.2.1.length) (nI (am_pk r)) σ = some σ1 := by
            rw [show (1 : Int32) = nI 1 by decide +kernel]; exact n1
          rw [show ja_q 0 3 = 3 from rfl, show ja_q 0 5 = 13 from rfl, c1, show (24 : Int32) = nI 24 by decide +kernel, if_pos (nI_lt hlt (by omega)), e1, e2, e3, e4, hpk, Option.bind_some, c6, hfb, hf', Option.bind_some, if_pos (am_bz0.mpr rfl), c1, n1', Option.bind_some, hrs1.1, d1, Option.bind_some, forgetF, Option.bind_some, Option.bind_some]
          rw [e1, e2, e3, e4] at h2
          rw [h2 _ hM3]
          unfold f_Model_addRule_B99
          rw [← am_z] at w1
          have hld1 : ja_ld ja_L0 τ2 46 1 = some (nI A.2.2.2.2.1) := by
            rw [show (1 : Int32) = nI 1 by decide +kernel, ld0 (N := 98) rfl (by omega) (by omega), p3]
          rw [show ja_q 45 3 = 46 from rfl, hld0 _ hM3, Option.bind_some, show (24 : Int32) = nI 24 by decide +kernel, if_neg (nI_ne hfull (by omega) (by omega)), g1, Option.bind_some, g2, p1, Option.bind_some, hld1, Option.bind_some, p4, hmf, Option.bind_some, if_pos (am_bz0.mpr rfl), v1, Option.bind_some, w1, Option.bind_some, fg_at (by omega), d2.1, hlen2]
          exact if_pos rfl
        · rcases List.mem_append.mp hx with hx | hx
          · exact hA.2.2.2.1 x hx
          · rw [List.mem_singleton.mp hx]; exact hr
        · have hCx : am_C (am_nw A (A.2.1 ++ [r]) A.2.2.2.2.1 ((A.2.1, A.2.2.2.2.1) :: A.2.2.2.2.2.1.take 11)) (fg_st σ2) := by
            refine am_C_mk hC (fun k j hk => f3 k j (by omega) (by omega) (by omega) (by omega)) ⟨(fg_at (by omega)).trans d2.1, fun i hi => (fg_at (by omega)).trans (d2.2 i hi)⟩ ((f3 0 6 (by omega) (by omega) (by omega) (by omega)).trans c6) (fg_hs (σ := σ2) (ds := (1, A.2.1.length, am_pk r) :: ds.take 11) ?_) ⟨Or.inr (Or.inl ⟨rfl, rfl, rfl, r, rfl, rfl⟩), hist_take 11 _ _ _ hist⟩
            obtain ⟨b1, b2, b3⟩ := n2
            refine ⟨(d3.1 13 0 (by omega) (by omega)).trans b1, b2, fun i hi => ?_⟩
            rw [d3.1 14 i (by omega) (by omega), d3.1 15 i (by omega) (by omega), d3.1 16 i (by omega) (by omega)]
            exact b3 i hi
          exact am_C_ch hCx (fun k hk => funext fun j => g4 k j (by omega) (by omega) (by omega) (by omega))
        · refine am_M_mk hM3 (fun k j hk => g4 k j (by omega) (by omega) (by omega) (by omega)) ?_ ?_
          · obtain ⟨s1, s2, s3⟩ := r2
            have k56 : ∀ j, τ3.1 56 j = τ2.1 56 j := fun j => v3.1 56 j (by omega) (by omega)
            refine ⟨?_, ?_, fun i hi => ?_⟩
            · show τ4.1 46 0 = nI (A.2.1 ++ [r]).length
              rw [w0, hlen2]
            · rw [w2 (0 + 1) (by omega), if_neg (by omega), k46]; exact s2
            · have hi' : i < A.2.1.length + 1 := by rw [← hlen2]; exact hi
              show _ = nI ((A.2.1 ++ [r]).getD i (0, 0, 0, 0)).1 ∧ _ = nI ((A.2.1 ++ [r]).getD i (0, 0, 0, 0)).2.1 ∧ _ = nI ((A.2.1 ++ [r]).getD i (0, 0, 0, 0)).2.2.1 ∧ _ = am_cd ((A.2.1 ++ [r]).getD i (0, 0, 0, 0)).2.2.2
              by_cases c : i < A.2.1.length
              · have := s3 i c
                rw [rd_app, if_pos c, w2 _ (by omega), if_neg (by omega), w2 _ (by omega), if_neg (by omega), w2 _ (by omega), if_neg (by omega), w2 _ (by omega), if_neg (by omega), k46, k46, k46, k46]
                exact this
              · have hi2 : i = A.2.1.length := by omega
                have := p2.1 i (by rw [hlen2]; exact hi')
                rw [w2 _ (by omega), if_pos (by omega), w2 _ (by omega), if_pos (by omega), w2 _ (by omega), if_pos (by omega), w2 _ (by omega), if_pos (by omega), k56, k56, k56, k56, show 0 + 2 + 4 * i - 2 = 0 + 4 * i by omega, show 0 + 2 + 4 * i + 1 - 2 = 0 + 4 * i + 1 by omega, show 0 + 2 + 4 * i + 2 - 2 = 0 + 4 * i + 2 by omega, show 0 + 2 + 4 * i + 3 - 2 = 0 + 4 * i + 3 by omega]
                exact this
          · obtain ⟨b1, b2, b3⟩ := v2
            have k47 : τ4.1 47 = τ3.1 47 := funext fun j => w3 47 j (by omega)
            refine ⟨(w3 45 8 (by omega)).trans b1, b2, fun i hi => ?_⟩
            rw [k47]; exact b3 i hi
        · have := fg_fg (σ := σ2)
          unfold am_fg at this ⊢
          rw [g4 0 8 (by omega) (by omega) (by omega) (by omega), g4 29 0 (by omega) (by omega) (by omega) (by omega), g4 0 11 (by omega) (by omega) (by omega) (by omega)]
          exact this
        · refine ⟨funext fun j => ?_, ?_⟩
          · rw [g4 k j (by omega) (by omega) (by omega) (by omega), f3 k j (by omega) (by omega) (by omega) (by omega)]
          · rw [w4, v3.2, p5.2]
            unfold fg_st
            rw [si_l, si_l, si_l, d3.2, n3.2]
end C15
