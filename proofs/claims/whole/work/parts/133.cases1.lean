/-! the calls that only ask what the sheet holds, case by case -/
section C1
variable {A : am_A} {a : Nat → Int32} {σ : ja_S}
theorem case_3 (hC : am_C A σ) (hM : am_M A σ) : am_ask A 3 a σ := by
  refine am_asked hM ?_
  have e1 : σ.1 1 1 = am_io A.2.2.2.2.2.2.2.2 := hC.2.2.2.1
  have e2 : σ.1 45 15 = am_io A.2.2.2.2.2.2.2.2 := hM.2.2.2.2.2.2.2.2.2.2.2.2.1
  simp only [ja_case, f_Frame_parseErrorOffset, f_Model_parseErrorOffset, ja_pu, Option.bind_some, show ja_q 0 2 = 1 from rfl, si_at]
  simp [e1, e2]
theorem case_4 (hC : am_C A σ) (hM : am_M A σ) : am_ask A 4 a σ := by
  refine am_asked hM ?_
  have e1 := hC.1
  have e2 := hM.2.2.2.2.2.2.2.2.2.1
  simp only [ja_case, f_Frame_bufferLength, f_Model_bufferLength, ja_pu, Option.bind_some, show ja_q 0 2 = 1 from rfl, si_at]
  simp [e1, e2]
theorem case_5 (hC : am_C A σ) (hM : am_M A σ) : am_ask A 5 a σ := by
  refine am_asked hM ?_
  have e1 : σ.1 3 0 = nI A.1 := hC.2.2.2.2.1.1
  have e2 : σ.1 45 0 = nI A.1 := hM.1
  simp only [ja_case, f_Frame_leverCount, f_Model_leverCount, ja_pu, Option.bind_some, show ja_q 0 3 = 3 from rfl, si_at]
  simp [e1, e2]
theorem am_C_rules (hC : am_C A σ) : σ.1 3 3 = nI A.2.1.length := by
  have h := hC.2.2.2.2.1.2.2.1
  rw [List.length_map] at h
  exact h
theorem am_C_rule (hC : am_C A σ) {i : Nat} (hi : i < A.2.1.length) : σ.1 4 i = nI (am_pk (A.2.1.getD i (0, 0, 0, 0))) := by
  have h := hC.2.2.2.2.1.2.2.2.2.2.1 i (by rw [List.length_map]; exact hi)
  rw [getD_map (d := (0, 0, 0, 0)) hi] at h
  exact h
theorem am_M_rules (hM : am_M A σ) : σ.1 46 0 = nI A.2.1.length := hM.2.2.2.1.1
theorem am_M_rule (hM : am_M A σ) {i : Nat} (hi : i < A.2.1.length) : σ.1 46 (2 + 4 * i) = nI (A.2.1.getD i (0, 0, 0, 0)).1 ∧ σ.1 46 (2 + 4 * i + 1) = nI (A.2.1.getD i (0, 0, 0, 0)).2.1 ∧ σ.1 46 (2 + 4 * i + 2) = nI (A.2.1.getD i (0, 0, 0, 0)).2.2.1 ∧ σ.1 46 (2 + 4 * i + 3) = am_cd (A.2.1.getD i (0, 0, 0, 0)).2.2.2 := by
  have h := hM.2.2.2.1.2.2 i hi
  simpa using h
theorem case_6 (hC : am_C A σ) (hM : am_M A σ) : am_ask A 6 a σ := by
  refine am_asked hM ?_
  have e1 := am_C_rules hC
  have e2 := am_M_rules hM
  simp only [ja_case, f_Frame_ruleCount, f_Model_ruleCount, ja_pu, Option.bind_some, show ja_q 0 3 = 3 from rfl, show ja_q 45 3 = 46 from rfl]
  rw [show (0 : Int32) = nI 0 by decide +kernel, ld0 (N := 98) rfl (by omega) (by omega), si_row (a := 46) (by omega)]
  simp [e1, e2]
theorem case_10 (hC : am_C A σ) (hM : am_M A σ) : am_ask A 10 a σ := by
  refine am_asked hM ?_
  have e1 : σ.1 3 5 = nI A.2.2.1.length := hC.2.2.2.2.1.2.2.2.1
  have e2 : σ.1 45 1 = nI A.2.2.1.length := hM.2.1
  simp only [ja_case, f_Frame_routeCount, f_Model_routeCount, ja_pu, Option.bind_some, show ja_q 0 3 = 3 from rfl, si_at]
  simp [e1, e2]
theorem case_12 (hC : am_C A σ) (hM : am_M A σ) : am_ask A 12 a σ := by
  refine am_asked hM ?_
  have e1 : σ.1 3 8 = nI A.2.2.2.1.length := hC.2.2.2.2.1.2.2.2.2.1
  have e2 : σ.1 45 2 = nI A.2.2.2.1.length := hM.2.2.1
  simp only [ja_case, f_Frame_conflictCount, f_Model_conflictCount, ja_pu, Option.bind_some, show ja_q 0 3 = 3 from rfl, si_at]
  simp [e1, e2]
theorem case_13 (hC : am_C A σ) (hM : am_M A σ) : am_ask A 13 a σ := by
  refine am_asked hM ?_
  have e1 : σ.1 0 6 = nI A.2.2.2.2.1 := hC.2.2.2.2.2.1
  have e2 : σ.1 46 1 = nI A.2.2.2.2.1 := hM.2.2.2.1.2.1
  simp only [ja_case, f_Frame_currentState, f_Model_currentState, ja_pu, Option.bind_some, show ja_q 45 3 = 46 from rfl]
  rw [show (1 : Int32) = nI 1 by decide +kernel, ld0 (N := 98) rfl (by omega) (by omega), si_row (a := 46) (by omega)]
  simp [e1, e2]
theorem nI_4j {j : Nat} : (2 : Int32) + (4 : Int32) * nI j = nI (2 + 4 * j) := by
  rw [show (2 : Int32) = nI 2 by decide +kernel, show (4 : Int32) = nI 4 by decide +kernel, pk_mul, nI_add]
theorem case_7 (hA : am_ok A) (hC : am_C A σ) (hM : am_M A σ) : am_ask A 7 a σ := by
  refine am_asked hM ?_
  have hl : A.2.1.length ≤ 24 := hA.2.2.1
  have e1 := am_C_rules hC
  have e2 : (ja_si σ 45 9 0).1 46 0 = nI A.2.1.length := by rw [si_row (by omega)]; exact am_M_rules hM
  simp only [ja_case, f_Frame_ruleKind, f_Model_ruleKind, ja_pu, show ja_q 0 3 = 3 from rfl, show ja_q 3 2 = 4 from rfl, show ja_q 45 3 = 46 from rfl]
  rw [hasRule_ok e1 (by omega)]
  simp only [Option.bind_some]
  cases hin : am_in (a 1) A.2.1.length with
  | false =>
    rw [if_pos (am_bz0.mpr rfl)]
    simp only [Option.bind_some]
    rw [isRule_ok e2 (by omega), hin]
    simp [am_bz]
  | true =>
    obtain ⟨j, hj, ej⟩ := am_in_t hin (by omega)
    have hr := am_r16 (hA.2.2.2.1 _ (getD_mem (d := (0, 0, 0, 0)) hj)) hA.2.1
    rw [if_neg (by decide), ej, ld0 (N := 24) rfl (by omega) (by omega)]
    simp only [Option.bind_some]
    rw [am_C_rule hC hj, rk_ok hr]
    simp only [Option.bind_some]
    rw [isRule_ok e2 (by omega), am_in_nI hj (by omega)]
    simp only [Option.bind_some]
    rw [if_neg (by decide), nI_4j, ld0 (N := 98) rfl (by omega) (by omega), si_row (by omega), (am_M_rule hM hj).1]
    simp
theorem case_8 (hA : am_ok A) (hC : am_C A σ) (hM : am_M A σ) : am_ask A 8 a σ := by
  refine am_asked hM ?_
  have hl : A.2.1.length ≤ 24 := hA.2.2.1
  have e1 := am_C_rules hC
  have e2 : (ja_si σ 45 9 0).1 46 0 = nI A.2.1.length := by rw [si_row (by omega)]; exact am_M_rules hM
  simp only [ja_case, f_Frame_ruleLevers, f_Model_ruleLevers, ja_pu, show ja_q 0 3 = 3 from rfl, show ja_q 3 2 = 4 from rfl, show ja_q 45 3 = 46 from rfl]
  rw [hasRule_ok e1 (by omega)]
  simp only [Option.bind_some]
  cases hin : am_in (a 1) A.2.1.length with
  | false =>
    rw [if_pos (am_bz0.mpr rfl)]
    simp only [Option.bind_some]
    rw [isRule_ok e2 (by omega), hin]
    simp [am_bz]
  | true =>
    obtain ⟨j, hj, ej⟩ := am_in_t hin (by omega)
    have hr := am_r16 (hA.2.2.2.1 _ (getD_mem (d := (0, 0, 0, 0)) hj)) hA.2.1
    rw [if_neg (by decide), ej, ld0 (N := 24) rfl (by omega) (by omega)]
    simp only [Option.bind_some]
    rw [am_C_rule hC hj, ra_ok hr]
    simp only [Option.bind_some]
    rw [ld0 (N := 24) rfl (by omega) (by omega)]
    simp only [Option.bind_some]
    rw [am_C_rule hC hj, rlb_ok hr]
    simp only [Option.bind_some, f_Frame_leverPair]
    rw [isRule_ok e2 (by omega), am_in_nI hj (by omega)]
    simp only [Option.bind_some]
    rw [if_neg (by decide), nI_4j, nI_1, show (2 : Int32) = nI 2 by decide +kernel, nI_add, ld0 (N := 98) rfl (by omega) (by omega)]
    simp only [Option.bind_some]
    rw [ld0 (N := 98) rfl (by omega) (by omega), si_row (by omega), (am_M_rule hM hj).2.1, (am_M_rule hM hj).2.2.1]
    simp
theorem case_9 (hA : am_ok A) (hC : am_C A σ) (hM : am_M A σ) : am_ask A 9 a σ := by
  refine am_asked hM ?_
  have hl : A.2.1.length ≤ 24 := hA.2.2.1
  have e1 := am_C_rules hC
  have e2 : (ja_si σ 45 9 0).1 46 0 = nI A.2.1.length := by rw [si_row (by omega)]; exact am_M_rules hM
  simp only [ja_case, f_Frame_ruleCondition, f_Model_ruleCondition, ja_pu, show ja_q 0 3 = 3 from rfl, show ja_q 3 2 = 4 from rfl, show ja_q 45 3 = 46 from rfl]
  rw [hasRule_ok e1 (by omega)]
  simp only [Option.bind_some]
  cases hin : am_in (a 1) A.2.1.length with
  | false =>
    rw [if_pos (am_bz0.mpr rfl)]
    simp only [Option.bind_some]
    rw [isRule_ok e2 (by omega), hin]
    simp [am_bz]
  | true =>
    obtain ⟨j, hj, ej⟩ := am_in_t hin (by omega)
    have hr := am_r16 (hA.2.2.2.1 _ (getD_mem (d := (0, 0, 0, 0)) hj)) hA.2.1
    rw [if_neg (by decide), ej, ld0 (N := 24) rfl (by omega) (by omega)]
    simp only [Option.bind_some]
    rw [am_C_rule hC hj, rcd_ok hr]
    simp only [Option.bind_some]
    rw [isRule_ok e2 (by omega), am_in_nI hj (by omega)]
    simp only [Option.bind_some]
    rw [if_neg (by decide), nI_4j, show (3 : Int32) = nI 3 by decide +kernel, nI_add, ld0 (N := 98) rfl (by omega) (by omega), si_row (by omega), (am_M_rule hM hj).2.2.2]
    simp
theorem case_11 (hA : am_ok A) (hC : am_C A σ) (hM : am_M A σ) : am_ask A 11 a σ := by
  refine am_asked hM ?_
  have hl : A.2.2.1.length ≤ 8 := hA.2.2.2.2.1
  have e1 : σ.1 3 5 = nI A.2.2.1.length := hC.2.2.2.2.1.2.2.2.1
  have e2 : (ja_si σ 45 9 0).1 45 1 = nI A.2.2.1.length := by rw [si_at, if_neg (by omega)]; exact hM.2.1
  simp only [ja_case, f_Frame_routeLevers, f_Model_routeLevers, ja_pu, show ja_q 0 3 = 3 from rfl, show ja_q 3 4 = 5 from rfl, show ja_q 45 5 = 48 from rfl]
  rw [hasRoute_ok e1 (by omega)]
  simp only [Option.bind_some]
  cases hin : am_in (a 1) A.2.2.1.length with
  | false =>
    rw [if_pos (am_bz0.mpr rfl)]
    simp only [Option.bind_some]
    rw [isRoute_ok e2 (by omega), hin]
    simp [am_bz]
  | true =>
    obtain ⟨j, hj, ej⟩ := am_in_t hin (by omega)
    rw [if_neg (by decide), ej, ld0 (N := 8) rfl (by omega) (by omega)]
    simp only [Option.bind_some]
    rw [isRoute_ok e2 (by omega), am_in_nI hj (by omega)]
    simp only [Option.bind_some]
    rw [if_neg (by decide), ld0 (N := 8) rfl (by omega) (by omega), si_row (by omega)]
    have h1 : σ.1 5 j = nI (A.2.2.1.getD j 0) := hC.2.2.2.2.1.2.2.2.2.2.2.1 j hj
    have h2 : σ.1 48 j = nI (A.2.2.1.getD j 0) := hM.2.2.2.2.2.2.1 j hj
    rw [h1, h2]
    simp
end C1
