/-! cases 38, 39 -/
section C38
variable {A : am_A} {a : Nat → Int32} {σ : ja_S}
theorem laysDue_ok {τ : ja_S} (hA : am_ok A) (hM : am_M A τ) : ∃ τ', f_Model_laysDue 45 τ = some τ' ∧ mg_ok τ' A.1 (A.2.1, A.2.2.1, 0) A.2.2.2.1 ∧ τ'.1 45 37 = nI (am_st (am_rl A) A.2.2.1) ∧ τ'.1 45 38 = nI (an_not (2 ^ A.2.2.2.1.length - 1) (am_op (am_rl A) A.2.2.1 A.2.2.2.1)) ∧ fr_md τ τ' := by
  have hc8 : A.2.2.2.1.length ≤ 8 := hA.2.2.2.2.2.2.1
  obtain ⟨τ1, τ2, g1, g2, g3, g4, g5, g6, g7⟩ := mhome hA hM
  have hp : 0 < 2 ^ A.2.2.2.1.length := Nat.two_pow_pos _
  have hw3 : ∀ (j : Nat) (v : Int32) (τ : ja_S), (j = 37 ∨ j = 38) → mw_ok τ A.2.2.1 A.2.2.2.1 → mw_ok (ja_si τ 45 j v) A.2.2.1 A.2.2.2.1 := fun j v τ hj h => by
    unfold mw_ok at h ⊢
    rw [si_row (a := 57) (by omega), si_row (a := 49) (by omega), si_row (a := 50) (by omega), si_at, if_neg (by omega), si_at, if_neg (by omega)]
    exact h
  have hm3 : mf_ok (ja_si τ2 45 37 (nI (am_st (am_rl A) A.2.2.1))) (am_rl A) := by
    refine ⟨?_, fun i e he => ?_, fun s hs => ?_⟩
    · rw [si_at, if_neg (by omega)]; exact g3.1
    · rw [si_row (by omega)]; exact g3.2.1 i e he
    · rw [si_row (by omega)]; exact g3.2.2 s hs
  have hq3 : mq_ok (ja_si (ja_si τ2 45 37 (nI (am_st (am_rl A) A.2.2.1))) 45 38 (nI (an_not (2 ^ A.2.2.2.1.length - 1) (am_op (am_rl A) A.2.2.1 A.2.2.2.1)))) A.1 A.2.1 (2 ^ A.2.1.length - 1) 0 := mq_fr2 g4 (fun j => by rw [si_row (by omega), si_row (by omega)]) (fun j hj => by rw [si_at, if_neg (by omega), si_at, if_neg (by omega)])
  refine ⟨_, ?_, ⟨hq3, hw3 38 _ _ (by omega) (hw3 37 _ _ (by omega) g5)⟩, ?_, ?_, fr_md_tr g6 (fr_md_tr (md_si (j := 37) (by omega)) (md_si (j := 38) (by omega)))⟩
  · unfold f_Model_laysDue ja_pu
    rw [g1, Option.bind_some, g2, Option.bind_some, msettable_ok g3 rl_ok g5, Option.bind_some, Option.bind_some, munprot_ok hm3 rl_ok (hw3 37 _ _ (by omega) g5), Option.bind_some, Option.bind_some, (hw3 37 _ _ (by omega) g5).2.2.2.2.1, nI_pow (by omega), show (1 : Int32) = nI 1 by decide +kernel, pk_sub (by omega), show -nI 1 = (-1 : Int32) by decide +kernel, nI_an]
  · rw [si_at, if_neg (by omega), si_at, if_pos ⟨rfl, rfl⟩]
  · rw [si_at, if_pos ⟨rfl, rfl⟩]
theorem lohi {x y : Nat} (hx : x < 12) (hy : y < 12) (hne : x ≠ y) : ∃ lo hi : Nat, lo < 12 ∧ hi < 12 ∧ (if nI y < nI x then nI y else nI x) = nI lo ∧ (if nI x < nI y then nI y else nI x) = nI hi ∧ (∀ τ, f_Model_lower 45 (nI x) (nI y) τ = some (nI lo, τ)) ∧ ∀ τ, f_Model_higher 45 (nI x) (nI y) τ = some (nI hi, τ) := by
  unfold f_Model_lower f_Model_higher
  rcases Nat.lt_or_ge x y with h | h
  · refine ⟨x, y, hx, hy, ?_, ?_, fun τ => ?_, fun τ => ?_⟩
    · rw [if_neg (nI_nlt (by omega) (by omega))]
    · rw [if_pos (nI_lt h (by omega))]
    · rw [if_neg (nI_ge h (by omega))]
    · rw [if_neg (nI_ge h (by omega))]
  · refine ⟨y, x, hy, hx, ?_, ?_, fun τ => ?_, fun τ => ?_⟩
    · rw [if_pos (nI_lt (by omega) (by omega))]
    · rw [if_neg (nI_nlt (by omega) (by omega))]
    · rw [if_pos (nI_le h (by omega))]
    · rw [if_pos (nI_le h (by omega))]
theorem case_38 (hA : am_ok A) (hC : am_C A σ) (hM : am_M A σ) (hK : am_K A σ) : am_ask2 A 38 a σ := by
  have hN : A.1 ≤ 12 := hA.2.1
  have c0 : σ.1 3 0 = nI A.1 := hC.2.2.2.2.1.1
  have c2 : ∀ τ : ja_S, am_M A τ → (ja_si τ 45 9 0).1 45 0 = nI A.1 := fun τ h => by rw [si_at, if_neg (by omega)]; exact h.1
  have n2 : ¬ (0 : Int32) ≤ (-2 : Int32) := by decide +kernel
  have n3 : ¬ (0 : Int32) ≤ (-3 : Int32) := by decide +kernel
  cases hin : am_in (a 1) A.1 with
  | false =>
    refine am_asks1 hC hM hK ?_
    rw [jc_38]
    unfold f_Frame_isMergeable f_Frame_countMerged f_Model_isMergeable ja_pu
    rw [show ja_q 0 3 = 3 from rfl, hasLever_ok c0 (by omega), hin, Option.bind_some, if_pos (am_bz0.mpr rfl), Option.bind_some, if_neg n2, Option.bind_some, Option.bind_some, isLever_ok (c2 σ hM) (by omega), hin, Option.bind_some, if_pos (am_bz0.mpr rfl), Option.bind_some, if_pos rfl]
  | true =>
    cases hin2 : am_in (a 2) A.1 with
    | false =>
      refine am_asks1 hC hM hK ?_
      rw [jc_38]
      unfold f_Frame_isMergeable f_Frame_countMerged f_Model_isMergeable ja_pu
      rw [show ja_q 0 3 = 3 from rfl, hasLever_ok c0 (by omega), hin, Option.bind_some, if_neg bz1, hasLever_ok c0 (by omega), hin2, Option.bind_some, if_pos (am_bz0.mpr rfl), Option.bind_some, if_neg n2, Option.bind_some, Option.bind_some, isLever_ok (c2 σ hM) (by omega), hin, Option.bind_some, if_neg bz1, isLever_ok (c2 σ hM) (by omega), hin2, Option.bind_some, if_pos (am_bz0.mpr rfl), Option.bind_some, if_pos rfl]
    | true =>
      obtain ⟨x, hx, ex⟩ := am_in_t hin (by omega)
      obtain ⟨y, hy, ey⟩ := am_in_t hin2 (by omega)
      by_cases hxy : x = y
      · refine am_asks1 hC hM hK ?_
        rw [jc_38]
        unfold f_Frame_isMergeable f_Frame_countMerged f_Model_isMergeable ja_pu
        have he : a 1 = a 2 := by rw [ex, ey, hxy]
        rw [show ja_q 0 3 = 3 from rfl, hasLever_ok c0 (by omega), hin, Option.bind_some, if_neg bz1, hasLever_ok c0 (by omega), hin2, Option.bind_some, if_neg bz1, if_pos he, Option.bind_some, if_neg n3, Option.bind_some, Option.bind_some, isLever_ok (c2 σ hM) (by omega), hin, Option.bind_some, if_neg bz1, isLever_ok (c2 σ hM) (by omega), hin2, Option.bind_some, if_neg bz1, if_pos he, Option.bind_some, if_pos rfl]
      · obtain ⟨lo, hi, l1, l2, l3, l4, l5, l6⟩ := lohi (x := x) (y := y) (by omega) (by omega) hxy
        obtain ⟨σ1, e1, e2, e3, e4, e5⟩ := searched_ok hA hC hK
        obtain ⟨σ2, b1, b2, b3, b4, b5, b6⟩ := begin_ok hA e2 e3 e4
        obtain ⟨σ3, t1, t2, t3, t4, t5, t6, t7⟩ := attempt_ok (G := (A.2.1, A.2.2.1, 0)) b5 hN l1 l2 b2
        have hf : fr_cl σ σ3 := fr_cl_tr e5 (fr_cl_tr (fr_g_cl b6) (fr_g_cl t6))
        have hM1 := am_M_cl hM hf
        obtain ⟨τ1, d1, d2, d3, d4, d5⟩ := laysDue_ok hA (am_M_th (v := 0) hM1)
        obtain ⟨τ2, m1, m2, m3, m4⟩ := merges_ok l1 l2 d2
        have hst := st_lt (q := am_rl A) (ro := A.2.2.1) hA.2.2.2.2.1
        have hop := op_lt (q := am_rl A) (ro := A.2.2.1) hA.2.2.2.2.2.2.1
        obtain ⟨τ3, u1, u2⟩ := isDue_ok hst m2 ((m3 45 37 (by omega) (by omega) (by omega)).trans d3) ((m3 45 38 (by omega) (by omega) (by omega)).trans d4)
        have hfm : fr_md σ3 τ3 := fr_md_tr md_th (fr_md_tr d5 (fr_md_tr ⟨fun k j h1 h2 => m3 k j (by omega) (by omega) (by omega), m4⟩ (fr_m_md u2)))
        have hln : (am_gq A.1 (am_mg lo hi (A.2.1, A.2.2.1, 0))).length ≤ 4096 := bq_ok_len (bq_all_ok (by omega))
        have h0 : (0 : Int32) ≤ σ3.1 23 1 := by rw [t4.1]; exact nI_pos' (by omega)
        refine am_asks (σ2 := τ3) ?_ hC hM hf t5 hfm
        rw [jc_38]
        unfold f_Frame_isMergeable f_Frame_countMerged f_Model_isMergeable ja_pu
        rw [show ja_q 0 3 = 3 from rfl, show ja_q 0 7 = 17 from rfl, show ja_q 0 0 = 34 from rfl, show ja_q 0 9 = 23 from rfl, hasLever_ok c0 (by omega), hin, Option.bind_some, if_neg bz1, hasLever_ok c0 (by omega), hin2, Option.bind_some, if_neg bz1, ex, ey, if_neg (nI_ne hxy (by omega) (by omega)), e1, Option.bind_some, b1, Option.bind_some, l3, l4, t1, Option.bind_some, Option.bind_some, if_pos h0, keepsRC_ok hst hop t2 t4 ((t7 3).trans b3) ((t7 0).trans b4), Option.bind_some]
        cases hd : am_due A.1 A.2.2.2.1 (am_st (am_rl A) A.2.2.1) (am_op (am_rl A) A.2.2.1 A.2.2.2.1) (am_mg lo hi (A.2.1, A.2.2.1, 0)) with
        | false =>
          rw [hd] at u1
          rw [if_pos (am_bz0.mpr rfl), Option.bind_some, Option.bind_some, isLever_ok (c2 σ3 hM1) (by omega), am_in_nI hx (by omega), Option.bind_some, if_neg bz1, isLever_ok (c2 σ3 hM1) (by omega), am_in_nI hy (by omega), Option.bind_some, if_neg bz1, if_neg (nI_ne hxy (by omega) (by omega)), d1, Option.bind_some, l5, Option.bind_some, l6, Option.bind_some, m1, Option.bind_some, u1, Option.bind_some, if_pos (am_bz0.mpr rfl), Option.bind_some]
          exact if_pos rfl
        | true =>
          rw [hd] at u1
          rw [if_neg bz1, Option.bind_some, Option.bind_some, isLever_ok (c2 σ3 hM1) (by omega), am_in_nI hx (by omega), Option.bind_some, if_neg bz1, isLever_ok (c2 σ3 hM1) (by omega), am_in_nI hy (by omega), Option.bind_some, if_neg bz1, if_neg (nI_ne hxy (by omega) (by omega)), d1, Option.bind_some, l5, Option.bind_some, l6, Option.bind_some, m1, Option.bind_some, u1, Option.bind_some, if_neg bz1, Option.bind_some]
          exact if_pos rfl
theorem case_39 (hA : am_ok A) (hC : am_C A σ) (hM : am_M A σ) (hK : am_K A σ) : am_ask2 A 39 a σ := by
  have hN : A.1 ≤ 12 := hA.2.1
  have c0 : σ.1 3 0 = nI A.1 := hC.2.2.2.2.1.1
  have c2 : ∀ τ : ja_S, am_M A τ → (ja_si τ 45 9 0).1 45 0 = nI A.1 := fun τ h => by rw [si_at, if_neg (by omega)]; exact h.1
  cases hin : am_in (a 1) A.1 with
  | false =>
    refine am_asks1 hC hM hK ?_
    rw [jc_39]
    unfold f_Frame_mergedReachableCount f_Frame_countMerged f_Model_mergedReachableCount ja_pu
    rw [show ja_q 0 3 = 3 from rfl, hasLever_ok c0 (by omega), hin, Option.bind_some, if_pos (am_bz0.mpr rfl), Option.bind_some, Option.bind_some, Option.bind_some, isLever_ok (c2 σ hM) (by omega), hin, Option.bind_some, if_pos (am_bz0.mpr rfl), Option.bind_some, if_pos rfl]
  | true =>
    cases hin2 : am_in (a 2) A.1 with
    | false =>
      refine am_asks1 hC hM hK ?_
      rw [jc_39]
      unfold f_Frame_mergedReachableCount f_Frame_countMerged f_Model_mergedReachableCount ja_pu
      rw [show ja_q 0 3 = 3 from rfl, hasLever_ok c0 (by omega), hin, Option.bind_some, if_neg bz1, hasLever_ok c0 (by omega), hin2, Option.bind_some, if_pos (am_bz0.mpr rfl), Option.bind_some, Option.bind_some, Option.bind_some, isLever_ok (c2 σ hM) (by omega), hin, Option.bind_some, if_neg bz1, isLever_ok (c2 σ hM) (by omega), hin2, Option.bind_some, if_pos (am_bz0.mpr rfl), Option.bind_some, if_pos rfl]
    | true =>
      obtain ⟨x, hx, ex⟩ := am_in_t hin (by omega)
      obtain ⟨y, hy, ey⟩ := am_in_t hin2 (by omega)
      by_cases hxy : x = y
      · refine am_asks1 hC hM hK ?_
        rw [jc_39]
        unfold f_Frame_mergedReachableCount f_Frame_countMerged f_Model_mergedReachableCount ja_pu
        have he : a 1 = a 2 := by rw [ex, ey, hxy]
        rw [show ja_q 0 3 = 3 from rfl, hasLever_ok c0 (by omega), hin, Option.bind_some, if_neg bz1, hasLever_ok c0 (by omega), hin2, Option.bind_some, if_neg bz1, if_pos he, Option.bind_some, Option.bind_some, Option.bind_some, isLever_ok (c2 σ hM) (by omega), hin, Option.bind_some, if_neg bz1, isLever_ok (c2 σ hM) (by omega), hin2, Option.bind_some, if_neg bz1, if_pos he, Option.bind_some, if_pos rfl]
      · obtain ⟨lo, hi, l1, l2, l3, l4, l5, l6⟩ := lohi (x := x) (y := y) (by omega) (by omega) hxy
        obtain ⟨σ1, e1, e2, e3, e4, e5⟩ := searched_ok hA hC hK
        obtain ⟨σ2, b1, b2, b3, b4, b5, b6⟩ := begin_ok hA e2 e3 e4
        obtain ⟨σ3, t1, t2, t3, t4, t5, t6, t7⟩ := attempt_ok (G := (A.2.1, A.2.2.1, 0)) b5 hN l1 l2 b2
        have hf : fr_cl σ σ3 := fr_cl_tr e5 (fr_cl_tr (fr_g_cl b6) (fr_g_cl t6))
        have hM1 := am_M_cl hM hf
        obtain ⟨τ1, d1, d2, d3, d4⟩ := mstart hA (am_M_th (v := 0) hM1)
        obtain ⟨τ2, m1, m2, m3, m4⟩ := merges_ok (G := (A.2.1, A.2.2.1, 0)) l1 l2 ⟨d2, am_M_mw hA (am_M_md (am_M_th (v := 0) hM1) d4) d3⟩
        obtain ⟨τ3, u1, u2, u3⟩ := laysFrom_ok m2.1 (s := 0) (by omega)
        rw [mq_cq hN, sel_ones] at u2
        have u2' : mf_ok τ3 (am_gq A.1 (am_mg lo hi (A.2.1, A.2.2.1, 0))) := u2
        have u1' : f_Model_laysFrom 45 (0 : Int32) τ2 = some τ3 := by rw [am_z]; exact u1
        have hfm : fr_md σ3 τ3 := fr_md_tr md_th (fr_md_tr d4 (fr_md_tr ⟨fun k j h1 h2 => m3 k j (by omega) (by omega) (by omega), m4⟩ (fr_m_md u3)))
        refine am_asks (σ2 := τ3) ?_ hC hM hf t5 hfm
        rw [jc_39]
        unfold f_Frame_mergedReachableCount f_Frame_countMerged f_Model_mergedReachableCount ja_pu
        rw [show ja_q 0 3 = 3 from rfl, show ja_q 0 7 = 17 from rfl, show ja_q 0 0 = 34 from rfl, show ja_q 0 9 = 23 from rfl, hasLever_ok c0 (by omega), hin, Option.bind_some, if_neg bz1, hasLever_ok c0 (by omega), hin2, Option.bind_some, if_neg bz1, ex, ey, if_neg (nI_ne hxy (by omega) (by omega)), e1, Option.bind_some, b1, Option.bind_some, l3, l4, t1, Option.bind_some, Option.bind_some, Option.bind_some, Option.bind_some, isLever_ok (c2 σ3 hM1) (by omega), am_in_nI hx (by omega), Option.bind_some, if_neg bz1, isLever_ok (c2 σ3 hM1) (by omega), am_in_nI hy (by omega), Option.bind_some, if_neg bz1, if_neg (nI_ne hxy (by omega) (by omega)), d1, Option.bind_some, l5, Option.bind_some, l6, Option.bind_some, m1, Option.bind_some, u1', Option.bind_some, Option.bind_some, t4.1, u2'.1]
        exact if_pos rfl
end C38
