/-! isLegal, blockingRule, freeLevers -/
section C2
variable {A : am_A} {a : Nat → Int32} {σ : ja_S}
theorem all_ok {k n : Nat} (h : σ.1 k 0 = nI n) (hn : n ≤ 12) : f_Sheet_allLevers k σ = some (nI (2 ^ n - 1), σ) := by
  have hp : 0 < 2 ^ n := Nat.pos_of_ne_zero (by simp)
  unfold f_Sheet_allLevers
  rw [h, nI_pow (by omega), show (1 : Int32) = nI 1 by decide +kernel, pk_sub (by omega)]
theorem p12 {n : Nat} (hn : n ≤ 12) : 2 ^ n ≤ 4096 ∧ 0 < 2 ^ n := ⟨Nat.pow_le_pow_right (by omega) hn, Nat.pos_of_ne_zero (by simp)⟩
theorem hasState_ok {k n : Nat} {x : Int32} (h : σ.1 k 0 = nI n) (hn : n ≤ 12) : f_Sheet_hasState k x σ = some (am_bz (am_in x (2 ^ n)), σ) := by
  have hp := p12 hn
  unfold f_Sheet_hasState
  rw [all_ok h hn, Option.bind_some]
  unfold am_in am_bz
  by_cases h1 : x.toInt < 0
  · rw [if_pos (i32_lt0.mpr h1), if_neg (by simp only [decide_eq_true_eq]; omega)]
  · rw [if_neg (fun q => h1 (i32_lt0.mp q))]
    have e : (nI (2 ^ n - 1) < x) ↔ ((2 ^ n : Nat) : Int) ≤ x.toInt := by
      rw [Int32.lt_iff_toInt_lt, nI_toInt (by omega)]
      omega
    by_cases h2 : ((2 ^ n : Nat) : Int) ≤ x.toInt
    · rw [if_pos (e.mpr h2), if_neg (by simp only [decide_eq_true_eq]; omega)]
    · rw [if_neg (fun q => h2 (e.mp q)), if_pos (by simp only [decide_eq_true_eq]; omega)]
theorem isState_ok {n : Nat} {x : Int32} (h : σ.1 45 0 = nI n) (hn : n ≤ 12) : f_Model_isState 45 x σ = some (am_bz (am_in x (2 ^ n)), σ) := by
  have hp := p12 hn
  unfold f_Model_isState
  rw [h, nI_pow (by omega), isIn_n (by omega), Option.bind_some, rb_bz]
theorem mlegal_loop {rs : List am_R} {s : Nat} (hq : am_q rs σ) (hlen : σ.1 45 27 = nI rs.length) (hs : s < 2 ^ 30) : ∀ (n i : Nat), i ≤ rs.length → rs.length - i < n → f_Model_isLegal_L22 n 45 (nI s) (nI i) σ = some (am_bz (am_first (fun k => am_forb (am_rd rs k) s) (rs.length - i) i).isNone, σ) := by
  have h32 := hq.2.1
  intro n
  induction n with
  | zero => intro i _ h; omega
  | succ n ih =>
    intro i hi hn
    unfold f_Model_isLegal_L22
    rw [hlen]
    by_cases h : i = rs.length
    · subst h
      rw [if_pos (nI_le (Nat.le_refl _) (by omega)), Nat.sub_self]
      rfl
    · rw [if_neg (nI_ge (by omega) (by omega)), mforb_ok hq (by omega) (by omega), Option.bind_some, show rs.length - i = (rs.length - (i + 1)) + 1 by omega]
      unfold am_first
      cases am_forb (am_rd rs i) s with
      | false => rw [if_pos (am_bz0.mpr rfl), nI_1, ih (i + 1) (by omega) (by omega)]; rfl
      | true => rw [if_neg bz1]; rfl
theorem blockOf_loop {rs : List am_R} {s l : Nat} (hq : am_q rs σ) (h24 : rs.length ≤ 31) (hlen : σ.1 45 27 = nI rs.length) (hu : σ.1 45 28 = nI (2 ^ rs.length - 1)) (hs : s < 2 ^ 12) (hl : l < 12) : ∀ (n i : Nat), i ≤ rs.length → rs.length - i < n → f_Model_blockOf_L2 n 45 (nI s) (nI l) (nI i) σ = some (am_io (am_first (fun k => am_blk (am_rd rs k) s l) (rs.length - i) i), σ) := by
  have hp : 2 ^ rs.length ≤ 2 ^ 31 := Nat.pow_le_pow_right (by omega) h24
  have hp0 : 0 < 2 ^ rs.length := Nat.pos_of_ne_zero (by simp)
  intro n
  induction n with
  | zero => intro i _ h; omega
  | succ n ih =>
    intro i hi hn
    unfold f_Model_blockOf_L2
    rw [hlen, hu]
    by_cases h : i = rs.length
    · subst h
      rw [if_pos (nI_le (Nat.le_refl _) (by omega)), Nat.sub_self]
      rfl
    · have ht : (2 ^ rs.length - 1).testBit i = true := by
        rw [Nat.testBit_two_pow_sub_one]
        simp
        omega
      rw [if_neg (nI_ge (by omega) (by omega)), has_ok (by omega) (by omega), Option.bind_some, ht, if_neg bz1, mblk_ok hq (by omega) hs hl, Option.bind_some, show rs.length - i = (rs.length - (i + 1)) + 1 by omega]
      unfold am_first
      cases am_blk (am_rd rs i) s l with
      | false => rw [if_pos (am_bz0.mpr rfl), nI_1, ih (i + 1) (by omega) (by omega)]; rfl
      | true => rw [if_neg bz1]; rfl
theorem am_C_rd (hC : am_C A σ) : ∀ i, i < A.2.1.length → σ.1 4 i = nI (am_pk (am_rd A.2.1 i)) := fun i hi => am_C_rule hC hi
theorem permits_ok (hA : am_ok A) (hC : am_C A σ) {s : Nat} (hs : s < 2 ^ 30) : f_Sheet_permits 3 (nI s) σ = some (am_bz (am_first (fun k => am_forb (am_rd A.2.1 k) s) A.2.1.length 0).isNone, σ) := by
  have hl : A.2.1.length ≤ 24 := hA.2.2.1
  unfold f_Sheet_permits
  rw [am_z, permits_loop (am_C_rules hC) (am_C_rd hC) hl (fun r hr => am_rok_rb (hA.2.2.2.1 r hr) hA.2.1) hs ja_FU 0 (by omega) (by unfold ja_FU; omega)]
  rfl
theorem firstB_ok (hA : am_ok A) (hC : am_C A σ) {s l : Nat} (hs : s < 2 ^ 12) (hl2 : l < 12) : f_Sheet_firstBlocker 3 (nI s) (nI l) σ = some (am_io (am_first (fun k => am_blk (am_rd A.2.1 k) s l) A.2.1.length 0), σ) := by
  have hl : A.2.1.length ≤ 24 := hA.2.2.1
  unfold f_Sheet_firstBlocker
  rw [am_z, firstB_loop (am_C_rules hC) (am_C_rd hC) hl (fun r hr => ⟨am_rok_rb (hA.2.2.2.1 r hr) hA.2.1, (hA.2.2.2.1 r hr).2.2.2.1⟩) hs hl2 ja_FU 0 (by omega) (by unfold ja_FU; omega)]
  rfl
theorem blockOf_ok (hA : am_ok A) (hM : am_M A σ) {s l : Nat} (hs : s < 2 ^ 12) (hl2 : l < 12) : f_Model_blockOf 45 (nI s) (nI l) (am_us σ) = some (am_io (am_first (fun k => am_blk (am_rd A.2.1 k) s l) A.2.1.length 0), am_us σ) := by
  have hl : A.2.1.length ≤ 24 := hA.2.2.1
  have hu := us_used hA hM
  unfold f_Model_blockOf
  rw [am_z, blockOf_loop (am_q_us hA hM) (by omega) hu.1 hu.2.1 hs hl2 ja_FU 0 (by omega) (by unfold ja_FU; omega)]
  rfl
theorem am_asked2 (hM : am_M A σ) {n : Nat} (h : ja_case n a σ = some (am_us (ja_si σ 45 9 0))) : am_ask A n a σ := ⟨_, h, am_M_us (am_M_th hM), fun k hk => ⟨(us_row (by omega) (by omega) (by omega)).trans (si_row (by omega)), rfl⟩⟩
theorem case_18 (hA : am_ok A) (hC : am_C A σ) (hM : am_M A σ) : am_ask A 18 a σ := by
  have hl : A.2.1.length ≤ 24 := hA.2.2.1
  have hp := p12 hA.2.1
  have e1 : σ.1 3 0 = nI A.1 := hC.2.2.2.2.1.1
  have e2 : (ja_si σ 45 9 0).1 45 0 = nI A.1 := by rw [si_at, if_neg (by omega)]; exact hM.1
  have hM' := am_M_th (v := 0) hM
  cases hin : am_in (a 1) (2 ^ A.1) with
  | false =>
    refine am_asked hM ?_
    rw [jc_18]
    unfold f_Frame_isLegal f_Model_isLegal ja_pu
    rw [show ja_q 0 3 = 3 from rfl, hasState_ok e1 hA.2.1, hin, Option.bind_some, if_pos (am_bz0.mpr rfl), Option.bind_some, Option.bind_some, isState_ok e2 hA.2.1, hin, Option.bind_some, if_pos (am_bz0.mpr rfl), Option.bind_some, if_pos rfl]
  | true =>
    refine am_asked2 hM ?_
    obtain ⟨s, hs, es⟩ := am_in_t hin (by omega)
    have hL := mlegal_loop (am_q_us hA hM') (us_used hA hM').1 (s := s) (by omega) ja_FU 0 (by omega) (by unfold ja_FU; omega)
    rw [Nat.sub_zero, ← am_z] at hL
    rw [jc_18]
    unfold f_Frame_isLegal f_Model_isLegal ja_pu
    cases hn : (am_first (fun k => am_forb (am_rd A.2.1 k) s) A.2.1.length 0).isNone with
    | false =>
      rw [hn] at hL
      rw [show ja_q 0 3 = 3 from rfl, hasState_ok e1 hA.2.1, hin, Option.bind_some, if_neg bz1, es, permits_ok hA hC (by omega), hn, Option.bind_some, if_pos (am_bz0.mpr rfl), Option.bind_some, Option.bind_some, isState_ok e2 hA.2.1, am_in_nI hs (by omega), Option.bind_some, if_neg bz1, uses_ok, Option.bind_some, hL, Option.bind_some, if_pos (by rfl)]
    | true =>
      rw [hn] at hL
      rw [show ja_q 0 3 = 3 from rfl, hasState_ok e1 hA.2.1, hin, Option.bind_some, if_neg bz1, es, permits_ok hA hC (by omega), hn, Option.bind_some, if_neg bz1, Option.bind_some, Option.bind_some, isState_ok e2 hA.2.1, am_in_nI hs (by omega), Option.bind_some, if_neg bz1, uses_ok, Option.bind_some, hL, Option.bind_some, if_pos (by rfl)]
theorem case_19 (hA : am_ok A) (hC : am_C A σ) (hM : am_M A σ) : am_ask A 19 a σ := by
  have hl : A.2.1.length ≤ 24 := hA.2.2.1
  have hp := p12 hA.2.1
  have hn12 : A.1 ≤ 12 := hA.2.1
  have e1 : σ.1 3 0 = nI A.1 := hC.2.2.2.2.1.1
  have e2 : (ja_si σ 45 9 0).1 45 0 = nI A.1 := by rw [si_at, if_neg (by omega)]; exact hM.1
  have hM' := am_M_th (v := 0) hM
  cases hin2 : am_in (a 2) A.1 with
  | false =>
    refine am_asked hM ?_
    rw [jc_19]
    unfold f_Frame_blockingRule f_Model_blockingRule ja_pu
    rw [show ja_q 0 3 = 3 from rfl, hasLever_ok e1 (by omega), hin2, Option.bind_some, if_pos (am_bz0.mpr rfl), Option.bind_some, Option.bind_some, isLever_ok e2 (by omega), hin2, Option.bind_some, if_pos (am_bz0.mpr rfl), Option.bind_some, if_pos rfl]
  | true =>
    obtain ⟨l, hl2, el⟩ := am_in_t hin2 (by omega)
    cases hin : am_in (a 1) (2 ^ A.1) with
    | false =>
      refine am_asked hM ?_
      rw [jc_19]
      unfold f_Frame_blockingRule f_Model_blockingRule ja_pu
      rw [show ja_q 0 3 = 3 from rfl, hasLever_ok e1 (by omega), hin2, Option.bind_some, if_neg bz1, hasState_ok e1 hA.2.1, hin, Option.bind_some, if_pos (am_bz0.mpr rfl), Option.bind_some, Option.bind_some, isLever_ok e2 (by omega), hin2, Option.bind_some, if_neg bz1, isState_ok e2 hA.2.1, hin, Option.bind_some, if_pos (am_bz0.mpr rfl), Option.bind_some, if_pos rfl]
    | true =>
      refine am_asked2 hM ?_
      obtain ⟨s, hs, es⟩ := am_in_t hin (by omega)
      rw [jc_19]
      unfold f_Frame_blockingRule f_Model_blockingRule ja_pu
      rw [show ja_q 0 3 = 3 from rfl, hasLever_ok e1 (by omega), hin2, Option.bind_some, if_neg bz1, hasState_ok e1 hA.2.1, hin, Option.bind_some, if_neg bz1, es, el, firstB_ok hA hC (by omega) (by omega), Option.bind_some, Option.bind_some, Option.bind_some, isLever_ok e2 (by omega), am_in_nI hl2 (by omega), Option.bind_some, if_neg bz1, isState_ok e2 hA.2.1, am_in_nI hs (by omega), Option.bind_some, if_neg bz1, uses_ok, Option.bind_some, blockOf_ok hA hM' (by omega) (by omega), Option.bind_some, Option.bind_some, if_pos rfl]
end C2
