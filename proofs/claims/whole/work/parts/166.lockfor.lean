/-! the reference's lock for a conflict -/
theorem nI_pow32 {l : Nat} (h : l < 32) : (1 : Int32) <<< (nI l &&& 31) = nI (2 ^ l) := by
  have h1 : (2 : Nat) ^ l < 2 ^ 32 := Nat.pow_lt_pow_right (by omega) h
  rw [show (1 : Int32) = nI 1 by decide +kernel, nI_shl h (by omega), Nat.one_mul]
theorem ones_or {k : Nat} : 2 ^ k - 1 ||| 2 ^ k = 2 ^ (k + 1) - 1 := by
  apply Nat.eq_of_testBit_eq
  intro i
  rw [Nat.testBit_or, tb_ones, tb_ones, Nat.testBit_two_pow]
  by_cases h1 : i < k
  · rw [decide_eq_true h1, decide_eq_true (p := i < k + 1) (by omega)]; rfl
  · rw [decide_eq_false h1]
    by_cases h2 : k = i
    · rw [decide_eq_true h2, decide_eq_true (by omega)]; rfl
    · rw [decide_eq_false h2, decide_eq_false (by omega)]; rfl
theorem ones_not {k : Nat} (h : k < 32) : an_not (2 ^ (k + 1) - 1) (2 ^ k) = 2 ^ k - 1 := by
  apply Nat.eq_of_testBit_eq
  intro i
  by_cases h32 : i < 32
  · rw [an_not_bit h32, tb_ones, tb_ones, Nat.testBit_two_pow]
    by_cases h1 : i < k
    · rw [decide_eq_true (by omega), decide_eq_true h1, decide_eq_false (by omega)]; rfl
    · rw [decide_eq_false h1]
      by_cases h2 : k = i
      · rw [decide_eq_true h2]; simp
      · rw [decide_eq_false (p := i < k + 1) (by omega)]; rfl
  · unfold an_not
    rw [Nat.testBit_and, tb_ones, tb_ones, decide_eq_false (by omega), decide_eq_false (by omega)]
    rfl
theorem rd_app {rs : List am_R} {r : am_R} {i : Nat} : (rs ++ [r]).getD i (0, 0, 0, 0) = if i < rs.length then rs.getD i (0, 0, 0, 0) else if i = rs.length then r else (0, 0, 0, 0) := by
  rw [List.getD_eq_getElem?_getD]
  by_cases h : i < rs.length
  · rw [if_pos h, List.getElem?_append_left h, List.getD_eq_getElem?_getD]
  · rw [if_neg h, List.getElem?_append_right (by omega)]
    by_cases h2 : i = rs.length
    · rw [if_pos h2, h2, Nat.sub_self]; rfl
    · rw [if_neg h2, List.getElem?_eq_none (by simp; omega)]; rfl
theorem puts_ok {τ : ja_S} {rs : List am_R} {r : am_R} {k : Nat} (hk : k = rs.length) (h32 : k < 32) (h4 : am_r4 (τ.1 56) 0 rs) : ∃ τ', f_Model_puts 45 (nI k) (nI r.1) (nI r.2.1) (nI r.2.2.1) (am_cd r.2.2.2) τ = some τ' ∧ am_r4 (τ'.1 56) 0 (rs ++ [r]) ∧ (∀ c j, c ≠ 56 → τ'.1 c j = τ.1 c j) ∧ τ'.2 = τ.2 := by
  subst hk
  unfold f_Model_puts
  rw [show ja_q 45 25 = 56 from rfl, nI_4k0, ja_ad 1 1 (by decide +kernel), ja_ad 2 2 (by decide +kernel), ja_ad 3 3 (by decide +kernel), st0' (N := 128) rfl (by omega) (by omega), Option.bind_some, st0' (N := 128) rfl (by omega) (by omega), Option.bind_some, st0' (N := 128) rfl (by omega) (by omega), Option.bind_some, st0' (N := 128) rfl (by omega) (by omega), Option.bind_some]
  refine ⟨_, rfl, ?_, ?_, rfl⟩
  · intro i hi
    rw [List.length_append, List.length_singleton] at hi
    rw [rd_app, Nat.zero_add]
    by_cases hl : i < rs.length
    · have := h4 i hl
      rw [Nat.zero_add] at this
      rw [if_pos hl]
      refine ⟨?_, ?_, ?_, ?_⟩
      · rw [si_at, if_neg (by omega), si_at, if_neg (by omega), si_at, if_neg (by omega), si_at, if_neg (by omega)]; exact this.1
      · rw [si_at, if_neg (by omega), si_at, if_neg (by omega), si_at, if_neg (by omega), si_at, if_neg (by omega)]; exact this.2.1
      · rw [si_at, if_neg (by omega), si_at, if_neg (by omega), si_at, if_neg (by omega), si_at, if_neg (by omega)]; exact this.2.2.1
      · rw [si_at, if_neg (by omega), si_at, if_neg (by omega), si_at, if_neg (by omega), si_at, if_neg (by omega)]; exact this.2.2.2
    · have hil : i = rs.length := by omega
      rw [if_neg hl, if_pos hil, hil]
      refine ⟨?_, ?_, ?_, ?_⟩
      · rw [si_at, if_neg (by omega), si_at, if_neg (by omega), si_at, if_neg (by omega), si_at, if_pos ⟨rfl, rfl⟩]
      · rw [si_at, if_neg (by omega), si_at, if_neg (by omega), si_at, if_pos ⟨rfl, rfl⟩]
      · rw [si_at, if_neg (by omega), si_at, if_pos ⟨rfl, rfl⟩]
      · rw [si_at, if_pos ⟨rfl, rfl⟩]
  · intro c j hc
    rw [si_at, if_neg (by omega), si_at, if_neg (by omega), si_at, if_neg (by omega), si_at, if_neg (by omega)]
/-- one rule's room is open behind the rules that are asked -/
def mp_ok (τ : ja_S) (N : Nat) (rs : List am_R) : Prop := am_r4 (τ.1 56) 0 rs ∧ (∀ r ∈ rs, am_rb r) ∧ rs.length < 32 ∧ τ.1 45 0 = nI N ∧ τ.1 45 27 = nI (rs.length + 1) ∧ τ.1 45 28 = nI (2 ^ (rs.length + 1) - 1) ∧ τ.1 45 29 = nI 0 ∧ N ≤ 12
/-- what the locks' search may change -/
def fr_k (σ σ' : ja_S) : Prop := (∀ k j, k ≠ 56 → k ≠ 58 → k ≠ 59 → (k ≠ 45 ∨ (j ≠ 32 ∧ j ≠ 27 ∧ j ≠ 28)) → σ'.1 k j = σ.1 k j) ∧ σ'.2 = σ.2
theorem fr_k_rf {σ : ja_S} : fr_k σ σ := ⟨fun _ _ _ _ _ _ => rfl, rfl⟩
theorem fr_k_tr {a b c : ja_S} (h1 : fr_k a b) (h2 : fr_k b c) : fr_k a c := ⟨fun k j x y z w => (h2.1 k j x y z w).trans (h1.1 k j x y z w), h2.2.trans h1.2⟩
theorem fr_m_k {a b : ja_S} (h : fr_m a b) : fr_k a b := ⟨fun k j _ y z w => h.1 k j y z (by omega), h.2⟩
theorem fr_k_md {a b : ja_S} (h : fr_k a b) : fr_md a b := ⟨fun k j x y => h.1 k j (by omega) (by omega) (by omega) (by omega), h.2⟩
theorem mw_fk {σ σ' : ja_S} {ro : List Nat} {cf : List (Nat × Nat)} (h : mw_ok σ ro cf) (hf : fr_k σ σ') : mw_ok σ' ro cf := by
  have hr : ∀ k, k ≠ 45 → k ≠ 56 → k ≠ 58 → k ≠ 59 → σ'.1 k = σ.1 k := fun k h1 h2 h3 h4 => funext fun j => hf.1 k j h2 h3 h4 (by omega)
  unfold mw_ok at h ⊢
  rw [hr 57 (by omega) (by omega) (by omega) (by omega), hr 49 (by omega) (by omega) (by omega) (by omega), hr 50 (by omega) (by omega) (by omega) (by omega), hf.1 45 1 (by omega) (by omega) (by omega) (by omega), hf.1 45 2 (by omega) (by omega) (by omega) (by omega)]
  exact h
theorem mp_put {τ : ja_S} {N i : Nat} {rs : List am_R} (h : mp_ok τ N rs) (hi : i < 144) : ∃ τ', f_Model_puts 45 (nI rs.length) 0 (nI (i / 12)) (nI (i % 12)) (-1) τ = some τ' ∧ mq_ok τ' N (rs ++ [am_lk i]) (2 ^ (rs.length + 1) - 1) 0 ∧ fr_k τ τ' := by
  obtain ⟨h1, h2, h3, h4, h5, h6, h7, h8⟩ := h
  obtain ⟨τ', e1, e2, e3, e4⟩ := puts_ok (r := am_lk i) rfl h3 h1
  refine ⟨τ', ?_, ⟨⟨e2, by rw [List.length_append, List.length_singleton]; omega, ?_⟩, ?_, ?_, ?_, ?_, h8⟩, fun k j x _ _ _ => e3 k j x, e4⟩
  · rw [show (0 : Int32) = nI 0 by decide +kernel, show (-1 : Int32) = am_cd 0 by decide +kernel]
    exact e1
  · intro r hr
    rcases List.mem_append.mp hr with hr | hr
    · exact h2 r hr
    · rw [List.mem_singleton.mp hr]; exact lk_rb hi
  · rw [e3 45 0 (by omega)]; exact h4
  · rw [e3 45 27 (by omega), List.length_append, List.length_singleton]; exact h5
  · rw [e3 45 28 (by omega)]; exact h6
  · rw [e3 45 29 (by omega)]; exact h7
theorem mq_mp {τ : ja_S} {N : Nat} {rs : List am_R} {r : am_R} (h : mq_ok τ N (rs ++ [r]) (2 ^ (rs.length + 1) - 1) 0) : mp_ok τ N rs := by
  obtain ⟨⟨h1, h2, h3⟩, h4, h5, h6, h7, h8⟩ := h
  rw [List.length_append, List.length_singleton] at h2 h5
  refine ⟨fun i hi => ?_, fun x hx => h3 x (List.mem_append_left _ hx), by omega, h4, h5, h6, h7, h8⟩
  have := h1 i (by rw [List.length_append]; omega)
  rw [rd_app, if_pos hi] at this
  exact this
theorem mp_fr {σ σ' : ja_S} {N : Nat} {rs : List am_R} (h : mp_ok σ N rs) (hf : fr_m σ σ') : mp_ok σ' N rs := by
  obtain ⟨h1, h2, h3, h4, h5, h6, h7, h8⟩ := h
  have : σ'.1 56 = σ.1 56 := funext fun j => hf.1 56 j (by omega) (by omega) (by omega)
  exact ⟨by rw [this]; exact h1, h2, h3, (hf.1 45 0 (by omega) (by omega) (by omega)).trans h4, (hf.1 45 27 (by omega) (by omega) (by omega)).trans h5, (hf.1 45 28 (by omega) (by omega) (by omega)).trans h6, (hf.1 45 29 (by omega) (by omega) (by omega)).trans h7, h8⟩
section LF
variable {N : Nat} {rs : List am_R} {ro : List Nat} {cf : List (Nat × Nat)}
theorem sel_full {L : List am_R} {k : Nat} (h : L.length = k) : am_sel L (2 ^ k - 1) = L := by
  subst h
  exact sel_ones
theorem lf_L52 (hN : N ≤ 12) (hro : ∀ w ∈ ro, w < 2 ^ N) {c x due : Nat} (hc : c < cf.length) (hx : x < N) (hdue : due = am_st (am_q0 (am_mv N 0) rs) ro) (k40 : Nat → Int32 → Int32 → Int32 → Int32 → ja_S → Option (Int32 × ja_S)) : ∀ (d n y : Nat) (τ : ja_S), y + d = 12 → d < n → mp_ok τ N rs → mw_ok τ ro cf → ∃ τ', f_Model_lockFor_L52 k40 n 45 (nI c) (nI due) (nI rs.length) (nI x) (nI y) τ = (match am_first (am_pp (am_mv N 0) rs ro (ro.getD (cf.getD c (0, 0)).1 0) (ro.getD (cf.getD c (0, 0)).2 0) due) d (12 * x + y) with
    | some i => some (nI (am_lw i), τ')
    | none => k40 45 (nI c) (nI due) (nI rs.length) (nI (x + 1)) τ') ∧ fr_k τ τ' ∧ (match am_first (am_pp (am_mv N 0) rs ro (ro.getD (cf.getD c (0, 0)).1 0) (ro.getD (cf.getD c (0, 0)).2 0) due) d (12 * x + y) with
    | some i => mq_ok τ' N (rs ++ [am_lk i]) (2 ^ (rs.length + 1) - 1) 0
    | none => mp_ok τ' N rs) := by
  intro d
  induction d with
  | zero =>
    intro n y τ hy hn hp hw
    obtain ⟨n, rfl⟩ : ∃ j, n = j + 1 := ⟨n - 1, by omega⟩
    refine ⟨τ, ?_, fr_k_rf, hp⟩
    rw [f_Model_lockFor_L52, hp.2.2.2.1, if_pos (nI_le (by omega) (by omega)), nI_1]
    rfl
  | succ d ih =>
    intro n y τ hy hn hp hw
    obtain ⟨n, rfl⟩ : ∃ j, n = j + 1 := ⟨n - 1, by omega⟩
    have hcm := hw.2.2.2.2.2.2.2.2 _ (getD_mem (d := (0, 0)) hc)
    have h8 := hw.2.2.1
    have hc8 := hw.2.2.2.2.2.2.2.1
    have hw2 : ∀ j, N ≤ j → (ro.getD (cf.getD c (0, 0)).2 0).testBit j = false := fun j hj => Nat.testBit_lt_two_pow (Nat.lt_of_lt_of_le (hro _ (getD_mem hcm.2)) (Nat.pow_le_pow_right (by omega) hj))
    rw [f_Model_lockFor_L52, hp.2.2.2.1]
    by_cases hyN : N ≤ y
    · have hnone : am_first (am_pp (am_mv N 0) rs ro (ro.getD (cf.getD c (0, 0)).1 0) (ro.getD (cf.getD c (0, 0)).2 0) due) (d + 1) (12 * x + y) = none := by
        rw [first_none]
        intro k h1 h2
        unfold am_pp
        rw [hw2 (k % 12) (by omega), Bool.and_false, Bool.false_and, Bool.and_false]
      rw [hnone, if_pos (nI_le (by omega) (by omega)), nI_1]
      exact ⟨τ, rfl, fr_k_rf, hp⟩
    · have hi : 12 * x + y < 144 := by omega
      have hd1 : (12 * x + y) / 12 = x := by omega
      have hd2 : (12 * x + y) % 12 = y := by omega
      have e : am_pp (am_mv N 0) rs ro (ro.getD (cf.getD c (0, 0)).1 0) (ro.getD (cf.getD c (0, 0)).2 0) due (12 * x + y) = (decide (x ≠ y) && (((ro.getD (cf.getD c (0, 0)).1 0).testBit x && (ro.getD (cf.getD c (0, 0)).2 0).testBit y) && decide (an_not due (am_st (am_q0 (am_mv N 0) (rs ++ [am_lk (12 * x + y)])) ro) = 0))) := by
        unfold am_pp
        rw [hd1, hd2]
      rw [if_neg (nI_ge (by omega) (by omega)), first_succ, e, nI_1]
      by_cases hxy : x = y
      · rw [if_pos (by rw [hxy]), decide_eq_false (fun z => z hxy), Bool.false_and, if_neg (fun z => by cases z)]
        exact ih n (y + 1) τ (by omega) (by omega) hp hw
      · rw [if_neg (nI_ne hxy (by omega) (by omega)), decide_eq_true hxy, Bool.true_and, show ja_q 45 6 = 49 from rfl, show ja_q 45 7 = 50 from rfl, show ja_q 45 26 = 57 from rfl, ld0 (N := 8) rfl (by omega) (by omega), Option.bind_some, hw.2.2.2.2.2.1 c (by rw [List.length_map]; exact hc), (cf_at hc).1, ld0 (N := 8) rfl (by omega) (by omega), Option.bind_some, hw.2.1 _ hcm.1, has32 (by omega), Option.bind_some]
        cases hb1 : (ro.getD (cf.getD c (0, 0)).1 0).testBit x with
        | false =>
          rw [if_pos (am_bz0.mpr rfl), Bool.false_and, Bool.false_and, if_neg (fun z => by cases z)]
          exact ih n (y + 1) τ (by omega) (by omega) hp hw
        | true =>
          rw [if_neg bz1, ld0 (N := 8) rfl (by omega) (by omega), Option.bind_some, hw.2.2.2.2.2.2.1 c (by rw [List.length_map]; exact hc), (cf_at hc).2, ld0 (N := 8) rfl (by omega) (by omega), Option.bind_some, hw.2.1 _ hcm.2, has32 (by omega), Option.bind_some, Bool.true_and]
          cases hb2 : (ro.getD (cf.getD c (0, 0)).2 0).testBit y with
          | false =>
            rw [if_pos (am_bz0.mpr rfl), Bool.false_and, if_neg (fun z => by cases z)]
            exact ih n (y + 1) τ (by omega) (by omega) hp hw
          | true =>
            obtain ⟨τ1, p1, p2, p3⟩ := mp_put hp hi
            rw [hd1, hd2] at p1
            obtain ⟨τ2, l1, l2, l3⟩ := laysFrom_ok p2 (s := 0) (by omega)
            rw [mq_cq hN, sel_full (by rw [List.length_append]; rfl)] at l2
            have l2' : mf_ok τ2 (am_q0 (am_mv N 0) (rs ++ [am_lk (12 * x + y)])) := l2
            have hq2 := mq_fr p2 l3
            have hf2 : fr_k τ τ2 := fr_k_tr p3 (fr_m_k l3)
            have hw3 := mw_fk hw hf2
            have hokq : bq_ok (am_q0 (am_mv N 0) (rs ++ [am_lk (12 * x + y)])) := bq_all_ok (by omega)
            have s1 := st_lt (q := am_q0 (am_mv N 0) (rs ++ [am_lk (12 * x + y)])) h8
            have s2 := st_lt (q := am_q0 (am_mv N 0) rs) h8
            have hop : (am_op (am_q0 (am_mv N 0) (rs ++ [am_lk (12 * x + y)])) ro cf).testBit c = false := by
              unfold am_op
              rw [bits_bit, Nat.zero_testBit, Bool.false_or, lk_prot (by rw [hd1]; exact hb1) (by rw [hd2]; exact hb2), Bool.and_false]
            rw [if_neg bz1, Bool.true_and, p1, Option.bind_some, am_z, l1, Option.bind_some, msettable_ok l2' hokq hw3, Option.bind_some]
            by_cases hst : am_st (am_q0 (am_mv N 0) (rs ++ [am_lk (12 * x + y)])) ro = due
            · have hd : decide (an_not due (am_st (am_q0 (am_mv N 0) (rs ++ [am_lk (12 * x + y)])) ro) = 0) = true := by
                rw [hdue] at hst ⊢
                exact decide_eq_true ((st_eq h8).mp hst)
              rw [hd, if_pos (by rw [hst]), if_pos rfl, munprot_ok l2' hokq hw3, Option.bind_some, has32 (by omega), Option.bind_some, hop]
              refine ⟨τ2, ?_, hf2, hq2⟩
              show (if am_bz false = nI 0 then _ else _) = _
              rw [if_pos (show am_bz false = nI 0 from am_z), show (100 : Int32) = nI 100 by decide +kernel, pk_mul, nI_add]
              show some (nI (100 * x + y), τ2) = some (nI (am_lw (12 * x + y)), τ2)
              unfold am_lw
              rw [hd1, hd2]
            · have hd : decide (an_not due (am_st (am_q0 (am_mv N 0) (rs ++ [am_lk (12 * x + y)])) ro) = 0) = false := by
                rw [hdue] at hst ⊢
                exact decide_eq_false (fun z => hst ((st_eq h8).mpr z))
              rw [hd, if_neg (nI_ne hst (by omega) (by rw [hdue]; omega)), if_neg (fun z => by cases z)]
              obtain ⟨τ3, k1, k2, k3⟩ := ih n (y + 1) τ2 (by omega) (by omega) (mq_mp hq2) hw3
              exact ⟨τ3, k1, fr_k_tr hf2 k2, k3⟩
theorem lf_L40 (hN : N ≤ 12) (hro : ∀ w ∈ ro, w < 2 ^ N) {c due : Nat} (hc : c < cf.length) (hdue : due = am_st (am_q0 (am_mv N 0) rs) ro) : ∀ (d n x : Nat) (τ : ja_S), x + d = 12 → d < n → mp_ok τ N rs → mw_ok τ ro cf → ∃ τ', f_Model_lockFor_L40 n 45 (nI c) (nI due) (nI rs.length) (nI x) τ = some (am_io ((am_first (am_pp (am_mv N 0) rs ro (ro.getD (cf.getD c (0, 0)).1 0) (ro.getD (cf.getD c (0, 0)).2 0) due) (12 * d) (12 * x)).map am_lw), τ') ∧ fr_k τ τ' ∧ (match am_first (am_pp (am_mv N 0) rs ro (ro.getD (cf.getD c (0, 0)).1 0) (ro.getD (cf.getD c (0, 0)).2 0) due) (12 * d) (12 * x) with
    | some i => mq_ok τ' N (rs ++ [am_lk i]) (2 ^ (rs.length + 1) - 1) 0
    | none => mq_ok τ' N rs (2 ^ rs.length - 1) 0) := by
  have hend : ∀ (n x : Nat) (τ : ja_S), N ≤ x → x ≤ 12 → mp_ok τ N rs → ∃ τ', f_Model_lockFor_L40 (n + 1) 45 (nI c) (nI due) (nI rs.length) (nI x) τ = some (-1, τ') ∧ fr_k τ τ' ∧ mq_ok τ' N rs (2 ^ rs.length - 1) 0 := by
    intro n x τ hNx hx hp
    obtain ⟨h1, h2, h3, h4, h5, h6, h7, h8⟩ := hp
    unfold f_Model_lockFor_L40 ja_pu
    rw [h4, if_pos (nI_le (by omega) (by omega)), Option.bind_some, Option.bind_some, h5, show (1 : Int32) = nI 1 by decide +kernel, pk_sub (by omega), show rs.length + 1 - 1 = rs.length by omega, si_at, if_neg (by omega), h6, show nI 1 = (1 : Int32) by decide +kernel, nI_pow32 h3, nI_an, ones_not h3]
    refine ⟨_, rfl, ⟨fun k j a1 a2 a3 a4 => ?_, rfl⟩, ⟨?_, by omega, h2⟩, ?_, ?_, ?_, ?_, h8⟩
    · rw [si_at, if_neg (by omega), si_at, if_neg (by omega)]
    · rw [si_row (by omega), si_row (by omega)]; exact h1
    · rw [si_at, if_neg (by omega), si_at, if_neg (by omega)]; exact h4
    · rw [si_at, if_neg (by omega), si_at, if_pos ⟨rfl, rfl⟩]
    · rw [si_at, if_pos ⟨rfl, rfl⟩]
    · rw [si_at, if_neg (by omega), si_at, if_neg (by omega)]; exact h7
  intro d
  induction d with
  | zero =>
    intro n x τ hx hn hp hw
    obtain ⟨n, rfl⟩ : ∃ j, n = j + 1 := ⟨n - 1, by omega⟩
    obtain ⟨τ', e1, e2, e3⟩ := hend n x τ (by omega) (by omega) hp
    exact ⟨τ', e1, e2, e3⟩
  | succ d ih =>
    intro n x τ hx hn hp hw
    obtain ⟨n, rfl⟩ : ∃ j, n = j + 1 := ⟨n - 1, by omega⟩
    have hcm := hw.2.2.2.2.2.2.2.2 _ (getD_mem (d := (0, 0)) hc)
    have hw1 : ∀ j, N ≤ j → (ro.getD (cf.getD c (0, 0)).1 0).testBit j = false := fun j hj => Nat.testBit_lt_two_pow (Nat.lt_of_lt_of_le (hro _ (getD_mem hcm.1)) (Nat.pow_le_pow_right (by omega) hj))
    by_cases hxN : N ≤ x
    · have hnone : am_first (am_pp (am_mv N 0) rs ro (ro.getD (cf.getD c (0, 0)).1 0) (ro.getD (cf.getD c (0, 0)).2 0) due) (12 * (d + 1)) (12 * x) = none := by
        rw [first_none]
        intro k h1 h2
        unfold am_pp
        rw [hw1 (k / 12) (by omega), Bool.false_and, Bool.false_and, Bool.and_false]
      obtain ⟨τ', e1, e2, e3⟩ := hend n x τ hxN (by omega) hp
      rw [hnone]
      exact ⟨τ', e1, e2, e3⟩
    · rw [f_Model_lockFor_L40, hp.2.2.2.1, if_neg (nI_ge (by omega) (by omega)), am_z]
      obtain ⟨τ1, g1, g2, g3⟩ := lf_L52 (rs := rs) hN hro hc (x := x) (by omega) hdue (f_Model_lockFor_L40 n) 12 ja_FU 0 τ (by omega) (by unfold ja_FU; omega) hp hw
      rw [Nat.add_zero] at g1 g3
      rw [g1, show 12 * (d + 1) = 12 + 12 * d by omega, first_add]
      cases hf : am_first (am_pp (am_mv N 0) rs ro (ro.getD (cf.getD c (0, 0)).1 0) (ro.getD (cf.getD c (0, 0)).2 0) due) 12 (12 * x) with
      | some i =>
        rw [hf] at g3
        exact ⟨τ1, rfl, g2, g3⟩
      | none =>
        rw [hf] at g3
        obtain ⟨τ2, k1, k2, k3⟩ := ih n (x + 1) τ1 (by omega) (by omega) g3 (mw_fk hw g2)
        rw [show 12 * (x + 1) = 12 * x + 12 by omega] at k1 k3
        exact ⟨τ2, k1, fr_k_tr g2 k2, k3⟩
theorem lockFor_ok {τ : ja_S} (hN : N ≤ 12) (hro : ∀ w ∈ ro, w < 2 ^ N) {c : Nat} (hc : c < cf.length) (h31 : rs.length < 32) (hq : mq_ok τ N rs (2 ^ rs.length - 1) 0) (hw : mw_ok τ ro cf) : ∃ τ', f_Model_lockFor 45 (nI c) τ = some (am_io ((am_prop (am_mv N 0) rs ro (ro.getD (cf.getD c (0, 0)).1 0) (ro.getD (cf.getD c (0, 0)).2 0) (am_st (am_q0 (am_mv N 0) rs) ro)).map am_lw), τ') ∧ fr_k τ τ' ∧ (match am_prop (am_mv N 0) rs ro (ro.getD (cf.getD c (0, 0)).1 0) (ro.getD (cf.getD c (0, 0)).2 0) (am_st (am_q0 (am_mv N 0) rs) ro) with
    | some i => mq_ok τ' N (rs ++ [am_lk i]) (2 ^ (rs.length + 1) - 1) 0
    | none => mq_ok τ' N rs (2 ^ rs.length - 1) 0) := by
  obtain ⟨τ1, l1, l2, l3⟩ := laysFrom_ok hq (s := 0) (by omega)
  rw [mq_cq hN, sel_ones] at l2
  have l2' : mf_ok τ1 (am_q0 (am_mv N 0) rs) := l2
  have hq1 := mq_fr hq l3
  have hw1 := mw_fr hw l3
  have hokq : bq_ok (am_q0 (am_mv N 0) rs) := bq_all_ok (by omega)
  obtain ⟨⟨a1, a2, a3⟩, a4, a5, a6, a7, a8⟩ := id hq1
  have hp2 : mp_ok (ja_si (ja_si τ1 45 27 (nI (rs.length + 1))) 45 28 (nI (2 ^ (rs.length + 1) - 1))) N rs := by
    refine ⟨?_, a3, h31, ?_, ?_, ?_, ?_, a8⟩
    · rw [si_row (by omega), si_row (by omega)]; exact a1
    · rw [si_at, if_neg (by omega), si_at, if_neg (by omega)]; exact a4
    · rw [si_at, if_neg (by omega), si_at, if_pos ⟨rfl, rfl⟩]
    · rw [si_at, if_pos ⟨rfl, rfl⟩]
    · rw [si_at, if_neg (by omega), si_at, if_neg (by omega)]; exact a7
  have hf2 : fr_k τ1 (ja_si (ja_si τ1 45 27 (nI (rs.length + 1))) 45 28 (nI (2 ^ (rs.length + 1) - 1))) := ⟨fun k j b1 b2 b3 b4 => by rw [si_at, if_neg (by omega), si_at, if_neg (by omega)], rfl⟩
  obtain ⟨τ3, k1, k2, k3⟩ := lf_L40 (rs := rs) hN hro hc rfl 12 ja_FU 0 _ (by omega) (by unfold ja_FU; omega) hp2 (mw_fk hw1 hf2)
  refine ⟨τ3, ?_, fr_k_tr (fr_m_k l3) (fr_k_tr hf2 k2), k3⟩
  unfold f_Model_lockFor ja_pu
  rw [am_z, l1, Option.bind_some, msettable_ok l2' hokq hw1, Option.bind_some, Option.bind_some, Option.bind_some, a5, si_at, if_neg (by omega), a6, nI_1, nI_pow32 h31, nI_or, ones_or]
  exact k1
end LF
section C29
variable {A : am_A} {a : Nat → Int32} {σ : ja_S}
theorem case_29 (hA : am_ok A) (hC : am_C A σ) (hM : am_M A σ) (hK : am_K A σ) : am_ask2 A 29 a σ := by
  have h8 : A.2.2.2.1.length ≤ 8 := hA.2.2.2.2.2.2.1
  have hl : A.2.1.length ≤ 24 := hA.2.2.1
  have c0 : σ.1 3 8 = nI A.2.2.2.1.length := hC.2.2.2.2.1.2.2.2.2.1
  have c2 : ∀ τ : ja_S, am_M A τ → (ja_si τ 45 9 0).1 45 2 = nI A.2.2.2.1.length := fun τ h => by rw [si_at, if_neg (by omega)]; exact h.2.2.1
  cases hin : am_in (a 1) A.2.2.2.1.length with
  | false =>
    refine am_asks1 hC hM hK ?_
    rw [jc_29]
    unfold f_Frame_proposedLock f_Model_proposedLock ja_pu
    rw [show ja_q 0 3 = 3 from rfl, hasConflict_ok c0 (by omega), hin, Option.bind_some, if_pos (am_bz0.mpr rfl), Option.bind_some, Option.bind_some, c2 σ hM, isIn_n (by omega), hin, Option.bind_some, if_pos (am_bz0.mpr rfl), Option.bind_some, if_pos rfl]
  | true =>
    obtain ⟨c, hc, ec⟩ := am_in_t hin (by omega)
    obtain ⟨σ1, e1, e2, e3, e4, e5⟩ := searched_ok hA hC hK
    have hw := am_C_shw hA e2
    obtain ⟨σ2, k1, k2, k3⟩ := propose_ok hA e2 e3.2.1 (Or.inl rfl) e4.2.2 hc (st_lt (q := am_rl A) (hA.2.2.2.2.1))
    have hf := fr_cl_tr e5 (fr_t_cl k3)
    have hM1 := am_M_cl hM hf
    obtain ⟨τ1, g1, g2, g3, g4⟩ := mstart hA (am_M_th (v := 0) hM1)
    obtain ⟨τ2, l1, l2, l3⟩ := lockFor_ok hA.2.1 (fun w hw => (hA.2.2.2.2.2.1 w hw).2) hc (by omega) g2 (am_M_mw hA (am_M_md (am_M_th (v := 0) hM1) g4) g3)
    refine am_asks (σ2 := τ2) ?_ hC hM hf (am_K_t e3 k3 k2) (fr_md_tr md_th (fr_md_tr g4 (fr_k_md l2)))
    rw [jc_29]
    unfold f_Frame_proposedLock f_Model_proposedLock ja_pu
    rw [show ja_q 0 3 = 3 from rfl, show ja_q 0 7 = 17 from rfl, show ja_q 17 0 = 18 from rfl, show ja_q 0 10 = 29 from rfl, show ja_q 0 9 = 23 from rfl, hasConflict_ok c0 (by omega), hin, Option.bind_some, if_neg bz1, e1, Option.bind_some, settable_ok (Or.inl rfl) (Or.inl rfl) e4.1 rl_ok hw, Option.bind_some, ec, k1, Option.bind_some, Option.bind_some, Option.bind_some, c2 σ2 hM1, isIn_n (by omega), am_in_nI hc (by omega), Option.bind_some, if_neg bz1, g1, Option.bind_some, l1, Option.bind_some, Option.bind_some]
    exact if_pos rfl
end C29
