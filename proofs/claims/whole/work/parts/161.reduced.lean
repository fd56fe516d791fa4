/-! the reduced sheet -/
theorem md_si {σ : ja_S} {j : Nat} {v : Int32} (h : j ≠ 0 ∧ j ≠ 1 ∧ j ≠ 2 ∧ j ≠ 8 ∧ j ≠ 11 ∧ j ≠ 14 ∧ j ≠ 15 ∧ j ≠ 36) : fr_md σ (ja_si σ 45 j v) := ⟨fun k i h1 h2 => by rw [si_at, if_neg (by omega)], rfl⟩
section RD
variable {A : am_A} {a : Nat → Int32} {σ : ja_S}
def am_imp (A : am_A) (us m : Nat) : Option Nat := am_first (fun i => (am_fd (am_mv A.1 0) A.2.1 (am_sel A.2.1 (an_not us (2 ^ m))) (bq_at (am_rl A) i)).isSome) (am_rl A).length 0
def am_red (A : am_A) : Nat → Nat → Nat
  | 0, us => us
  | m + 1, us => if am_imp A us m = none then am_red A m (an_not us (2 ^ m)) else am_red A m us
/-- the rules that count allow what all allow, wherever it can be reached -/
def am_ag (A : am_A) (us : Nat) : Prop := ∀ e ∈ am_rl A, ∀ l, l < A.1 → am_al (am_sel A.2.1 us) e.1 l = am_al A.2.1 e.1 l
theorem bq_at_mem {q : List bq_E} {i : Nat} (h : i < q.length) : ∃ e ∈ q, bq_at q i = e.1 := ⟨q[i], List.getElem_mem h, bq_at_lt h⟩
theorem imp_tl (hA : am_ok A) {us m : Nat} (hm : m < A.2.1.length) (hu : us.testBit m = true) (hag : am_ag A us) : am_imp A us m = am_first (fun i => (am_tl A.1 (am_rd A.2.1 m) (am_sel A.2.1 (an_not us (2 ^ m))) (bq_at (am_rl A) i)).isSome) (am_rl A).length 0 := by
  have hl : A.2.1.length ≤ 24 := hA.2.2.1
  unfold am_imp
  apply first_congr
  intro k _ hk
  obtain ⟨e, he, heq⟩ := bq_at_mem (q := am_rl A) (i := k) (by omega)
  rw [heq, fd_tl hA.2.1 hm (by omega) hu (hag e he)]
theorem ag_step (hA : am_ok A) {us m : Nat} (hm : m < A.2.1.length) (hu : us.testBit m = true) (hag : am_ag A us) (hi : am_imp A us m = none) : am_ag A (an_not us (2 ^ m)) := by
  have hl : A.2.1.length ≤ 24 := hA.2.2.1
  have hN : A.1 ≤ 12 := hA.2.1
  intro e he l hlN
  obtain ⟨i, hi2⟩ := List.getElem?_of_mem he
  have hil := (List.getElem?_eq_some_iff.mp hi2).1
  have h1 := (first_none _ _).mp hi i (by omega) (by omega)
  have hb : bq_at (am_rl A) i = e.1 := by
    rw [bq_at_lt hil]
    have := (List.getElem?_eq_some_iff.mp hi2).2
    rw [this]
  rw [hb, Option.isSome_eq_false_iff, Option.isNone_iff_eq_none] at h1
  have h2 := (first_none _ _).mp h1 l (by omega) (by omega)
  rw [mv_bit hN, decide_eq_true hlN, Nat.zero_testBit] at h2
  have h3 := hag e he l hlN
  rw [sel_split hm (by omega) hu] at h3
  rw [← h3] at h2 ⊢
  revert h2
  cases am_blk (am_rd A.2.1 m) e.1 l <;> cases am_al (am_sel A.2.1 (an_not us (2 ^ m))) e.1 l <;> intro h2 <;> first | rfl | cases h2
theorem ag_rl (hA : am_ok A) {us : Nat} (hag : am_ag A us) : bq_all (cq_al (am_mv A.1 0) (am_sel A.2.1 us)) 0 = am_rl A := by
  refine (bq_go_congr _ _ _ ?_).symm
  intro e he l hl
  unfold cq_al
  rw [mv_bit hA.2.1]
  by_cases h : l < A.1
  · rw [hag e he l h]
  · rw [decide_eq_false h]
    rfl
theorem cd_dec {m : Nat} : am_cd (m + 1) + (-1) = am_cd m := by
  rw [cd_pos (by omega), show m + 1 - 1 = m by omega]
  unfold am_cd
  rw [Int32.sub_eq_add_neg]
theorem red_c (hA : am_ok A) : ∀ (m n us : Nat) (σ : ja_S), m < n → m ≤ A.2.1.length → am_C A σ → am_K A σ → hm_ok A σ → ∃ σ', f_Frame_reducedSheet_L23 n 0 17 (nI us) (am_cd m) σ = some (nI (am_red A m us), σ') ∧ am_C A σ' ∧ am_K A σ' ∧ fr_cl σ σ' := by
  have hl : A.2.1.length ≤ 24 := hA.2.2.1
  have hlen := bq_ok_len (rl_ok (A := A))
  intro m
  induction m with
  | zero =>
    intro n us σ hn hm hC hK hh
    obtain ⟨n, rfl⟩ : ∃ j, n = j + 1 := ⟨n - 1, by omega⟩
    rw [f_Frame_reducedSheet_L23, if_pos ((cd_neg (by omega)).mpr rfl)]
    exact ⟨σ, rfl, hC, hK, fr_cl_rf⟩
  | succ m ih =>
    intro n us σ hn hm hC hK hh
    obtain ⟨n, rfl⟩ : ∃ j, n = j + 1 := ⟨n - 1, by omega⟩
    have hr1 := am_C_shr hA hC
    obtain ⟨σ2, g1, g2, g3⟩ := enforceAll_ok (X := 24) (k := 3) (m := an_not us (2 ^ m)) (Or.inr (Or.inl rfl)) (Or.inl rfl) hr1
    have hf : fr_cl σ σ2 := fun k j _ => by rw [g3.1]
    have hh2 : hm_ok A σ2 := hm_tr hh (fun k j _ => by rw [g3.1]) ⟨g3.2 19 (by omega) (by omega), g3.2 20 (by omega) (by omega)⟩
    have hC2 := am_C_cl hC hf
    have hK2 := am_K_lk hK g3
    rw [f_Frame_reducedSheet_L23, if_neg (fun z => by have := (cd_neg (by omega)).mp z; omega), cd_dec, cd_pos (by omega), show m + 1 - 1 = m by omega, nI_pow (by omega), nI_an, show ja_q 0 3 = 3 from rfl, show ja_q 0 9 = 23 from rfl, show ja_q 23 0 = 24 from rfl, g1, Option.bind_some, fpf_ok (K := 17) (X := 24) (Or.inl rfl) (Or.inr (Or.inl rfl)) (Or.inl rfl) hh2.1 rl_ok hh2.2.2 g2 (mv_lt hA.2.1) hh2.2.1, Option.bind_some]
    unfold am_red
    have hio : am_io (am_imp A us m) = -1 ↔ am_imp A us m = none := first_io_lt (M := 4096) (by omega) (by omega)
    by_cases hi : am_imp A us m = none
    · rw [if_pos (show am_io (am_first (fun i => (am_fd (am_mv A.1 0) A.2.1 (am_sel A.2.1 (an_not us (2 ^ m))) (bq_at (am_rl A) i)).isSome) (am_rl A).length 0) = -1 from hio.mpr hi), if_pos hi]
      obtain ⟨σ3, k1, k2, k3, k4⟩ := ih n (an_not us (2 ^ m)) σ2 (by omega) (by omega) hC2 hK2 hh2
      exact ⟨σ3, k1, k2, k3, fr_cl_tr hf k4⟩
    · rw [if_neg (show ¬ am_io (am_first (fun i => (am_fd (am_mv A.1 0) A.2.1 (am_sel A.2.1 (an_not us (2 ^ m))) (bq_at (am_rl A) i)).isSome) (am_rl A).length 0) = -1 from fun z => hi (hio.mp z)), if_neg hi]
      obtain ⟨σ3, k1, k2, k3, k4⟩ := ih n us σ2 (by omega) (by omega) hC2 hK2 hh2
      exact ⟨σ3, k1, k2, k3, fr_cl_tr hf k4⟩
theorem red_m (hA : am_ok A) : ∀ (m n us : Nat) (τ : ja_S), m < n → m ≤ A.2.1.length → mq_ok τ A.1 A.2.1 us 0 → am_ag A us → (∀ k, k < m → us.testBit k = true) → ∃ τ', f_Model_reducedSheet_L16 n 45 (am_cd m) τ = some (nI (am_red A m us), τ') ∧ fr_md τ τ' := by
  have hl : A.2.1.length ≤ 24 := hA.2.2.1
  have hlen := bq_ok_len (rl_ok (A := A))
  intro m
  induction m with
  | zero =>
    intro n us τ hn hm hq hag hb
    obtain ⟨n, rfl⟩ : ∃ j, n = j + 1 := ⟨n - 1, by omega⟩
    rw [f_Model_reducedSheet_L16, if_pos ((cd_neg (by omega)).mpr rfl), hq.2.2.2.1]
    exact ⟨τ, rfl, fr_md_rf⟩
  | succ m ih =>
    intro n us τ hn hm hq hag hb
    obtain ⟨n, rfl⟩ : ∃ j, n = j + 1 := ⟨n - 1, by omega⟩
    obtain ⟨τ1, e1, e2, e3⟩ := laysFrom_ok hq (s := 0) (by omega)
    rw [mq_cq hq.2.2.2.2.2, ag_rl hA hag] at e2
    have hq1 := mq_fr hq e3
    have h2 := imp_L7 hq1 e2 rl_ok (r := m) (by omega) ja_FU 0 (by omega) (by unfold ja_FU; omega)
    rw [← am_z, Nat.sub_zero, ← imp_tl hA (by omega) (hb m (by omega)) hag] at h2
    rw [f_Model_reducedSheet_L16, if_neg (fun z => by have := (cd_neg (by omega)).mp z; omega), cd_dec, cd_pos (by omega), show m + 1 - 1 = m by omega]
    unfold f_Model_isImpliedBy am_red ja_pu
    rw [am_z, e1, Option.bind_some, ← am_z, h2, Option.bind_some]
    by_cases hi : am_imp A us m = none
    · rw [if_pos hi, hi, Option.isNone_none, if_neg bz1, Option.bind_some, hq1.2.2.2.1, nI_pow (by omega), nI_an]
      have hq2 : mq_ok (ja_si τ1 45 28 (nI (an_not us (2 ^ m)))) A.1 A.2.1 (an_not us (2 ^ m)) 0 := by
        obtain ⟨b1, b2, b3, b4, b5, b6⟩ := hq1
        refine ⟨am_q_fr b1 (fun j => by rw [si_row (by omega)]), ?_, ?_, ?_, ?_, b6⟩
        · rw [si_at, if_neg (by omega)]; exact b2
        · rw [si_at, if_neg (by omega)]; exact b3
        · rw [si_at, if_pos ⟨rfl, rfl⟩]
        · rw [si_at, if_neg (by omega)]; exact b5
      obtain ⟨τ2, k1, k2⟩ := ih n (an_not us (2 ^ m)) _ (by omega) (by omega) hq2 (ag_step hA (by omega) (hb m (by omega)) hag hi) (fun k hk => by
        rw [an_not_bit (by omega), hb k (by omega), Nat.testBit_two_pow, decide_eq_false (by omega)]
        rfl)
      exact ⟨τ2, k1, fr_md_tr (fr_m_md e3) (fr_md_tr (md_si (by omega)) k2)⟩
    · have hsn : (am_imp A us m).isNone = false := by
        cases hx : am_imp A us m with
        | none => exact absurd hx hi
        | some _ => rfl
      rw [if_neg hi, hsn, if_pos (am_bz0.mpr rfl)]
      obtain ⟨τ2, k1, k2⟩ := ih n us τ1 (by omega) (by omega) hq1 hag (fun k hk => hb k (by omega))
      exact ⟨τ2, k1, fr_md_tr (fr_m_md e3) k2⟩
theorem case_35 (hA : am_ok A) (hC : am_C A σ) (hM : am_M A σ) (hK : am_K A σ) : am_ask2 A 35 a σ := by
  have hl : A.2.1.length ≤ 24 := hA.2.2.1
  obtain ⟨σ1, e1, e2, e3, e4, e5⟩ := searched_ok hA hC hK
  have hr1 := am_C_shr hA e2
  obtain ⟨σ2, k1, k2, k3, k4⟩ := red_c hA A.2.1.length ja_FU (2 ^ A.2.1.length - 1) σ1 (by unfold ja_FU; omega) (by omega) e2 e3 e4
  have hf := fr_cl_tr e5 k4
  obtain ⟨τ1, g1, g2, g3, g4⟩ := mstart hA (am_M_th (v := 0) (am_M_cl hM hf))
  obtain ⟨τ2, l1, l2⟩ := red_m hA A.2.1.length ja_FU (2 ^ A.2.1.length - 1) τ1 (by unfold ja_FU; omega) (by omega) g2 (fun e he l hl => by rw [sel_ones]) (fun k hk => by rw [tb_ones, decide_eq_true hk])
  refine am_asks (σ2 := τ2) ?_ hC hM hf k3 (fr_md_tr md_th (fr_md_tr g4 l2))
  rw [jc_35]
  unfold f_Frame_reducedSheet f_Model_reducedSheet ja_pu
  rw [e1, Option.bind_some, show ja_q 0 3 = 3 from rfl, show ja_q 0 7 = 17 from rfl, allRules_ok hr1.1 hl, Option.bind_some, hr1.1, show nI A.2.1.length - 1 = am_cd A.2.1.length from rfl, k1, Option.bind_some, Option.bind_some, g1, Option.bind_some, g2.2.2.1, show nI A.2.1.length - 1 = am_cd A.2.1.length from rfl, l1, Option.bind_some]
  exact if_pos rfl
end RD
