/-! cases 22, 24, 27, 28 -/
theorem am_K_tr {A : am_A} {σ σ' : ja_S} (h : am_K A σ) (h1 : ∀ k j, (k = 17 ∨ k = 21 ∨ k = 22 ∨ k = 29 ∨ k = 33) → σ'.1 k j = σ.1 k j) (h2 : ∀ j, (j = 8 ∨ j = 11 ∨ j = 1) → σ'.1 0 j = σ.1 0 j) (h3 : σ'.2 19 = σ.2 19 ∧ σ'.2 20 = σ.2 20) (h4 : ∃ q, bs_ok σ' 23 q ∧ bq_ok q) : am_K A σ' := by
  have hr : ∀ k, (k = 17 ∨ k = 21 ∨ k = 22 ∨ k = 29 ∨ k = 33) → σ'.1 k = σ.1 k := fun k h5 => funext fun j => h1 k j h5
  obtain ⟨a1, a2, a3, a4, a5⟩ := h
  refine ⟨?_, h4, ?_, ?_, ?_⟩
  · unfold bs_ok at a1 ⊢
    rw [hr 17 (by omega), hr (17 + 4) (by omega), hr (17 + 5) (by omega)]
    exact a1
  · unfold hm_ok bs_ok lk_ok at a3 ⊢
    rw [hr 17 (by omega), hr (17 + 4) (by omega), hr (17 + 5) (by omega), h2 8 (by omega), show σ'.2 (18 + 1) = σ.2 (18 + 1) from h3.1, show σ'.2 (18 + 2) = σ.2 (18 + 2) from h3.2]
    exact a3
  · unfold pl_ok at a4 ⊢
    rw [hr 29 (by omega), hr 33 (by omega)]
    exact a4
  · rw [h2 11 (by omega), h2 1 (by omega)]
    exact a5
theorem hm_tr {A : am_A} {σ σ' : ja_S} (h : hm_ok A σ) (h1 : ∀ k j, (k = 17 ∨ k = 21 ∨ k = 22) → σ'.1 k j = σ.1 k j) (h3 : σ'.2 19 = σ.2 19 ∧ σ'.2 20 = σ.2 20) : hm_ok A σ' := by
  have hr : ∀ k, (k = 17 ∨ k = 21 ∨ k = 22) → σ'.1 k = σ.1 k := fun k h5 => funext fun j => h1 k j h5
  unfold hm_ok bs_ok lk_ok at h ⊢
  rw [hr 17 (by omega), hr (17 + 4) (by omega), hr (17 + 5) (by omega), show σ'.2 (18 + 1) = σ.2 (18 + 1) from h3.1, show σ'.2 (18 + 2) = σ.2 (18 + 2) from h3.2]
  exact h
/-- a search of the trial over the locking that it has -/
def tq_ok (σ : ja_S) : Prop := ∃ q, bs_ok σ 23 q ∧ bq_ok q
theorem tq_fr {σ σ' : ja_S} (h : tq_ok σ) (hf : ∀ k, (k = 23 ∨ k = 27 ∨ k = 28) → σ'.1 k = σ.1 k) : tq_ok σ' := by
  obtain ⟨q, hb, hq⟩ := h
  exact ⟨q, bs_ok_fr hb (fun k hk => hf k (by omega)), hq⟩
theorem trial_bt {σ : ja_S} {L : List am_R} {mv s : Nat} (hT : tq_ok σ) (hL : lk_ok σ 24 L) (hmv : mv < 4096) (hs : s < 4096) : ∃ σ', f_Search_explore 23 (nI s) (nI mv) σ = some σ' ∧ bs_ok σ' 23 (bq_all (cq_al mv L) s) ∧ tq_ok σ' ∧ σ'.2 = σ.2 ∧ ∀ k j, k ≠ 23 → k ≠ 27 → k ≠ 28 → σ'.1 k j = σ.1 k j := by
  obtain ⟨q, hb, hq⟩ := hT
  obtain ⟨σ', g1, g2, g3, g4⟩ := explore_ok (K := 23) (al := am_al L) (mv := mv) (s := s) (Or.inr rfl) hmv hs (fun τ ht s l hs hl => allows_ok (X := 24) (Or.inr (Or.inl rfl)) (lk_fr hL (by rw [ht]) (by rw [ht])) hs hl) hb hq
  exact ⟨σ', g1, g2, ⟨_, g2, bq_all_ok hs⟩, g4.2, fun k j h1 h2 h3 => g4.1 k j h1 h2 h3⟩
theorem trial_ok {A : am_A} {σ : ja_S} {L : List am_R} {mv s : Nat} (hK : am_K A σ) (hL : lk_ok σ 24 L) (hmv : mv < 4096) (hs : s < 4096) : ∃ σ', f_Search_explore 23 (nI s) (nI mv) σ = some σ' ∧ bs_ok σ' 23 (bq_all (cq_al mv L) s) ∧ am_K A σ' ∧ σ'.2 = σ.2 ∧ ∀ k j, k ≠ 23 → k ≠ 27 → k ≠ 28 → σ'.1 k j = σ.1 k j := by
  obtain ⟨q, hb, hq⟩ := hK.2.1
  obtain ⟨σ', g1, g2, g3, g4⟩ := explore_ok (K := 23) (al := am_al L) (mv := mv) (s := s) (Or.inr rfl) hmv hs (fun τ ht s l hs hl => allows_ok (X := 24) (Or.inr (Or.inl rfl)) (lk_fr hL (by rw [ht]) (by rw [ht])) hs hl) hb hq
  refine ⟨σ', g1, g2, am_K_tr hK (fun k j h => g4.1 k j (by omega) (by omega) (by omega)) (fun j h => g4.1 0 j (by omega) (by omega) (by omega)) (by rw [g4.2]; exact ⟨rfl, rfl⟩) ⟨_, g2, bq_all_ok hs⟩, g4.2, fun k j h1 h2 h3 => g4.1 k j h1 h2 h3⟩
/-- another locking in the trial -/
theorem am_K_lk {A : am_A} {σ σ' : ja_S} (h : am_K A σ) (hf : fr_l 24 σ σ') : am_K A σ' := by
  refine am_K_tr h (fun k j _ => by rw [hf.1]) (fun j _ => by rw [hf.1]) ⟨hf.2 19 (by omega) (by omega), hf.2 20 (by omega) (by omega)⟩ ?_
  obtain ⟨q, hb, hq⟩ := h.2.1
  exact ⟨q, bs_ok_fr hb (fun k _ => by rw [hf.1]), hq⟩
section C4
variable {A : am_A} {a : Nat → Int32} {σ : ja_S}
def am_qf (A : am_A) (s : Nat) : List bq_E := bq_all (cq_al (am_mv A.1 0) A.2.1) s
theorem between_ok (hA : am_ok A) (hC : am_C A σ) (hK : am_K A σ) {s t : Nat} (hs : s < 4096) (ht : t < 4096) : ∃ σ', f_Frame_searchBetween 0 (nI s) (nI t) σ = some (am_bz ((bq_see (am_rl A) s).isSome && ((bq_see (am_rl A) t).isSome && (bq_see (am_qf A s) t).isSome)), σ') ∧ am_C A σ' ∧ am_K A σ' ∧ fr_cl σ σ' ∧ ((bq_see (am_rl A) s).isSome = true → (bq_see (am_rl A) t).isSome = true → bs_ok σ' 23 (am_qf A s)) := by
  obtain ⟨σ1, e1, e2, e3, e4, e5⟩ := searched_ok hA hC hK
  unfold f_Frame_searchBetween
  rw [e1, Option.bind_some, show ja_q 0 7 = 17 from rfl, reached_ok (Or.inl rfl) e4.1 rl_ok hs, Option.bind_some]
  cases h1 : (bq_see (am_rl A) s).isSome with
  | false =>
    rw [if_pos (am_bz0.mpr rfl)]
    exact ⟨σ1, rfl, e2, e3, e5, fun h => by cases h⟩
  | true =>
    rw [if_neg bz1, reached_ok (Or.inl rfl) e4.1 rl_ok ht, Option.bind_some]
    cases h2 : (bq_see (am_rl A) t).isSome with
    | false =>
      rw [if_pos (am_bz0.mpr rfl)]
      exact ⟨σ1, rfl, e2, e3, e5, fun _ h => by cases h⟩
    | true =>
      obtain ⟨σ2, g1, g2, g3⟩ := lkcopy_ok (X := 24) (Y := 18) (Or.inr (Or.inl rfl)) (Or.inl rfl) (by omega) e4.2.2
      have c0 : σ2.1 3 0 = nI A.1 := by rw [g3.1]; exact e2.2.2.2.2.1.1
      have c1 : σ2.1 3 1 = nI 0 := by rw [g3.1]; exact e2.2.2.2.2.1.2.1
      obtain ⟨σ3, k1, k2, k3, k4, k5⟩ := trial_ok (am_K_lk e3 g3) g2 (mv_lt hA.2.1) hs
      have hf : fr_cl σ1 σ3 := fun k j h => by rw [k5 k j (by omega) (by omega) (by omega), g3.1]
      refine ⟨σ3, ?_, am_C_cl e2 hf, k3, fr_cl_tr e5 hf, fun _ _ => k2⟩
      rw [if_neg bz1, show ja_q 0 9 = 23 from rfl, show ja_q 23 0 = 24 from rfl, show ja_q 17 0 = 18 from rfl, show ja_q 0 3 = 3 from rfl, g1, Option.bind_some, movable_ok c0 c1 hA.2.1, Option.bind_some, k1, Option.bind_some, reached_ok (Or.inr rfl) k2 (bq_all_ok hs) ht, Option.bind_some, rb_bz]
      rfl
theorem mreach_ok {τ : ja_S} (hA : am_ok A) (hM : am_M A τ) {s t : Nat} (hs : s < 4096) (ht : t < 4096) : ∃ τ', f_Model_areReachable 45 (nI s) (nI t) τ = some (am_bz ((bq_see (am_rl A) s).isSome && (bq_see (am_rl A) t).isSome), τ') ∧ fr_md τ τ' ∧ mq_ok τ' A.1 A.2.1 (2 ^ A.2.1.length - 1) 0 ∧ (((bq_see (am_rl A) s).isSome && (bq_see (am_rl A) t).isSome) = true → mf_ok τ' (am_qf A s)) := by
  obtain ⟨τ1, g1, g2, g3, g4⟩ := mstart hA hM
  obtain ⟨τ2, k1, k2, k3⟩ := mlays g2
  have hq2 := mq_fr g2 k3
  have hd : ∀ s, (bs_d (bq_see (am_rl A) s) = -1) ↔ (bq_see (am_rl A) s).isSome = false := fun s => by
    cases h : bq_see (am_rl A) s with
    | none => exact ⟨fun _ => rfl, fun _ => rfl⟩
    | some x =>
      have := bq_bd rl_ok h
      exact ⟨fun z => absurd z (nI_m1 (a := x.1) (by omega)), fun z => by cases z⟩
  unfold f_Model_areReachable
  rw [g1, Option.bind_some, k1, Option.bind_some, show ja_q 45 30 = 58 from rfl, ld0 (N := 4096) rfl hs (by omega), Option.bind_some, k2.2.2 s hs]
  cases h1 : (bq_see (am_rl A) s).isSome with
  | false =>
    rw [if_pos ((hd s).mpr h1)]
    exact ⟨τ2, rfl, fr_md_tr g4 (fr_m_md k3), hq2, fun h => by cases h⟩
  | true =>
    rw [if_neg (fun z => by rw [hd, h1] at z; cases z), ld0 (N := 4096) rfl ht (by omega), Option.bind_some, k2.2.2 t ht]
    cases h2 : (bq_see (am_rl A) t).isSome with
    | false =>
      rw [if_pos ((hd t).mpr h2)]
      exact ⟨τ2, rfl, fr_md_tr g4 (fr_m_md k3), hq2, fun h => by cases h⟩
    | true =>
      obtain ⟨τ3, l1, l2, l3⟩ := laysFrom_ok hq2 hs
      rw [mq_cq hq2.2.2.2.2.2, sel_ones] at l2
      rw [if_neg (fun z => by rw [hd, h2] at z; cases z), l1, Option.bind_some]
      exact ⟨τ3, rfl, fr_md_tr g4 (fr_m_md (fr_m_tr k3 l3)), mq_fr hq2 l3, fun _ => l2⟩
theorem am_asks1 {n : Nat} (hC : am_C A σ) (hM : am_M A σ) (hK : am_K A σ) (h : ja_case n a σ = some (ja_si σ 45 9 0)) : am_ask2 A n a σ := am_asks h hC hM fr_cl_rf hK md_th
theorem case_22 (hA : am_ok A) (hC : am_C A σ) (hM : am_M A σ) (hK : am_K A σ) : am_ask2 A 22 a σ := by
  have hp := p12 hA.2.1
  have e1 : σ.1 3 0 = nI A.1 := hC.2.2.2.2.1.1
  have e2 : ∀ τ : ja_S, am_M A τ → (ja_si τ 45 9 0).1 45 0 = nI A.1 := fun τ h => by rw [si_at, if_neg (by omega)]; exact h.1
  cases hin : am_in (a 1) (2 ^ A.1) with
  | false =>
    refine am_asks1 hC hM hK ?_
    rw [jc_22]
    unfold f_Frame_distance f_Model_distance ja_pu
    rw [show ja_q 0 3 = 3 from rfl, hasState_ok e1 hA.2.1, hin, Option.bind_some, if_pos (am_bz0.mpr rfl), Option.bind_some, Option.bind_some, isState_ok (e2 σ hM) hA.2.1, hin, Option.bind_some, if_pos (am_bz0.mpr rfl), Option.bind_some, if_pos rfl]
  | true =>
    cases hin2 : am_in (a 2) (2 ^ A.1) with
    | false =>
      refine am_asks1 hC hM hK ?_
      rw [jc_22]
      unfold f_Frame_distance f_Model_distance ja_pu
      rw [show ja_q 0 3 = 3 from rfl, hasState_ok e1 hA.2.1, hin, Option.bind_some, if_neg bz1, hasState_ok e1 hA.2.1, hin2, Option.bind_some, if_pos (am_bz0.mpr rfl), Option.bind_some, Option.bind_some, isState_ok (e2 σ hM) hA.2.1, hin, Option.bind_some, if_neg bz1, isState_ok (e2 σ hM) hA.2.1, hin2, Option.bind_some, if_pos (am_bz0.mpr rfl), Option.bind_some, if_pos rfl]
    | true =>
      obtain ⟨s, hs, es⟩ := am_in_t hin (by omega)
      obtain ⟨t, ht, et⟩ := am_in_t hin2 (by omega)
      obtain ⟨σ1, c1, c2, c3, c4, c5⟩ := between_ok hA hC hK (s := s) (t := t) (by omega) (by omega)
      have hM1 := am_M_cl hM c4
      obtain ⟨τ1, m1, m2, m3, m4⟩ := mreach_ok hA (am_M_th (v := 0) hM1) (s := s) (t := t) (by omega) (by omega)
      refine am_asks (σ2 := τ1) ?_ hC hM c4 c3 (fr_md_tr md_th m2)
      rw [jc_22]
      unfold f_Frame_distance f_Model_distance ja_pu
      rw [show ja_q 0 3 = 3 from rfl, hasState_ok e1 hA.2.1, hin, Option.bind_some, if_neg bz1, hasState_ok e1 hA.2.1, hin2, Option.bind_some, if_neg bz1, es, et, c1, Option.bind_some]
      have st1 : ∀ v : Int32, (((some (v, σ1) : Option (Int32 × ja_S))).bind fun v => ((some (ja_si v.2 45 9 0)).bind fun s1 => (f_Model_isState 45 (nI s) s1).bind fun v2 => if v2.1 = 0 then some ((-3 : Int32), v2.2) else (f_Model_isState 45 (nI t) v2.2).bind fun v3 => if v3.1 = 0 then some ((-3 : Int32), v3.2) else (f_Model_areReachable 45 (nI s) (nI t) v3.2).bind fun v4 => if v4.1 = 0 then some ((-1 : Int32), v4.2) else (ja_ld ja_L0 v4.2 (ja_q 45 30) (nI t)).bind fun v5 => some (v5, v4.2)).bind fun u => if v.1 = u.1 then some u.2 else none) = if v = (if ((bq_see (am_rl A) s).isSome && (bq_see (am_rl A) t).isSome) = true then bs_d (bq_see (am_qf A s) t) else -1) then some τ1 else none := by
        intro v
        rw [Option.bind_some, Option.bind_some, isState_ok (e2 σ1 hM1) hA.2.1, am_in_nI hs (by omega), Option.bind_some, if_neg bz1, isState_ok (e2 σ1 hM1) hA.2.1, am_in_nI ht (by omega), Option.bind_some, if_neg bz1, m1, Option.bind_some]
        cases hb : (bq_see (am_rl A) s).isSome && (bq_see (am_rl A) t).isSome with
        | false => rw [if_pos (am_bz0.mpr rfl), Option.bind_some]; rfl
        | true => rw [if_neg bz1, show ja_q 45 30 = 58 from rfl, ld0 (N := 4096) rfl (by omega) (by omega), Option.bind_some, (m4 hb).2.2 t (by omega), Option.bind_some]; rfl
      cases h1 : (bq_see (am_rl A) s).isSome with
      | false => rw [Bool.false_and, if_pos (am_bz0.mpr rfl), st1, h1, Bool.false_and]; exact if_pos rfl
      | true =>
        cases h2 : (bq_see (am_rl A) t).isSome with
        | false => rw [Bool.false_and, Bool.and_false, if_pos (am_bz0.mpr rfl), st1, h2, Bool.and_false]; exact if_pos rfl
        | true =>
          have h3 := c5 h1 h2
          rw [Bool.true_and, Bool.true_and]
          cases h4 : bq_see (am_qf A s) t with
          | none => rw [Option.isSome_none, if_pos (am_bz0.mpr rfl), st1, h1, h2, h4]; rfl
          | some x => rw [Option.isSome_some, if_neg bz1, show ja_q 0 9 = 23 from rfl, movesTo_ok (Or.inr rfl) h3 (bq_all_ok (by omega)) (by omega), Option.bind_some, st1, h1, h2]; exact if_pos rfl
theorem am_C_shw (hA : am_ok A) (hC : am_C A σ) : sh_w σ 3 A.2.2.1 A.2.2.2.1 := by
  have hp := p12 hA.2.1
  obtain ⟨a1, a2, a3, a4, a5, a6, a7, a8, a9⟩ := hC.2.2.2.2.1
  refine ⟨a4, a7, hA.2.2.2.2.1, fun w hw => ?_, a5, a8, a9, hA.2.2.2.2.2.2.1, fun c hc => ?_⟩
  · have := hA.2.2.2.2.2.1 w hw
    omega
  · have := hA.2.2.2.2.2.2.2.1 c hc
    exact ⟨this.1, this.2.1⟩
theorem am_M_mw {τ : ja_S} (hA : am_ok A) (hM : am_M A τ) (h57 : am_row (τ.1 57) A.2.2.1) : mw_ok τ A.2.2.1 A.2.2.2.1 := by
  have hp := p12 hA.2.1
  refine ⟨hM.2.1, h57, hA.2.2.2.2.1, fun w hw => ?_, hM.2.2.1, hM.2.2.2.2.2.2.2.1, hM.2.2.2.2.2.2.2.2.1, hA.2.2.2.2.2.2.1, fun c hc => ?_⟩
  · have := hA.2.2.2.2.2.1 w hw
    omega
  · have := hA.2.2.2.2.2.2.2.1 c hc
    exact ⟨this.1, this.2.1⟩
/-- the reference has laid all from home -/
theorem mhome {τ : ja_S} (hA : am_ok A) (hM : am_M A τ) : ∃ τ1 τ2, f_Model_usesSheet 45 τ = some τ1 ∧ f_Model_laysFrom 45 0 τ1 = some τ2 ∧ mf_ok τ2 (am_rl A) ∧ mq_ok τ2 A.1 A.2.1 (2 ^ A.2.1.length - 1) 0 ∧ mw_ok τ2 A.2.2.1 A.2.2.2.1 ∧ fr_md τ τ2 ∧ τ2.1 45 0 = nI A.1 := by
  obtain ⟨τ1, g1, g2, g3, g4⟩ := mstart hA hM
  obtain ⟨τ2, k1, k2, k3⟩ := mlays g2
  have hM1 := am_M_md hM g4
  have hq2 := mq_fr g2 k3
  exact ⟨τ1, τ2, g1, k1, k2, hq2, mw_fr (am_M_mw hA hM1 g3) k3, fr_md_tr g4 (fr_m_md k3), hq2.2.1⟩
theorem case_28 (hA : am_ok A) (hC : am_C A σ) (hM : am_M A σ) (hK : am_K A σ) : am_ask2 A 28 a σ := by
  obtain ⟨σ1, e1, e2, e3, e4, e5⟩ := searched_ok hA hC hK
  obtain ⟨τ1, τ2, g1, g2, g3, g4, g5, g6, g7⟩ := mhome hA (am_M_th (v := 0) (am_M_cl hM e5))
  refine am_asks (σ2 := τ2) ?_ hC hM e5 e3 (fr_md_tr md_th g6)
  rw [jc_28]
  unfold f_Frame_unprotectedConflicts f_Model_unprotectedConflicts ja_pu
  rw [e1, Option.bind_some, show ja_q 0 3 = 3 from rfl, show ja_q 0 7 = 17 from rfl, open_ok (Or.inl rfl) (Or.inl rfl) e4.1 rl_ok (am_C_shw hA e2), Option.bind_some, Option.bind_some, Option.bind_some, g1, Option.bind_some, g2, Option.bind_some, munprot_ok g3 rl_ok g5, Option.bind_some, Option.bind_some]
  exact if_pos rfl
theorem case_24 (hA : am_ok A) (hC : am_C A σ) (hM : am_M A σ) (hK : am_K A σ) : am_ask2 A 24 a σ := by
  have hn12 : A.1 ≤ 12 := hA.2.1
  have hlen := bq_ok_len (rl_ok (A := A))
  have c0 : σ.1 3 0 = nI A.1 := hC.2.2.2.2.1.1
  have c2 : ∀ τ : ja_S, am_M A τ → (ja_si τ 45 9 0).1 45 0 = nI A.1 := fun τ h => by rw [si_at, if_neg (by omega)]; exact h.1
  cases hin : am_in (a 1) A.1 with
  | false =>
    refine am_asks1 hC hM hK ?_
    rw [jc_24]
    unfold f_Frame_excludedLevers f_Model_excludedLevers ja_pu
    rw [show ja_q 0 3 = 3 from rfl, hasLever_ok c0 (by omega), hin, Option.bind_some, if_pos (am_bz0.mpr rfl), Option.bind_some, Option.bind_some, isLever_ok (c2 σ hM) (by omega), hin, Option.bind_some, if_pos (am_bz0.mpr rfl), Option.bind_some, if_pos rfl]
  | true =>
    obtain ⟨l, hl, el⟩ := am_in_t hin (by omega)
    obtain ⟨σ1, e1, e2, e3, e4, e5⟩ := searched_ok hA hC hK
    have hM1 := am_M_cl hM e5
    obtain ⟨τ1, τ2, g1, g2, g3, g4, g5, g6, g7⟩ := mhome hA (am_M_th (v := 0) hM1)
    refine am_asks (σ2 := τ2) ?_ hC hM e5 e3 (fr_md_tr md_th g6)
    have h1 := lsw_L4 (Or.inl rfl) e4.1 rl_ok (l := l) (by omega) ja_FU 0 0 (by omega) (by unfold ja_FU; omega)
    have h2 := mex_L29 g3 rl_ok g7 (l := l) (by omega) ja_FU 0 0 (by omega) (by unfold ja_FU; omega)
    rw [← am_z] at h1 h2
    have c1 : σ1.1 3 0 = nI A.1 := e2.2.2.2.2.1.1
    rw [jc_24]
    unfold f_Frame_excludedLevers f_Model_excludedLevers f_Search_leversSeenWith f_Sheet_allLevers ja_pu
    rw [show ja_q 0 3 = 3 from rfl, show ja_q 0 7 = 17 from rfl, hasLever_ok c0 (by omega), hin, Option.bind_some, if_neg bz1, e1, Option.bind_some, el, h1, Option.bind_some, Option.bind_some, Option.bind_some, Option.bind_some, isLever_ok (c2 σ1 hM1) (by omega), am_in_nI hl (by omega), Option.bind_some, if_neg bz1, g1, Option.bind_some, g2, Option.bind_some, h2, Option.bind_some, c1]
    exact if_pos rfl
theorem case_27 (hA : am_ok A) (hC : am_C A σ) (hM : am_M A σ) (hK : am_K A σ) : am_ask2 A 27 a σ := by
  have h8 : A.2.2.1.length ≤ 8 := hA.2.2.2.2.1
  have hlen := bq_ok_len (rl_ok (A := A))
  have c0 : σ.1 3 5 = nI A.2.2.1.length := hC.2.2.2.2.1.2.2.2.1
  have c2 : ∀ τ : ja_S, am_M A τ → (ja_si τ 45 9 0).1 45 1 = nI A.2.2.1.length := fun τ h => by rw [si_at, if_neg (by omega)]; exact h.2.1
  cases hin : am_in (a 1) A.2.2.1.length with
  | false =>
    refine am_asks1 hC hM hK ?_
    rw [jc_27]
    unfold f_Frame_jointStates f_Model_jointStates ja_pu
    rw [show ja_q 0 3 = 3 from rfl, hasRoute_ok c0 (by omega), hin, Option.bind_some, if_pos (am_bz0.mpr rfl), Option.bind_some, Option.bind_some, isRoute_ok (c2 σ hM) (by omega), hin, Option.bind_some, if_pos (am_bz0.mpr rfl), Option.bind_some, if_pos rfl]
  | true =>
    cases hin2 : am_in (a 2) A.2.2.1.length with
    | false =>
      refine am_asks1 hC hM hK ?_
      rw [jc_27]
      unfold f_Frame_jointStates f_Model_jointStates ja_pu
      rw [show ja_q 0 3 = 3 from rfl, hasRoute_ok c0 (by omega), hin, Option.bind_some, if_neg bz1, hasRoute_ok c0 (by omega), hin2, Option.bind_some, if_pos (am_bz0.mpr rfl), Option.bind_some, Option.bind_some, isRoute_ok (c2 σ hM) (by omega), hin, Option.bind_some, if_neg bz1, isRoute_ok (c2 σ hM) (by omega), hin2, Option.bind_some, if_pos (am_bz0.mpr rfl), Option.bind_some, if_pos rfl]
    | true =>
      obtain ⟨x, hx, ex⟩ := am_in_t hin (by omega)
      obtain ⟨y, hy, ey⟩ := am_in_t hin2 (by omega)
      obtain ⟨σ1, e1, e2, e3, e4, e5⟩ := searched_ok hA hC hK
      have hM1 := am_M_cl hM e5
      obtain ⟨τ1, τ2, g1, g2, g3, g4, g5, g6, g7⟩ := mhome hA (am_M_th (v := 0) hM1)
      refine am_asks (σ2 := τ2) ?_ hC hM e5 e3 (fr_md_tr md_th g6)
      have hw := am_C_shw hA e2
      have hor : A.2.2.1.getD x 0 ||| A.2.2.1.getD y 0 < 2 ^ 12 := Nat.or_lt_two_pow (getD_lt hw.2.2.2.1 hx) (getD_lt hw.2.2.2.1 hy)
      have h1 := cnt_L4 (Or.inl rfl) e4.1 rl_ok hor ja_FU 0 0 (by omega) (by unfold ja_FU; omega)
      rw [← am_z, List.drop_zero, Nat.zero_add] at h1
      rw [jc_27]
      unfold f_Frame_jointStates f_Model_jointStates f_Search_countSetting ja_pu
      rw [show ja_q 0 3 = 3 from rfl, show ja_q 0 7 = 17 from rfl, show ja_q 3 4 = 5 from rfl, hasRoute_ok c0 (by omega), hin, Option.bind_some, if_neg bz1, hasRoute_ok c0 (by omega), hin2, Option.bind_some, if_neg bz1, e1, Option.bind_some, ex, ey, ld0 (N := 8) rfl (by omega) (by omega), Option.bind_some, ld0 (N := 8) rfl (by omega) (by omega), Option.bind_some, show σ1.1 5 x = nI (A.2.2.1.getD x 0) from hw.2.1 x hx, show σ1.1 5 y = nI (A.2.2.1.getD y 0) from hw.2.1 y hy, nI_or, h1, Option.bind_some, Option.bind_some, Option.bind_some, isRoute_ok (c2 σ1 hM1) (by omega), am_in_nI hx (by omega), Option.bind_some, if_neg bz1, isRoute_ok (c2 σ1 hM1) (by omega), am_in_nI hy (by omega), Option.bind_some, if_neg bz1, g1, Option.bind_some, g2, Option.bind_some, joint_ok g3 rl_ok g5 hx hy, Option.bind_some, Option.bind_some, cnt_2s]
      exact if_pos rfl
end C4
