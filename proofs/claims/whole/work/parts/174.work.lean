/-! removeRule, undo -/
def fg_st (σ : ja_S) : ja_S := ja_si (ja_si (ja_si σ 0 8 0) 29 0 0) 0 11 0
theorem forgetF {σ : ja_S} : f_Frame_forgetFindings 0 σ = some (fg_st σ) := by
  unfold f_Frame_forgetFindings f_LockPlanner_forget ja_pu
  rw [show ja_q 0 10 = 29 from rfl, Option.bind_some, Option.bind_some, Option.bind_some, Option.bind_some]
  rfl
theorem fg_at {σ : ja_S} {k j : Nat} (h : (k ≠ 0 ∨ (j ≠ 8 ∧ j ≠ 11)) ∧ k ≠ 29) : (fg_st σ).1 k j = σ.1 k j := by
  unfold fg_st
  rw [si_at, if_neg (by omega), si_at, if_neg (by omega), si_at, if_neg (by omega)]
theorem fg_fg {σ : ja_S} : am_fg (fg_st σ) := by
  unfold am_fg fg_st
  refine ⟨?_, ?_, ?_⟩
  · rw [si_at, if_neg (by omega), si_at, if_neg (by omega), si_at, if_pos ⟨rfl, rfl⟩]
  · rw [si_at, if_neg (by omega), si_at, if_pos ⟨rfl, rfl⟩]
  · rw [si_at, if_pos ⟨rfl, rfl⟩]
theorem fg_hs {σ : ja_S} {ds : List am_D} (h : hs_ok σ ds) : hs_ok (fg_st σ) ds := by
  obtain ⟨h1, h2, h3⟩ := h
  refine ⟨(fg_at (by omega)).trans h1, h2, fun i hi => ?_⟩
  rw [fg_at (by omega), fg_at (by omega), fg_at (by omega)]
  exact h3 i hi
theorem rem_L34 {m : Nat} (hm : m < 24) : ∀ (n i : Nat) (τ : ja_S), 4 * m - i < n → i ≤ 4 * m → τ.1 46 0 = nI m → ∃ τ', f_Model_removeRule_L34 n 45 (nI i) τ = some (nI m, τ') ∧ (∀ q, τ'.1 46 q = if 2 + i ≤ q ∧ q < 2 + 4 * m then τ.1 46 (q + 4) else τ.1 46 q) ∧ (∀ k j, k ≠ 46 → τ'.1 k j = τ.1 k j) ∧ τ'.2 = τ.2 := by
  intro n
  induction n with
  | zero => intro i τ h; omega
  | succ n ih =>
    intro i τ hn hi h0
    rw [f_Model_removeRule_L34, show ja_q 45 3 = 46 from rfl, am_z, ld0 (N := 98) rfl (by omega) (by omega), Option.bind_some, h0, nI_4k0]
    by_cases h : i = 4 * m
    · rw [h, if_pos (nI_le (Nat.le_refl _) (by omega)), Option.bind_some]
      refine ⟨τ, rfl, fun q => ?_, fun _ _ _ => rfl, rfl⟩
      rw [if_neg (by omega)]
    · rw [if_neg (nI_ge (by omega) (by omega)), show (2 : Int32) = nI 2 by decide +kernel, nI_add, ja_ad 4 4 (by decide +kernel), ld0 (N := 98) rfl (by omega) (by omega), Option.bind_some, st0' (N := 98) rfl (by omega) (by omega), Option.bind_some, nI_1]
      obtain ⟨τ', e1, e2, e3, e4⟩ := ih (i + 1) (ja_si τ 46 (2 + i) (τ.1 46 (2 + i + 4))) (by omega) (by omega) (by rw [si_at, if_neg (by omega)]; exact h0)
      refine ⟨τ', e1, fun q => ?_, fun k j hk => (e3 k j hk).trans (by rw [si_row hk]), e4⟩
      rw [e2 q]
      by_cases hq : q = 2 + i
      · rw [if_neg (by omega), si_at, if_pos ⟨rfl, hq⟩, if_pos (by omega), hq]
      · by_cases hc : 2 + (i + 1) ≤ q ∧ q < 2 + 4 * m
        · rw [if_pos hc, if_pos (by omega), si_at, if_neg (by omega)]
        · rw [if_neg hc, si_at, if_neg (by omega), if_neg (by omega)]
section C16
variable {A : am_A} {a : Nat → Int32} {σ : ja_S}
theorem case_16 (hA : am_ok A) (hC : am_C A σ) (hM : am_M A σ) : am_do A 16 a σ := by
  have hl24 : A.2.1.length ≤ 24 := hA.2.2.1
  have hcur : A.2.2.2.2.1 < 2 ^ A.1 := hA.2.2.2.2.2.2.2.2.1
  have c1 := am_C_rules hC
  have c2 : ∀ τ : ja_S, am_M A τ → (ja_si τ 45 9 0).1 46 0 = nI A.2.1.length := fun τ h => by rw [si_row (by omega)]; exact am_M_rules h
  cases hin : am_in (a 1) A.2.1.length with
  | false =>
    refine am_ask_do hA hC (am_asked hM ?_)
    rw [jc_16]
    unfold f_Frame_removeRule f_Model_removeRule ja_pu
    rw [show ja_q 0 3 = 3 from rfl, hasRule_ok c1 (by omega), hin, Option.bind_some, if_pos (am_bz0.mpr rfl), Option.bind_some, Option.bind_some, isRule_ok (c2 σ hM) (by omega), hin, Option.bind_some, if_pos (am_bz0.mpr rfl), Option.bind_some, if_pos rfl]
  | true =>
    obtain ⟨p, hp, ep⟩ := am_in_t hin (by omega)
    have hget : A.2.1[p]? = some (am_rd A.2.1 p) := by rw [List.getElem?_eq_getElem hp, am_rd_lt hp]
    obtain ⟨ds, hds, hist⟩ := am_C_hs hA hC
    obtain ⟨σ1, n1, n2, n3⟩ := note_ok (d := (2, p, am_pk (am_rd A.2.1 p))) hds
    have hrs1 : rs_ok σ1 A.2.1 := by
      have := am_C_rs hC
      exact ⟨(n3.1 3 3 (by omega)).trans this.1, fun i hi => (n3.1 4 i (by omega)).trans (this.2 i hi)⟩
    obtain ⟨σ2, d1, d2, d3⟩ := drop_ok hrs1 hp hl24
    have f2 : ∀ k j, (k < 13 ∨ 16 < k) → k ≠ 4 → (k ≠ 3 ∨ j ≠ 3) → σ2.1 k j = σ.1 k j := fun k j a1 a2 a3 => (d3.1 k j a2 a3).trans (n3.1 k j a1)
    have f3 : ∀ k j, (k < 13 ∨ 16 < k) → k ≠ 4 → (k ≠ 3 ∨ j ≠ 3) → ((k ≠ 0 ∨ (j ≠ 8 ∧ j ≠ 11)) ∧ k ≠ 29) → (fg_st σ2).1 k j = σ.1 k j := fun k j a1 a2 a3 a4 => (fg_at a4).trans (f2 k j a1 a2 a3)
    have hM3 : am_M A (fg_st σ2) := am_M_ch hM (fun k hk => funext fun j => f3 k j (by omega) (by omega) (by omega) (by omega))
    have hM4 := am_M_th (v := 0) hM3
    obtain ⟨r1, r2, r3⟩ := am_M_rm hA hM4
    obtain ⟨τ2, v1, v2, v3⟩ := remembers_ok r1 r2 hl24 r3
    have k46 : ∀ j, τ2.1 46 j = (ja_si (fg_st σ2) 45 9 0).1 46 j := fun j => v3.1 46 j (by omega) (by omega)
    have h46 : τ2.1 46 0 = nI A.2.1.length := (k46 0).trans r2.1
    obtain ⟨τ3, w1, w2, w3, w4⟩ := rem_L34 (m := A.2.1.length - 1) (by omega) ja_FU (4 * p) (ja_si τ2 46 0 (nI (A.2.1.length - 1))) (by unfold ja_FU; omega) (by omega) (by rw [si_at, if_pos ⟨rfl, rfl⟩])
    obtain ⟨oso1, oso2⟩ := os_ok hA
    have hel := er_len hp
    have g3 : ∀ k j, k ≠ 46 → k ≠ 47 → (k ≠ 45 ∨ (j ≠ 8 ∧ j ≠ 9)) → τ3.1 k j = (fg_st σ2).1 k j := fun k j a1 a2 a3 => by
      rw [w3 k j a1, si_row a1, v3.1 k j a2 (by omega), si_at, if_neg (by omega)]
    refine ⟨am_nw A (A.2.1.eraseIdx p) A.2.2.2.2.1 ((A.2.1, A.2.2.2.2.1) :: A.2.2.2.2.2.1.take 11), τ3, ?_, am_ok_nw hA (by omega) (fun r hr => hA.2.2.2.1 r (List.mem_of_mem_eraseIdx hr)) hcur oso1 oso2, ?_, ?_, Or.inr ?_, fun k h1 h2 h29 => ?_⟩
    · rw [jc_16]
      unfold f_Frame_removeRule f_Model_removeRule ja_pu
      have n1' : f_History_note 13 2 (nI p) (nI (am_pk (am_rd A.2.1 p))) σ = some σ1 := by
        rw [show (2 : Int32) = nI 2 by decide +kernel]; exact n1
      rw [show ja_q 0 3 = 3 from rfl, show ja_q 0 5 = 13 from rfl, show ja_q 3 2 = 4 from rfl, hasRule_ok c1 (by omega), hin, Option.bind_some, if_neg bz1, ep, ld0 (N := 24) rfl (by omega) (by omega), Option.bind_some, am_C_rule hC hp, show am_pk (A.2.1.getD p (0, 0, 0, 0)) = am_pk (am_rd A.2.1 p) from rfl, n1', Option.bind_some, d1, Option.bind_some, forgetF, Option.bind_some, Option.bind_some, Option.bind_some, isRule_ok (c2 _ hM3) (by omega), am_in_nI hp (by omega), Option.bind_some, if_neg bz1, v1, Option.bind_some, show ja_q 45 3 = 46 from rfl]
      have hld : ja_ld ja_L0 τ2 46 0 = some (nI A.2.1.length) := by
        rw [am_z, ld0 (N := 98) rfl (by omega) (by omega), h46]
      have hst : ja_st ja_L0 τ2 46 0 (nI A.2.1.length - 1) = some (ja_si τ2 46 0 (nI (A.2.1.length - 1))) := by
        rw [am_z, st0' (N := 98) rfl (by omega) (by omega), show (1 : Int32) = nI 1 by decide +kernel, pk_sub (by omega)]
      rw [hld, Option.bind_some, hst, Option.bind_some, nI_4k0, w1, Option.bind_some, fg_at (by omega), d2.1, hel]
      exact if_pos rfl
    · have hCx : am_C (am_nw A (A.2.1.eraseIdx p) A.2.2.2.2.1 ((A.2.1, A.2.2.2.2.1) :: A.2.2.2.2.2.1.take 11)) (fg_st σ2) := by
        refine am_C_mk hC (fun k j hk => f3 k j (by omega) (by omega) (by omega) (by omega)) ⟨(fg_at (by omega)).trans d2.1, fun i hi => (fg_at (by omega)).trans (d2.2 i hi)⟩ ((f3 0 6 (by omega) (by omega) (by omega) (by omega)).trans hC.2.2.2.2.2.1) (fg_hs (σ := σ2) (ds := (2, p, am_pk (am_rd A.2.1 p)) :: ds.take 11) ?_) ⟨Or.inr (Or.inr ⟨rfl, rfl, hp, rfl, _, hget, rfl⟩), hist_take 11 _ _ _ hist⟩
        obtain ⟨b1, b2, b3⟩ := n2
        refine ⟨(d3.1 13 0 (by omega) (by omega)).trans b1, b2, fun i hi => ?_⟩
        rw [d3.1 14 i (by omega) (by omega), d3.1 15 i (by omega) (by omega), d3.1 16 i (by omega) (by omega)]
        exact b3 i hi
      exact am_C_ch hCx (fun k hk => funext fun j => g3 k j (by omega) (by omega) (by omega))
    · refine am_M_mk hM3 (fun k j hk => g3 k j (by omega) (by omega) (by omega)) ?_ ?_
      · obtain ⟨s1, s2, s3⟩ := r2
        refine ⟨?_, ?_, fun i hi => ?_⟩
        · show τ3.1 46 0 = nI (A.2.1.eraseIdx p).length
          rw [w2 0, if_neg (by omega), si_at, if_pos ⟨rfl, rfl⟩, hel]
        · rw [w2 (0 + 1), if_neg (by omega), si_at, if_neg (by omega), k46]; exact s2
        · have hi' : i < A.2.1.length - 1 := by rw [← hel]; exact hi
          have hrd : (A.2.1.eraseIdx p).getD i (0, 0, 0, 0) = if i < p then am_rd A.2.1 i else am_rd A.2.1 (i + 1) := er_rd
          rw [hrd]
          by_cases c : i < p
          · have := s3 i (show i < A.2.1.length by omega)
            rw [if_pos c, w2, if_neg (by omega), w2, if_neg (by omega), w2, if_neg (by omega), w2, if_neg (by omega), si_at, if_neg (by omega), si_at, if_neg (by omega), si_at, if_neg (by omega), si_at, if_neg (by omega), k46, k46, k46, k46]
            exact this
          · have := s3 (i + 1) (show i + 1 < A.2.1.length by omega)
            rw [if_neg c, w2, if_pos (by omega), w2, if_pos (by omega), w2, if_pos (by omega), w2, if_pos (by omega), si_at, if_neg (by omega), si_at, if_neg (by omega), si_at, if_neg (by omega), si_at, if_neg (by omega), k46, k46, k46, k46]
            rw [show 0 + 2 + 4 * (i + 1) = 0 + 2 + 4 * i + 4 by omega] at this
            rw [show 0 + 2 + 4 * i + 1 + 4 = 0 + 2 + 4 * i + 4 + 1 by omega, show 0 + 2 + 4 * i + 2 + 4 = 0 + 2 + 4 * i + 4 + 2 by omega, show 0 + 2 + 4 * i + 3 + 4 = 0 + 2 + 4 * i + 4 + 3 by omega]
            exact this
      · obtain ⟨b1, b2, b3⟩ := v2
        have k47 : τ3.1 47 = τ2.1 47 := funext fun j => by rw [w3 47 j (by omega), si_row (by omega)]
        refine ⟨?_, b2, fun i hi => ?_⟩
        · rw [w3 45 8 (by omega), si_row (by omega)]; exact b1
        · rw [k47]; exact b3 i hi
    · have := fg_fg (σ := σ2)
      unfold am_fg at this ⊢
      rw [g3 0 8 (by omega) (by omega) (by omega), g3 29 0 (by omega) (by omega) (by omega), g3 0 11 (by omega) (by omega) (by omega)]
      exact this
    · refine ⟨funext fun j => ?_, ?_⟩
      · rw [g3 k j (by omega) (by omega) (by omega), f3 k j (by omega) (by omega) (by omega) (by omega)]
      · rw [w4, si_l, v3.2, si_l]
        unfold fg_st
        rw [si_l, si_l, si_l, d3.2, n3.2]
end C16
/-! undo -/
theorem und_L27 {m : Nat} (hm : m < 12) : ∀ (n i : Nat) (τ : ja_S), i ≤ 98 → 98 - i < n → τ.1 45 8 = nI m → ∃ τ', f_Model_undo_L27 n 45 (nI i) τ = some (nI m, τ') ∧ (∀ q, τ'.1 46 q = if i ≤ q ∧ q < 98 then τ.1 47 (98 * m + q) else τ.1 46 q) ∧ (∀ k j, k ≠ 46 → τ'.1 k j = τ.1 k j) ∧ τ'.2 = τ.2 := by
  intro n
  induction n with
  | zero => intro i τ _ h; omega
  | succ n ih =>
    intro i τ hi hn h8
    rw [f_Model_undo_L27, show (98 : Int32) = nI 98 by decide +kernel]
    by_cases h : i = 98
    · rw [h, if_pos (nI_le (Nat.le_refl _) (by omega)), h8]
      refine ⟨τ, rfl, fun q => ?_, fun _ _ _ => rfl, rfl⟩
      rw [if_neg (by omega)]
    · rw [if_neg (nI_ge (by omega) (by omega)), show ja_q 45 3 = 46 from rfl, show ja_q 45 4 = 47 from rfl, h8, pk_mul, nI_add, ld0 (N := 1176) rfl (by omega) (by omega), Option.bind_some, st0' (N := 98) rfl (by omega) (by omega), Option.bind_some, nI_1]
      obtain ⟨τ', e1, e2, e3, e4⟩ := ih (i + 1) (ja_si τ 46 i (τ.1 47 (98 * m + i))) (by omega) (by omega) (by rw [si_row (by omega)]; exact h8)
      refine ⟨τ', e1, fun q => ?_, fun k j hk => (e3 k j hk).trans (by rw [si_row hk]), e4⟩
      rw [e2 q, si_row (a := 47) (by omega)]
      by_cases hq : q = i
      · rw [if_neg (by omega), si_at, if_pos ⟨rfl, hq⟩, if_pos (by omega), hq]
      · by_cases hc : i + 1 ≤ q ∧ q < 98
        · rw [if_pos hc, if_pos (by omega)]
        · rw [if_neg hc, si_at, if_neg (by omega), if_neg (by omega)]
theorem take_ok {σ : ja_S} {d : am_D} {ds : List am_D} (h : hs_ok σ (d :: ds)) : ∃ σ', f_History_takeLatest 13 σ = some (1, σ') ∧ hs_ok σ' ds ∧ σ'.1 13 1 = nI d.1 ∧ σ'.1 13 2 = nI d.2.1 ∧ σ'.1 13 3 = nI d.2.2 ∧ (∀ k j, k ≠ 13 → σ'.1 k j = σ.1 k j) ∧ σ'.2 = σ.2 := by
  obtain ⟨h1, h2, h3⟩ := h
  rw [List.length_cons] at h1 h2
  have hlast := h3 ds.length (by rw [List.length_cons]; omega)
  rw [cons_rev (by omega), if_pos rfl] at hlast
  have e1 : nI (ds.length + 1) - 1 = nI ds.length := nI_pred _
  unfold f_History_takeLatest ja_pu
  rw [h1, if_pos (show 0 < nI (ds.length + 1) by rw [am_z]; exact nI_lt (by omega) (by omega)), Option.bind_some, show ja_q 13 4 = 14 from rfl, show ja_q 13 5 = 15 from rfl, show ja_q 13 6 = 16 from rfl, e1]
  have t0 : ∀ τ : ja_S, τ.1 13 0 = nI ds.length → ∀ (j : Nat) (v : Int32), j ≠ 0 → (ja_si τ 13 j v).1 13 0 = nI ds.length := fun τ ht j v hj => by rw [si_at, if_neg (by omega)]; exact ht
  have b0 : (ja_si σ 13 0 (nI ds.length)).1 13 0 = nI ds.length := by rw [si_at, if_pos ⟨rfl, rfl⟩]
  rw [b0, ld0 (N := 12) rfl (by omega) (by omega), Option.bind_some, Option.bind_some, t0 _ b0 1 _ (by omega), ld0 (N := 12) rfl (by omega) (by omega), Option.bind_some, Option.bind_some, t0 _ (t0 _ b0 1 _ (by omega)) 2 _ (by omega), ld0 (N := 12) rfl (by omega) (by omega), Option.bind_some, Option.bind_some]
  refine ⟨_, rfl, ⟨?_, by omega, fun i hi => ?_⟩, ?_, ?_, ?_, fun k j hk => ?_, rfl⟩
  · exact t0 _ (t0 _ (t0 _ b0 1 _ (by omega)) 2 _ (by omega)) 3 _ (by omega)
  · have := h3 i (by rw [List.length_cons]; omega)
    rw [cons_rev (by omega), if_neg (by omega)] at this
    rw [si_row (by omega), si_row (by omega), si_row (by omega), si_row (by omega), si_row (by omega), si_row (by omega), si_row (by omega), si_row (by omega), si_row (by omega), si_row (by omega), si_row (by omega), si_row (by omega)]
    exact this
  · rw [si_at, if_neg (by omega), si_at, if_neg (by omega), si_at, if_pos ⟨rfl, rfl⟩, si_row (by omega)]
    exact hlast.1
  · rw [si_at, if_neg (by omega), si_at, if_pos ⟨rfl, rfl⟩, si_row (by omega), si_row (by omega)]
    exact hlast.2.1
  · rw [si_at, if_pos ⟨rfl, rfl⟩, si_row (by omega), si_row (by omega), si_row (by omega)]
    exact hlast.2.2
  · rw [si_row hk, si_row hk, si_row hk, si_row hk]
section C17
variable {A : am_A} {a : Nat → Int32} {σ : ja_S}
theorem case_17 (hA : am_ok A) (hC : am_C A σ) (hM : am_M A σ) : am_do A 17 a σ := by
  obtain ⟨ds, hds, hist⟩ := am_C_hs hA hC
  have hlen := hist_len _ _ _ hist
  have h12 : A.2.2.2.2.2.1.length ≤ 12 := hA.2.2.2.2.2.2.2.2.2.1
  cases ds with
  | nil =>
    refine am_ask_do hA hC (am_asked hM ?_)
    have h0 : A.2.2.2.2.2.1.length = 0 := hlen.symm
    have m8 : (ja_si σ 45 9 0).1 45 8 = 0 := by
      rw [si_at, if_neg (by omega), hM.2.2.2.2.1, h0]; exact am_z.symm
    rw [jc_17]
    unfold f_Frame_undo f_Model_undo f_History_takeLatest ja_pu
    rw [show ja_q 0 5 = 13 from rfl, hds.1, if_neg (show ¬ 0 < nI ([] : List am_D).length by decide +kernel), Option.bind_some, if_pos (show (0 : Int32) = 0 from rfl), Option.bind_some, Option.bind_some, m8, if_pos (show (0 : Int32) = 0 from rfl), Option.bind_some, if_pos rfl]
  | cons d ds =>
    obtain ⟨o, os, hos⟩ : ∃ o os, A.2.2.2.2.2.1 = o :: os := by
      cases hx : A.2.2.2.2.2.1 with
      | nil => rw [hx] at hist; cases hist
      | cons o os => exact ⟨o, os, rfl⟩
    rw [hos] at hist h12 hlen
    rw [List.length_cons] at h12
    obtain ⟨hdd, hist2⟩ := hist
    have hl2 := hist_len _ _ _ hist2
    have hmem : ∀ q ∈ o :: os, q.1.length ≤ 24 ∧ (∀ r ∈ q.1, am_rok A.1 r) ∧ q.2 < 2 ^ A.1 := by rw [← hos]; exact hA.2.2.2.2.2.2.2.2.2.2.1
    obtain ⟨o1, o2, o3⟩ := hmem o List.mem_cons_self
    obtain ⟨σ1, t1, t2, t3, t4, t5, t6, t7⟩ := take_ok hds
    have hN : A.1 ≤ 12 := hA.2.1
    -- the reference, over any state with the same frame
    have mref : ∀ σ3 : ja_S, am_M A σ3 → ∃ τ, f_Model_undo 45 σ3 = some (nI os.length, τ) ∧ am_M (am_nw A o.1 o.2 os) τ ∧ (∀ k j, k < 45 → τ.1 k j = σ3.1 k j) ∧ τ.2 = σ3.2 := by
      intro σ3 hM3
      have m8 : (ja_si σ3 45 9 0).1 45 8 = nI (os.length + 1) := by
        rw [si_at, if_neg (by omega), hM3.2.2.2.2.1, hos, List.length_cons]
      obtain ⟨τ, w1, w2, w3, w4⟩ := und_L27 (m := os.length) (by omega) ja_FU 0 (ja_si (ja_si σ3 45 9 0) 45 8 (nI os.length)) (by omega) (by unfold ja_FU; omega) (by rw [si_at, if_pos ⟨rfl, rfl⟩])
      have g3 : ∀ k j, k ≠ 46 → (k ≠ 45 ∨ (j ≠ 8 ∧ j ≠ 9)) → τ.1 k j = σ3.1 k j := fun k j a1 a2 => by
        rw [w3 k j a1, si_at, if_neg (by omega), si_at, if_neg (by omega)]
      refine ⟨τ, ?_, ?_, fun k j hk => g3 k j (by omega) (by omega), ?_⟩
      · unfold f_Model_undo ja_pu
        rw [← am_z] at w1
        rw [Option.bind_some, m8, if_neg (nI_ne0 (by omega) (by omega)), Option.bind_some, nI_pred, w1]
      · have hacts := hM3.2.2.2.2.2.1
        rw [hos, List.length_cons] at hacts
        refine am_M_mk hM3 (fun k j hk => g3 k j (by omega) (by omega)) ?_ ⟨?_, by omega, fun i hi => ?_⟩
        · have h1 := hacts os.length (by omega)
          rw [show os.length + 1 - 1 - os.length = 0 by omega] at h1
          refine s_at (o := o) (f := σ3.1 47) (p := 98 * os.length) h1 o1 (fun j hj => ?_)
          rw [Nat.zero_add, w2 j, if_pos (by omega), si_row (by omega), si_row (by omega)]
        · rw [w3 45 8 (by omega), si_at, if_pos ⟨rfl, rfl⟩]
        · have h1 := hacts i (by omega)
          rw [show os.length + 1 - 1 - i = (os.length - 1 - i) + 1 by omega] at h1
          have h2 : am_s (σ3.1 47) (98 * i) (os.getD (os.length - 1 - i) ([], 0)) := h1
          rw [show τ.1 47 = σ3.1 47 from funext fun j => g3 47 j (by omega) (by omega)]
          exact h2
      · rw [w4]; rfl
    have hokA : am_ok (am_nw A o.1 o.2 os) := am_ok_nw hA o1 o2 o3 (by omega) (fun q hq => hmem q (List.mem_cons_of_mem _ hq))
    have hrs1 : rs_ok σ1 A.2.1 := by
      have := am_C_rs hC
      exact ⟨(t6 3 3 (by omega)).trans this.1, fun i hi => (t6 4 i (by omega)).trans (this.2 i hi)⟩
    have c6 : σ1.1 0 6 = nI A.2.2.2.2.1 := (t6 0 6 (by omega)).trans hC.2.2.2.2.2.1
    -- the end, for what the class leaves
    have fin : ∀ σ3 : ja_S, f_Frame_undo 0 σ = some (nI ds.length, σ3) → am_C (am_nw A o.1 o.2 os) σ3 → (∀ k j, 17 ≤ k → k ≠ 29 → σ3.1 k j = σ.1 k j) → σ3.2 = σ.2 → ((am_sm A (am_nw A o.1 o.2 os) ∧ am_kp σ σ3) ∨ am_fg σ3) → am_do A 17 a σ := by
      intro σ3 e1 e2 e3 e4 e5
      have hM3 : am_M A σ3 := am_M_ch hM (fun k hk => funext fun j => e3 k j (by omega) (by omega))
      obtain ⟨τ, u1, u2, u3, u4⟩ := mref σ3 hM3
      refine ⟨am_nw A o.1 o.2 os, τ, ?_, hokA, am_C_ch e2 (fun k hk => funext fun j => u3 k j hk), u2, ?_, fun k h1 h2 h29 => ⟨funext fun j => (u3 k j h2).trans (e3 k j h1 h29), u4.trans e4 ▸ rfl⟩⟩
      · rw [jc_17, e1, Option.bind_some, u1, Option.bind_some, hl2]
        exact if_pos rfl
      · rcases e5 with ⟨x1, x2⟩ | x
        · exact Or.inl ⟨x1, fun k j hj => (u3 k j (by omega)).trans (x2 k j hj)⟩
        · refine Or.inr ?_
          unfold am_fg at x ⊢
          rw [u3 0 8 (by omega), u3 29 0 (by omega), u3 0 11 (by omega)]
          exact x
    rcases hdd with ⟨a1, a2, a3, a4⟩ | ⟨a1, a2, a3, r, a4, a5⟩ | ⟨a1, a2, a3, a4, r, a5, a6⟩
    · -- a move is taken back
      dsimp only at a2 a4
      have hx : A.2.2.2.2.1 ^^^ 2 ^ d.2.1 = o.2 := by rw [a4, xor_back]
      refine fin (ja_si σ1 0 6 (nI o.2)) ?_ ?_ ?_ ?_ (Or.inl ⟨⟨rfl, a2.symm, rfl, rfl⟩, fun k j hj => ?_⟩)
      · unfold f_Frame_undo ja_pu
        rw [show ja_q 0 5 = 13 from rfl, t1, Option.bind_some, if_neg i1n0, t3, a1, if_pos (show nI 0 = 0 from nI_0), Option.bind_some, c6, t4, nI_pow (by omega), nI_xor, hx, si_row (by omega), t2.1]
      · refine am_C_mk hC (fun k j hk => by rw [si_row (by omega)]; exact t6 k j (by omega)) ?_ (by rw [si_at, if_pos ⟨rfl, rfl⟩]) ?_ hist2
        · rw [← a2]
          exact ⟨by rw [si_row (by omega)]; exact hrs1.1, fun i hi => by rw [si_row (by omega)]; exact hrs1.2 i hi⟩
        · obtain ⟨b1, b2, b3⟩ := t2
          refine ⟨by rw [si_row (by omega)]; exact b1, b2, fun i hi => ?_⟩
          rw [si_row (by omega), si_row (by omega), si_row (by omega)]
          exact b3 i hi
      · intro k j hk h29
        rw [si_row (by omega), t6 k j (by omega)]
      · rw [si_l, t7]
      · rw [si_at, if_neg (by omega), t6 k j (by omega)]
    · -- an added rule goes
      dsimp only at a2 a4
      have hplen : d.2.1 < A.2.1.length := by rw [a4, List.length_append, a3, List.length_singleton]; omega
      obtain ⟨σ2, d1, d2, d3⟩ := drop_ok (p := d.2.1) hrs1 hplen hA.2.2.1
      have her : A.2.1.eraseIdx d.2.1 = o.1 := by rw [a4, a3, er_end]
      rw [her] at d2
      have f3 : ∀ k j, k ≠ 13 → k ≠ 4 → (k ≠ 3 ∨ j ≠ 3) → ((k ≠ 0 ∨ (j ≠ 8 ∧ j ≠ 11)) ∧ k ≠ 29) → (fg_st σ2).1 k j = σ.1 k j := fun k j x1 x2 x3 x4 => (fg_at x4).trans ((d3.1 k j x2 x3).trans (t6 k j x1))
      have hhs : hs_ok (fg_st σ2) ds := fg_hs (by
        obtain ⟨b1, b2, b3⟩ := t2
        refine ⟨(d3.1 13 0 (by omega) (by omega)).trans b1, b2, fun i hi => ?_⟩
        rw [d3.1 14 i (by omega) (by omega), d3.1 15 i (by omega) (by omega), d3.1 16 i (by omega) (by omega)]
        exact b3 i hi)
      refine fin (fg_st σ2) ?_ ?_ ?_ ?_ (Or.inr fg_fg)
      · unfold f_Frame_undo f_Frame_undo_B98
        rw [show ja_q 0 5 = 13 from rfl, show ja_q 0 3 = 3 from rfl, t1, Option.bind_some, if_neg i1n0, t3, a1, if_neg (show ¬ nI 1 = 0 by decide +kernel), if_pos (show nI 1 = 1 by decide +kernel), t4, d1, Option.bind_some, forgetF, Option.bind_some, hhs.1]
      · exact am_C_mk hC (fun k j hk => f3 k j (by omega) (by omega) (by omega) (by omega)) ⟨(fg_at (by omega)).trans d2.1, fun i hi => (fg_at (by omega)).trans (d2.2 i hi)⟩ (by rw [fg_at (by omega), d3.1 0 6 (by omega) (by omega), c6, a2]) hhs hist2
      · intro k j hk h29
        exact f3 k j (by omega) (by omega) (by omega) (by omega)
      · unfold fg_st
        rw [si_l, si_l, si_l, d3.2, t7]
    · -- a removed rule comes back
      dsimp only at a2 a4
      have hol := (List.getElem?_eq_some_iff.mp a5).1
      have hnl : A.2.1.length = o.1.length - 1 := by rw [a4, er_len a3]
      obtain ⟨σ2, d1, d2, d3⟩ := insert_ok (p := d.2.1) (r := r) hrs1 (by omega) (by omega)
      have her : am_ins A.2.1 d.2.1 r = o.1 := by rw [a4]; exact ins_er a5
      rw [her] at d2
      have f3 : ∀ k j, k ≠ 13 → k ≠ 4 → (k ≠ 3 ∨ j ≠ 3) → ((k ≠ 0 ∨ (j ≠ 8 ∧ j ≠ 11)) ∧ k ≠ 29) → (fg_st σ2).1 k j = σ.1 k j := fun k j x1 x2 x3 x4 => (fg_at x4).trans ((d3.1 k j x2 x3).trans (t6 k j x1))
      have hhs : hs_ok (fg_st σ2) ds := fg_hs (by
        obtain ⟨b1, b2, b3⟩ := t2
        refine ⟨(d3.1 13 0 (by omega) (by omega)).trans b1, b2, fun i hi => ?_⟩
        rw [d3.1 14 i (by omega) (by omega), d3.1 15 i (by omega) (by omega), d3.1 16 i (by omega) (by omega)]
        exact b3 i hi)
      refine fin (fg_st σ2) ?_ ?_ ?_ ?_ (Or.inr fg_fg)
      · unfold f_Frame_undo f_Frame_undo_B98
        rw [show ja_q 0 5 = 13 from rfl, show ja_q 0 3 = 3 from rfl, t1, Option.bind_some, if_neg i1n0, t3, a1, if_neg (show ¬ nI 2 = 0 by decide +kernel), if_neg (show ¬ nI 2 = 1 by decide +kernel), t4, t5, a6, d1, Option.bind_some, forgetF, Option.bind_some, hhs.1]
      · exact am_C_mk hC (fun k j hk => f3 k j (by omega) (by omega) (by omega) (by omega)) ⟨(fg_at (by omega)).trans d2.1, fun i hi => (fg_at (by omega)).trans (d2.2 i hi)⟩ (by rw [fg_at (by omega), d3.1 0 6 (by omega) (by omega), c6, a2]) hhs hist2
      · intro k j hk h29
        exact f3 k j (by omega) (by omega) (by omega) (by omega)
      · unfold fg_st
        rw [si_l, si_l, si_l, d3.2, t7]
end C17
