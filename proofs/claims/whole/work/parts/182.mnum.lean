/-! numbers, words and semicolons of the reference -/
section MNU
variable {f : Nat → Nat} {n : Nat} {τ : ja_S}
theorem mt_fr {τ' : ja_S} {s : Nat} (h : mt_ok f n τ s) (h1 : ∀ j, (j = 12 ∨ j = 13 ∨ j = 14 ∨ j = 15) → τ'.1 45 j = τ.1 45 j) (h2 : ∀ j, τ'.1 51 j = τ.1 51 j) : mt_ok f n τ' s := by
  obtain ⟨⟨b1, b2, b3, b4, b5, b6⟩, b7, b8⟩ := h
  exact ⟨⟨(h1 12 (by omega)).trans b1, (h1 13 (by omega)).trans b2, fun i hi => (h2 i).trans (b3 i hi), b4, b5, b6⟩, (h1 14 (by omega)).trans b7, (h1 15 (by omega)).trans b8⟩
theorem mz0 {p : Nat} (h : mzp_ok f n τ p) : τ.1 45 14 = 0 := by obtain ⟨s, h1, _⟩ := h; exact h1.2.1
theorem mzp_le {p : Nat} (h : mzp_ok f n τ p) : p ≤ n := by obtain ⟨s, _, _, h3⟩ := h; exact h3
theorem mnum_L37 {q : Nat} {lo hi : Int32} (hq : pz_d f n q = true) : ∀ (d k j : Nat) (τ : ja_S), mt_ok f n τ (q + j) → τ.1 45 16 = nI q → q + j + d = pz_dg f n q → d < k → ∃ τ', f_Model_number_L37 k 45 lo hi (nI (pz_v f q (min j 4))) τ = f_Model_number_B114 45 lo hi (nI (pz_v f q (min (pz_dg f n q - q) 4))) τ' ∧ mt_ok f n τ' (pz_dg f n q) ∧ τ'.1 45 16 = nI q ∧ fr_mp τ τ' := by
  obtain ⟨t1, t2, t3, t4⟩ := dg_te hq
  have hall : ∀ i, i < pz_dg f n q - q → pz_D (f (q + i)) = true := fun i hi => end_all (P := fun i => pz_D (f i)) (n := n) (p := q) (by omega) (by unfold pz_dg at hi; omega)
  intro d
  induction d with
  | zero =>
    intro k j τ h h16 hj hk
    obtain ⟨k, rfl⟩ : ∃ t, k = t + 1 := ⟨k - 1, by omega⟩
    obtain ⟨h1, h2, h3, h4, h5, h6⟩ := id h.1
    refine ⟨τ, ?_, by rw [show pz_dg f n q = q + j by omega]; exact h, h16, fr_mp_rf⟩
    rw [f_Model_number_L37, h1, h2, show ja_q 45 10 = 51 from rfl, show pz_dg f n q - q = j by omega]
    by_cases c : q + j < n
    · have hst : pz_D (f (pz_dg f n q)) = false := end_stop (P := fun i => pz_D (f i)) (by omega) (show pz_dg f n q < n by omega)
      have hv : f_Model_isIn (nI (f (q + j))).toInt64 48 57 τ = some (am_bz false, τ) := by
        have := pzi_in (f := f) (n := n) (σ := τ) (a := 48) (b := 57) (i := q + j) h5 (by omega) (by omega) rfl rfl
        rw [pz_i_lt c, decide_eq_true c, Bool.true_and] at this
        rw [show decide (48 ≤ f (q + j) ∧ f (q + j) ≤ 57) = pz_D (f (q + j)) from rfl, show q + j = pz_dg f n q by omega, hst] at this
        rw [show q + j = pz_dg f n q by omega]
        exact this
      rw [if_neg (nI_ge c (by omega)), mld h.1 c, Option.bind_some, hv, Option.bind_some, if_pos (am_bz0.mpr rfl)]
    · rw [if_pos (nI_le (by omega) (by omega))]
  | succ d ih =>
    intro k j τ h h16 hj hk
    obtain ⟨k, rfl⟩ : ∃ t, k = t + 1 := ⟨k - 1, by omega⟩
    obtain ⟨h1, h2, h3, h4, h5, h6⟩ := id h.1
    have c : q + j < n := by omega
    have hD := hall j (by omega)
    have hD' := of_decide_eq_true hD
    have hv : f_Model_isIn (nI (f (q + j))).toInt64 48 57 τ = some (am_bz true, τ) := by
      have := pzi_in (f := f) (n := n) (σ := τ) (a := 48) (b := 57) (i := q + j) h5 (by omega) (by omega) rfl rfl
      rw [pz_i_lt c, decide_eq_true c, Bool.true_and] at this
      rw [show decide (48 ≤ f (q + j) ∧ f (q + j) ≤ 57) = pz_D (f (q + j)) from rfl, hD] at this
      exact this
    have hs : ∀ x : Int32, f_Model_number_B101 (f_Model_number_L37 k) 45 lo hi x τ = f_Model_number_L37 k 45 lo hi x (ja_si τ 45 13 (nI (q + j + 1))) := by
      intro x
      unfold f_Model_number_B101 ja_pu
      rw [Option.bind_some, h2, nI_1]
    obtain ⟨τ', e1, e2, e3, e4⟩ := ih k (j + 1) (ja_si τ 45 13 (nI (q + j + 1))) (mt_si h (by omega)) (by rw [si_at, if_neg (by omega)]; exact h16) (by omega) (by omega)
    refine ⟨τ', ?_, e2, e3, fr_mp_tr (fr_mp_si (by omega)) e4⟩
    rw [f_Model_number_L37, h1, h2, show ja_q 45 10 = 51 from rfl, if_neg (nI_ge c (by omega)), mld h.1 c, Option.bind_some, hv, Option.bind_some, if_neg bz1, h16, h2, pk_sub (by omega), show q + j - q = j by omega, show (4 : Int32) = nI 4 by decide +kernel]
    by_cases c4 : 4 ≤ j
    · rw [if_pos (nI_le c4 (by omega)), hs]
      rw [show min (j + 1) 4 = min j 4 by omega] at e1
      exact e1
    · have hvs : pz_v f q (j + 1) = 10 * pz_v f q j + (f (q + j) - 48) := rfl
      rw [if_neg (nI_ge (by omega) (by omega)), mld h.1 c, Option.bind_some, show min j 4 = j by omega, show (10 : Int32) = nI 10 by decide +kernel, pk_mul, nI_add, show (48 : Int32) = nI 48 by decide +kernel, pk_sub (by omega), show 10 * pz_v f q j + f (q + j) - 48 = pz_v f q (j + 1) by rw [hvs]; omega, hs]
      rw [show min (j + 1) 4 = j + 1 by omega] at e1
      exact e1
theorem mnum_e {x1 x2 : Int32} {e : Nat × Nat} (h : fe_ok τ e) : f_Model_number 45 x1 x2 τ = some (x1, τ) := by
  unfold f_Model_number
  rw [if_neg (fe_n0 h)]
theorem mnum_ok {p lo h : Nat} {x2 : Int32} (hx : x2.toInt = (h : Int) - 1) (hlo : lo < 100) (hm : mzp_ok f n τ p) : (∃ e, pz_num f n lo h p = Sum.inl e ∧ ∃ τ', f_Model_number 45 (nI lo) x2 τ = some (nI lo, τ') ∧ fe_ok τ' e ∧ fr_mp τ τ') ∨ ∃ v p1, pz_num f n lo h p = Sum.inr (v, p1) ∧ v < h ∧ lo ≤ v ∧ p < p1 ∧ ∃ τ', f_Model_number 45 (nI lo) x2 τ = some (nI v, τ') ∧ mt_ok f n τ' p1 ∧ τ'.1 45 16 = nI (pz_sk f n p) ∧ fr_mp τ τ' := by
  obtain ⟨τ1, e1, e2, e3⟩ := isDig_ok hm
  have hpn := mzp_le hm
  have hsk := sk_le (f := f) hpn
  have h900 := e2.1.2.2.2.1
  unfold f_Model_number
  rw [if_pos (mz0 hm), e1, Option.bind_some]
  cases hd : pz_d f n (pz_sk f n p) with
  | false =>
    refine Or.inl ⟨(1, pz_sk f n p), ?_, fl_st τ1 (nI 1) (nI (pz_sk f n p)), ?_, fl_fe (by omega) (by omega), fr_mp_tr e3 fl_fr⟩
    · unfold pz_num
      rw [hd, if_neg (fun z => by cases z)]
    · rw [if_pos (am_bz0.mpr rfl), fails0 e2.2.1, Option.bind_some, e2.1.2.1]
      rfl
  | true =>
    obtain ⟨t1, t2, t3, t4⟩ := dg_te hd
    have hall : ∀ i, i < pz_dg f n (pz_sk f n p) - pz_sk f n p → pz_D (f (pz_sk f n p + i)) = true := fun i hi => end_all (P := fun i => pz_D (f i)) (n := n) (p := pz_sk f n p) (by omega) (by unfold pz_dg at hi; omega)
    have hv := v_le (f := f) (q := pz_sk f n p) (min (pz_dg f n (pz_sk f n p) - pz_sk f n p) 4) (by omega) (fun i hi => hall i (by omega))
    obtain ⟨τ2, g1, g2, g3, g4⟩ := mnum_L37 (lo := nI lo) (hi := x2) hd (pz_dg f n (pz_sk f n p) - pz_sk f n p) ja_FU 0 (ja_si τ1 45 16 (nI (pz_sk f n p))) (mt_16 e2) (by rw [si_at, if_pos ⟨rfl, rfl⟩]) (by omega) (by unfold ja_FU; omega)
    have hz : nI (pz_v f (pz_sk f n p) (min 0 4)) = 0 := am_z.symm
    rw [hz] at g1
    have hfr : fr_mp τ τ2 := fr_mp_tr e3 (fr_mp_tr (fr_mp_si (by omega)) g4)
    unfold ja_pu
    rw [if_neg bz1, Option.bind_some, e2.1.2.1, g1]
    obtain ⟨v, hv0⟩ : ∃ v, v = pz_v f (pz_sk f n p) (min (pz_dg f n (pz_sk f n p) - pz_sk f n p) 4) := ⟨_, rfl⟩
    have hbad : f_Model_number_B139 45 (nI lo) (nI v) τ2 = some (nI lo, fl_st τ2 (nI 2) (nI (pz_sk f n p))) := by
      unfold f_Model_number_B139 f_Model_number_B148
      rw [fails0 g2.2.1, Option.bind_some, g3]
      exact if_neg (fe_n0 (fl_fe (c := 2) (o := pz_sk f n p) (by omega) (by omega)))
    have bad : ¬ (pz_dg f n (pz_sk f n p) - pz_sk f n p ≤ 4 ∧ lo ≤ v ∧ v < h) → pz_num f n lo h p = Sum.inl (2, pz_sk f n p) := by
      intro hb
      unfold pz_num
      rw [if_pos hd, ← hv0, if_neg hb]
    rw [← hv0] at hv ⊢
    unfold f_Model_number_B114
    rw [g2.1.2.1, g3, pk_sub (by omega), show (4 : Int32) = nI 4 by decide +kernel]
    by_cases c1 : 4 < pz_dg f n (pz_sk f n p) - pz_sk f n p
    · rw [if_pos (nI_lt c1 (by omega)), hbad]
      exact Or.inl ⟨_, bad (by omega), _, rfl, fl_fe (by omega) (by omega), fr_mp_tr hfr fl_fr⟩
    · rw [if_neg (nI_nlt (by omega) (by omega)), isIn2, Option.bind_some, nI_toInt (by omega), nI_toInt (by omega), hx]
      by_cases c2 : lo ≤ v ∧ v < h
      · rw [decide_eq_true (by omega), if_neg bz1]
        refine Or.inr ⟨v, pz_dg f n (pz_sk f n p), ?_, c2.2, c2.1, by omega, τ2, ?_, g2, g3, hfr⟩
        · unfold pz_num
          rw [if_pos hd, ← hv0, if_pos ⟨by omega, c2⟩]
        · unfold f_Model_number_B148
          rw [if_pos g2.2.1]
      · rw [decide_eq_false (by omega), if_pos (am_bz0.mpr rfl), hbad]
        exact Or.inl ⟨_, bad (by omega), _, rfl, fl_fe (by omega) (by omega), fr_mp_tr hfr fl_fr⟩
theorem lever_e {e : Nat × Nat} (h : fe_ok τ e) : f_Model_lever 45 τ = some (0, τ) := by
  unfold f_Model_lever
  rw [mnum_e h, Option.bind_some]
theorem mlv_ok {p N : Nat} (hN : τ.1 45 17 = nI N) (h12 : N ≤ 12) (hm : mzp_ok f n τ p) : (∃ e, pz_num f n 0 N p = Sum.inl e ∧ ∃ τ', f_Model_lever 45 τ = some (0, τ') ∧ fe_ok τ' e ∧ fr_mp τ τ') ∨ ∃ v p1, pz_num f n 0 N p = Sum.inr (v, p1) ∧ v < N ∧ p < p1 ∧ ∃ τ', f_Model_lever 45 τ = some (nI v, τ') ∧ mt_ok f n τ' p1 ∧ τ'.1 45 16 = nI (pz_sk f n p) ∧ fr_mp τ τ' := by
  unfold f_Model_lever
  have h0 := mnum_ok (lo := 0) (h := N) (x2 := nI N - 1) (nI_dec (by omega)) (by omega) hm
  rw [← am_z] at h0
  rw [hN]
  rcases h0 with ⟨e, e1, τ', e2, e3, e4⟩ | ⟨v, p1, e1, e2, e3, e5, τ', e6, e7, e8, e9⟩
  · exact Or.inl ⟨e, e1, τ', by rw [e2, Option.bind_some], e3, e4⟩
  · exact Or.inr ⟨v, p1, e1, e2, e5, τ', by rw [e6, Option.bind_some], e7, e8, e9⟩
theorem word_e {e : Nat × Nat} (h : fe_ok τ e) : f_Model_wordHere 45 τ = some (-1, τ) := by
  unfold f_Model_wordHere
  rw [if_neg (fe_n0 h)]
theorem isDig_e {e : Nat × Nat} (h : fe_ok τ e) : f_Model_isDigitHere 45 τ = some (0, τ) := by
  unfold f_Model_isDigitHere
  rw [if_neg (fe_n0 h)]
theorem passes_e {x1 x2 : Int32} {e : Nat × Nat} (h : fe_ok τ e) : f_Model_passes 45 x1 x2 τ = some (x1, τ) := by
  unfold f_Model_passes f_Model_passes_B33 f_Model_passes_B53
  rw [word_e h, Option.bind_some, if_neg (fe_n0 h), if_neg (fe_n0 h), if_neg (fe_n0 h)]
theorem semi_e {e : Nat × Nat} (h : fe_ok τ e) : ∃ τ', f_Model_semicolon 45 τ = some τ' ∧ fe_ok τ' e ∧ fr_mp τ τ' := by
  unfold f_Model_semicolon f_Model_semicolon_B25 ja_pu
  rw [if_neg (fe_n0 h), Option.bind_some]
  exact ⟨_, rfl, fe_p h (by rw [si_at, if_neg (by omega)]) (by rw [si_at, if_neg (by omega)]), fr_mp_si (by omega)⟩
theorem io_lt9 {q : Nat} : (am_io (pz_wd f n q)).toInt = match pz_wd f n q with
  | none => -1
  | some i => (i : Int) := by
  cases h : pz_wd f n q with
  | none => exact (by decide +kernel : (-1 : Int32).toInt = -1)
  | some i =>
    have := wd_lt h
    exact nI_toInt (by omega)
theorem passes_ok {p lo hi : Nat} {x1 x2 : Int32} (h1 : x1 = nI lo) (h2 : x2 = nI hi) (hlo : lo < 9) (hhi : hi < 9) (hm : mzp_ok f n τ p) : (∃ i, lo ≤ i ∧ i ≤ hi ∧ pz_wd f n (pz_sk f n p) = some i ∧ ∃ τ', f_Model_passes 45 x1 x2 τ = some (nI i, τ') ∧ mt_ok f n τ' (pz_te f n (pz_sk f n p)) ∧ fr_mp τ τ') ∨ ((∀ i, lo ≤ i → i ≤ hi → ¬ pz_wd f n (pz_sk f n p) = some i) ∧ ∃ τ', f_Model_passes 45 x1 x2 τ = some (nI lo, τ') ∧ fe_ok τ' (1, pz_sk f n p) ∧ fr_mp τ τ') := by
  obtain ⟨τ1, e1, e2, e3⟩ := word_ok hm
  have hsk := sk_le (f := f) (mzp_le hm)
  have h900 := e2.1.2.2.2.1
  unfold f_Model_passes
  rw [e1, Option.bind_some, if_pos e2.2.1, h1, h2, isIn2, Option.bind_some, nI_toInt (by omega), nI_toInt (by omega), io_lt9]
  have hbad : ∀ x : Int32, ((f_Model_fails 45 1 (τ1.1 45 13) τ1).bind fun v3 => f_Model_passes_B33 45 (nI lo) x v3) = some (nI lo, fl_st τ1 (nI 1) (nI (pz_sk f n p))) := by
    intro x
    have hfe := fl_fe (τ := τ1) (c := 1) (o := pz_sk f n p) (by omega) (by omega)
    have := fe_n0 hfe
    unfold f_Model_passes_B33 f_Model_passes_B53
    rw [fails0 e2.2.1, Option.bind_some, e2.1.2.1, show (1 : Int32) = nI 1 by decide +kernel, if_neg this, if_neg this]
  cases hw : pz_wd f n (pz_sk f n p) with
  | none =>
    dsimp only
    rw [decide_eq_false (by omega), if_pos (am_bz0.mpr rfl), hbad]
    exact Or.inr ⟨(fun i _ _ z => by cases z), _, rfl, fl_fe (by omega) (by omega), fr_mp_tr e3 fl_fr⟩
  | some i =>
    dsimp only
    have hi9 := wd_lt hw
    by_cases c : lo ≤ i ∧ i ≤ hi
    · obtain ⟨a1, a2, a3⟩ := w_let hi9 hsk.2 ((wd_iff hi9).mp hw)
      have hle : pz_sk f n p ≤ pz_lt f n (pz_sk f n p) ∧ pz_lt f n (pz_sk f n p) ≤ n := end_le hsk.2
      refine Or.inl ⟨i, c.1, c.2, rfl, ja_si τ1 45 13 (nI (pz_lt f n (pz_sk f n p))), ?_, ?_, fr_mp_tr e3 (fr_mp_si (by omega))⟩
      · unfold f_Model_passes_B33 f_Model_passes_B53 ja_pu
        rw [decide_eq_true (by omega), if_neg bz1, if_pos e2.2.1, lets_ok e2.1, Option.bind_some, e2.1.2.1, nI_add, Option.bind_some, show pz_sk f n p + (pz_lt f n (pz_sk f n p) - pz_sk f n p) = pz_lt f n (pz_sk f n p) by omega]
        exact if_pos (mt_si e2 hle.2).2.1
      · rw [a3]
        exact mt_si e2 hle.2
    · rw [decide_eq_false (by omega), if_pos (am_bz0.mpr rfl), hbad]
      exact Or.inr ⟨(fun j h3 h4 z => by cases z; exact c ⟨h3, h4⟩), _, rfl, fl_fe (by omega) (by omega), fr_mp_tr e3 fl_fr⟩
theorem msemi_ok {p : Nat} (hm : mzp_ok f n τ p) : (pz_sc f n p = true ∧ ∃ τ', f_Model_semicolon 45 τ = some τ' ∧ mt_ok f n τ' (pz_sk f n p + 1) ∧ fr_mp τ τ') ∨ (pz_sc f n p = false ∧ ∃ τ', f_Model_semicolon 45 τ = some τ' ∧ fe_ok τ' (1, pz_sk f n p) ∧ fr_mp τ τ') := by
  obtain ⟨τ1, e1, e2, e3⟩ := peek_ok hm
  have hsk := sk_le (f := f) (mzp_le hm)
  have h900 := e2.1.2.2.2.1
  unfold f_Model_semicolon f_Model_semicolon_B25 ja_pu
  rw [if_pos (mz0 hm), e1, Option.bind_some]
  have hcd : (pz_i f n (pz_sk f n p) = 59) ↔ pz_sc f n p = true := by
    unfold pz_i pz_sc
    rw [Bool.and_eq_true, decide_eq_true_iff, beq_iff_eq]
    by_cases c : pz_sk f n p < n
    · have := e2.1.2.2.2.2.1 _ c
      rw [if_pos c, show (59 : Int32) = nI 59 by decide +kernel]
      constructor
      · intro z
        by_cases c2 : f (pz_sk f n p) = 59
        · exact ⟨c, c2⟩
        · exact absurd z (nI_ne c2 (by omega) (by omega))
      · rintro ⟨_, z⟩
        rw [z]
    · rw [if_neg c]
      exact ⟨fun z => absurd z (by decide), fun z => absurd z.1 c⟩
  by_cases hc : pz_sc f n p = true
  · have hlt := sc_lt hc
    rw [if_pos (hcd.mpr hc), Option.bind_some, e2.1.2.1, nI_1]
    exact Or.inl ⟨hc, _, rfl, mt_si e2 (by omega), fr_mp_tr e3 (fr_mp_si (by omega))⟩
  · have hc' : pz_sc f n p = false := by simpa using hc
    have hfe := fl_fe (τ := τ1) (c := 1) (o := pz_sk f n p) (by omega) (by omega)
    rw [if_neg (fun z => hc (hcd.mp z)), fails0 e2.2.1, Option.bind_some, Option.bind_some, e2.1.2.1]
    exact Or.inr ⟨hc', _, rfl, fe_p hfe (by rw [si_at, if_neg (by omega)]; rfl) (by rw [si_at, if_neg (by omega)]; rfl), fr_mp_tr e3 (fr_mp_tr fl_fr (fr_mp_si (by omega)))⟩
end MNU
