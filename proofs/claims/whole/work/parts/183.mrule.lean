/-! the reference reads a rule -/
/-- what the reference has read so far -/
def mn_ok (τ : ja_S) (N : Nat) (S : pz_S) : Prop := τ.1 45 17 = nI N ∧ τ.1 45 18 = nI S.1.length ∧ am_r4 (τ.1 52) 0 S.1 ∧ τ.1 45 19 = nI S.2.1.length ∧ am_row (τ.1 53) S.2.1 ∧ τ.1 45 20 = nI S.2.2.length ∧ am_row (τ.1 54) (S.2.2.map (fun q => q.1)) ∧ am_row (τ.1 55) (S.2.2.map (fun q => q.2))
/-- only what is being read changes -/
def fr_mx (τ τ' : ja_S) : Prop := (∀ k j, (k < 52 ∨ 55 < k) → (k ≠ 45 ∨ j < 13 ∨ 20 < j) → τ'.1 k j = τ.1 k j) ∧ τ'.2 = τ.2
theorem fr_mx_tr {a b c : ja_S} (h1 : fr_mx a b) (h2 : fr_mx b c) : fr_mx a c := ⟨fun k j x y => (h2.1 k j x y).trans (h1.1 k j x y), h2.2.trans h1.2⟩
theorem fr_mx_p {a b : ja_S} (h : fr_mp a b) : fr_mx a b := ⟨fun k j _ y => h.1 k j (by omega), h.2⟩
theorem mn_fr {τ τ' : ja_S} {N : Nat} {S : pz_S} (h : mn_ok τ N S) (h1 : ∀ j, 17 ≤ j → j ≤ 20 → τ'.1 45 j = τ.1 45 j) (h2 : ∀ k j, 52 ≤ k → k ≤ 55 → τ'.1 k j = τ.1 k j) : mn_ok τ' N S := by
  unfold mn_ok at h ⊢
  rw [h1 17 (by omega) (by omega), h1 18 (by omega) (by omega), h1 19 (by omega) (by omega), h1 20 (by omega) (by omega), show τ'.1 52 = τ.1 52 from funext fun j => h2 52 j (by omega) (by omega), show τ'.1 53 = τ.1 53 from funext fun j => h2 53 j (by omega) (by omega), show τ'.1 54 = τ.1 54 from funext fun j => h2 54 j (by omega) (by omega), show τ'.1 55 = τ.1 55 from funext fun j => h2 55 j (by omega) (by omega)]
  exact h
theorem mn_p {τ τ' : ja_S} {N : Nat} {S : pz_S} (h : mn_ok τ N S) (hf : fr_mp τ τ') : mn_ok τ' N S := mn_fr h (fun j a b => hf.1 45 j (by omega)) (fun k j a b => hf.1 k j (by omega))
section MRU
variable {f : Nat → Nat} {n : Nat} {τ : ja_S} {N : Nat} {S : pz_S}
theorem B135_e {x1 x2 x3 x4 : Int32} {e : Nat × Nat} (h : fe_ok τ e) : f_Model_ruleLine_B135 45 x1 x2 x3 x4 τ = some τ := by
  unfold f_Model_ruleLine_B135
  rw [if_neg (fe_n0 h)]
theorem B117_e {x1 x2 x3 x4 : Int32} {e : Nat × Nat} (h : fe_ok τ e) : f_Model_ruleLine_B117 45 x1 x2 x3 x4 τ = some τ := by
  unfold f_Model_ruleLine_B117
  rw [passes_e h, Option.bind_some, B135_e h]
theorem B59_e {x1 x2 x3 : Int32} {e : Nat × Nat} (h : fe_ok τ e) : f_Model_ruleLine_B59 45 x1 x2 x3 τ = some τ := by
  unfold f_Model_ruleLine_B59
  rw [word_e h, Option.bind_some, if_neg (show ¬ (-1 : Int32) = 3 by decide), B135_e h]
theorem B23_e {x1 : Int32} {e : Nat × Nat} (h : fe_ok τ e) : f_Model_ruleLine_B23 45 x1 τ = some τ := by
  unfold f_Model_ruleLine_B23
  rw [passes_e h, Option.bind_some, lever_e h, Option.bind_some, if_neg (fe_n0 h), B59_e h]
/-- the rule goes in -/
theorem B135_ok {k a b c s : Nat} {x1 x2 x3 x4 : Int32} (hx1 : x1 = nI a) (hx2 : x2 = nI k) (hx3 : x3 = nI b) (hx4 : x4 = am_cd c) (hm : mt_ok f n τ s) (hS : mn_ok τ N S) (hl : S.1.length < 24) : ∃ τ', f_Model_ruleLine_B135 45 x1 x2 x3 x4 τ = some τ' ∧ mt_ok f n τ' s ∧ mn_ok τ' N (S.1 ++ [(k, a, b, c)], S.2.1, S.2.2) ∧ fr_mx τ τ' := by
  obtain ⟨g1, g2, g3, g4, g5, g6, g7, g8⟩ := hS
  obtain ⟨m, hm0⟩ : ∃ m, m = S.1.length := ⟨_, rfl⟩
  rw [← hm0] at g2 hl
  unfold f_Model_ruleLine_B135 ja_pu
  rw [if_pos hm.2.1, hx1, hx2, hx3, hx4, show ja_q 45 21 = 52 from rfl, show (4 : Int32) = nI 4 by decide +kernel, show (1 : Int32) = nI 1 by decide +kernel, show (2 : Int32) = nI 2 by decide +kernel, show (3 : Int32) = nI 3 by decide +kernel, g2, pk_mul, st0' (N := 100) rfl (by omega) (by omega), Option.bind_some, si_row (by omega), g2, pk_mul, nI_add, st0' (N := 100) rfl (by omega) (by omega), Option.bind_some, si_row (by omega), si_row (by omega), g2, pk_mul, nI_add, st0' (N := 100) rfl (by omega) (by omega), Option.bind_some, si_row (by omega), si_row (by omega), si_row (by omega), g2, pk_mul, nI_add, st0' (N := 100) rfl (by omega) (by omega), Option.bind_some, si_row (by omega), si_row (by omega), si_row (by omega), si_row (by omega), g2, nI_add, Option.bind_some]
  obtain ⟨τ', hτ⟩ : ∃ t : ja_S, t = ja_si (ja_si (ja_si (ja_si (ja_si τ 52 (4 * m) (nI k)) 52 (4 * m + 1) (nI a)) 52 (4 * m + 2) (nI b)) 52 (4 * m + 3) (am_cd c)) 45 18 (nI (m + 1)) := ⟨_, rfl⟩
  have hfr : ∀ k j, k ≠ 52 → (k ≠ 45 ∨ j ≠ 18) → τ'.1 k j = τ.1 k j := fun k j x y => by
    rw [hτ, si_at, if_neg (by omega), si_row x, si_row x, si_row x, si_row x]
  have h52 : ∀ j, τ'.1 52 j = if j = 4 * m + 3 then am_cd c else if j = 4 * m + 2 then nI b else if j = 4 * m + 1 then nI a else if j = 4 * m then nI k else τ.1 52 j := fun j => by
    rw [hτ, si_row (by omega), si_at, si_at, si_at, si_at]
    simp only [true_and]
  refine ⟨τ', by rw [hτ], mt_fr hm (fun j hj => hfr 45 j (by omega) (by omega)) (fun j => hfr 51 j (by omega) (by omega)), ⟨(hfr 45 17 (by omega) (by omega)).trans g1, ?_, ?_, (hfr 45 19 (by omega) (by omega)).trans g4, fun i hi => (hfr 53 i (by omega) (by omega)).trans (g5 i hi), (hfr 45 20 (by omega) (by omega)).trans g6, fun i hi => (hfr 54 i (by omega) (by omega)).trans (g7 i hi), fun i hi => (hfr 55 i (by omega) (by omega)).trans (g8 i hi)⟩, fun k j x y => hfr k j (by omega) (by omega), by rw [hτ]; rfl⟩
  · show τ'.1 45 18 = nI (S.1 ++ [(k, a, b, c)]).length
    rw [List.length_append, List.length_singleton, ← hm0, hτ, si_at, if_pos ⟨rfl, rfl⟩]
  · intro i hi
    have hi' : i < m + 1 := by
      have : i < (S.1 ++ [(k, a, b, c)]).length := hi
      rw [List.length_append, List.length_singleton] at this
      omega
    show _ = nI ((S.1 ++ [(k, a, b, c)]).getD i (0, 0, 0, 0)).1 ∧ _ = nI ((S.1 ++ [(k, a, b, c)]).getD i (0, 0, 0, 0)).2.1 ∧ _ = nI ((S.1 ++ [(k, a, b, c)]).getD i (0, 0, 0, 0)).2.2.1 ∧ _ = am_cd ((S.1 ++ [(k, a, b, c)]).getD i (0, 0, 0, 0)).2.2.2
    rw [rd_app, ← hm0, h52, h52, h52, h52]
    by_cases c1 : i < m
    · have := g3 i (by omega)
      rw [if_pos c1, if_neg (by omega), if_neg (by omega), if_neg (by omega), if_neg (by omega), if_neg (by omega), if_neg (by omega), if_neg (by omega), if_neg (by omega), if_neg (by omega), if_neg (by omega), if_neg (by omega), if_neg (by omega), if_neg (by omega), if_neg (by omega), if_neg (by omega), if_neg (by omega)]
      exact this
    · have c2 : i = m := by omega
      rw [if_neg c1, if_pos c2]
      refine ⟨?_, ?_, ?_, ?_⟩
      · rw [if_neg (by omega), if_neg (by omega), if_neg (by omega), if_pos (by omega)]
      · rw [if_neg (by omega), if_neg (by omega), if_pos (by omega)]
      · rw [if_neg (by omega), if_pos (by omega)]
      · rw [if_pos (by omega)]
/-- behind when -/
theorem mcond_ok {k a b p : Nat} (hN : N ≤ 12) (ha : a < N) (hb : b < N) (hm : mzp_ok f n τ p) (hS : mn_ok τ N S) (hl : S.1.length < 24) {F : ja_S → Option ja_S} (hF : F = fun τ => (f_Model_lever 45 τ).bind fun v4 => (if (v4.2.1 45 14) = 0 then (if v4.1 = nI a then f_Model_ruleLine_B108 45 (nI a) (nI k) (nI b) v4.1 v4.2 else (if v4.1 = nI b then f_Model_ruleLine_B108 45 (nI a) (nI k) (nI b) v4.1 v4.2 else f_Model_ruleLine_B117 45 (nI a) (nI k) (nI b) v4.1 v4.2)) else f_Model_ruleLine_B117 45 (nI a) (nI k) (nI b) v4.1 v4.2)) : (∃ e, pz_cond f n N a b p = Sum.inl e ∧ ∃ τ', F τ = some τ' ∧ fe_ok τ' e ∧ fr_mx τ τ') ∨ ∃ c p1, pz_cond f n N a b p = Sum.inr (c, p1) ∧ ∃ τ', F τ = some τ' ∧ mt_ok f n τ' p1 ∧ mn_ok τ' N (S.1 ++ [(k, a, b, c)], S.2.1, S.2.2) ∧ fr_mx τ τ' := by
  rw [hF]
  dsimp only
  unfold pz_cond
  rcases mlv_ok hS.1 hN hm with ⟨e, e1, τ1, e2, e3, e4⟩ | ⟨c, p1, e1, e2, e3, τ1, e4, e5, e6, e7⟩
  · rw [e1, e2, Option.bind_some, if_neg (fe_n0 e3), B117_e e3]
    exact Or.inl ⟨e, rfl, τ1, rfl, e3, fr_mx_p e4⟩
  · rw [e1, e4, Option.bind_some, if_pos e5.2.1]
    dsimp only
    have bad : f_Model_ruleLine_B108 45 (nI a) (nI k) (nI b) (nI c) τ1 = some (fl_st τ1 (nI 3) (nI (pz_sk f n p))) := by
      unfold f_Model_ruleLine_B108
      rw [fails0 e5.2.1, Option.bind_some, e6, show (3 : Int32) = nI 3 by decide +kernel, B117_e (fl_fe (c := 3) (o := pz_sk f n p) (by omega) (by omega))]
    by_cases ca : c = a
    · rw [if_pos (show nI c = nI a by rw [ca]), if_pos (show c = a ∨ c = b from Or.inl ca), bad]
      exact Or.inl ⟨_, rfl, _, rfl, fl_fe (by omega) (by omega), fr_mx_p (fr_mp_tr e7 fl_fr)⟩
    · rw [if_neg (show ¬ nI c = nI a from nI_ne ca (by omega) (by omega))]
      by_cases cb : c = b
      · rw [if_pos (show nI c = nI b by rw [cb]), if_pos (show c = a ∨ c = b from Or.inr cb), bad]
        exact Or.inl ⟨_, rfl, _, rfl, fl_fe (by omega) (by omega), fr_mx_p (fr_mp_tr e7 fl_fr)⟩
      · rw [if_neg (show ¬ nI c = nI b from nI_ne cb (by omega) (by omega)), if_neg (show ¬ (c = a ∨ c = b) by omega)]
        unfold f_Model_ruleLine_B117
        rcases passes_ok (lo := 7) (hi := 8) (x1 := 7) (x2 := 8) (by decide +kernel) (by decide +kernel) (by omega) (by omega) (mt_mq' e5) with ⟨i, i1, i2, i3, τ2, i4, i5, i6⟩ | ⟨i1, τ2, i4, i5, i6⟩
        · rw [i3, i4, Option.bind_some]
          have last : ∀ d, nI 2 * nI c + nI i - nI 7 = am_cd d → ∃ τ', f_Model_ruleLine_B135 45 (nI a) (nI k) (nI b) ((2 : Int32) * nI c + nI i - 7) τ2 = some τ' ∧ mt_ok f n τ' (pz_te f n (pz_sk f n p1)) ∧ mn_ok τ' N (S.1 ++ [(k, a, b, d)], S.2.1, S.2.2) ∧ fr_mx τ τ' := by
            intro d hd
            obtain ⟨τ3, j1, j2, j3, j4⟩ := B135_ok (k := k) (a := a) (b := b) (c := d) (x1 := nI a) (x2 := nI k) (x3 := nI b) (x4 := (2 : Int32) * nI c + nI i - 7) rfl rfl rfl (by rw [← hd]; rfl) i5 (mn_p (mn_p hS e7) i6) hl
            exact ⟨τ3, j1, j2, j3, fr_mx_tr (fr_mx_p (fr_mp_tr e7 i6)) j4⟩
          by_cases c8 : i = 8
          · rw [c8, if_pos rfl, ← c8]
            refine Or.inr ⟨_, _, rfl, last (2 * c + 2) ?_⟩
            rw [c8, pk_mul, nI_add, pk_sub (by omega), cd_pos (by omega), show 2 * c + 8 - 7 = 2 * c + 2 - 1 by omega]
          · have c7 : i = 7 := by omega
            rw [c7, if_neg (by simp), if_pos rfl, ← c7]
            refine Or.inr ⟨_, _, rfl, last (2 * c + 1) ?_⟩
            rw [c7, pk_mul, nI_add, pk_sub (by omega), cd_pos (by omega), show 2 * c + 7 - 7 = 2 * c + 1 - 1 by omega]
        · rw [if_neg (i1 8 (by omega) (by omega)), if_neg (i1 7 (by omega) (by omega)), i4, Option.bind_some, B135_e i5]
          exact Or.inl ⟨_, rfl, τ2, rfl, i5, fr_mx_p (fr_mp_tr e7 i6)⟩
/-- past a word that stands here -/
theorem mword3 {q i : Nat} (hi : i < 9) (hm : mt_ok f n τ q) (hw : pz_wd f n q = some i) : f_Model_lettersHere 45 τ = some (nI (pz_te f n q - q), τ) ∧ mt_ok f n (ja_si τ 45 13 (nI (pz_te f n q))) (pz_te f n q) ∧ q ≤ pz_te f n q := by
  have hq := hm.1.2.2.2.2.2
  obtain ⟨a1, a2, a3⟩ := w_let hi hq ((wd_iff hi).mp hw)
  have hle := te_le (f := f) hq
  rw [a3] at hle ⊢
  exact ⟨lets_ok hm.1, mt_si hm hle.2.1, hle.1⟩
theorem mrule2_ok {k a p : Nat} {F : ja_S → Option ja_S} (hN : N ≤ 12) (ha : a < N) (hk : k < 3) (hm : mzp_ok f n τ p) (hS : mn_ok τ N S) (hl : S.1.length < 24) (hF : F = fun τ => (f_Model_lever 45 τ).bind fun v2 => (if (v2.2.1 45 14) = 0 then (if v2.1 = nI a then (f_Model_fails 45 (3 : Int32) (v2.2.1 45 16) v2.2).bind fun v3 => f_Model_ruleLine_B59 45 (nI a) (nI k) v2.1 v3 else f_Model_ruleLine_B59 45 (nI a) (nI k) v2.1 v2.2) else f_Model_ruleLine_B59 45 (nI a) (nI k) v2.1 v2.2)) : (∃ e, pz_rule2 f n N a k p = Sum.inl e ∧ ∃ τ', F τ = some τ' ∧ fe_ok τ' e ∧ fr_mx τ τ') ∨ ∃ r p1, pz_rule2 f n N a k p = Sum.inr (r, p1) ∧ ∃ τ', F τ = some τ' ∧ mzp_ok f n τ' p1 ∧ mn_ok τ' N (S.1 ++ [r], S.2.1, S.2.2) ∧ fr_mx τ τ' := by
  rw [hF]
  dsimp only
  unfold pz_rule2
  rcases mlv_ok hS.1 hN hm with ⟨e, e1, τ1, e2, e3, e4⟩ | ⟨b, p1, e1, e2, e3, τ1, e4, e5, e6, e7⟩
  · rw [e1, e2, Option.bind_some, if_neg (fe_n0 e3), B59_e e3]
    exact Or.inl ⟨e, rfl, τ1, rfl, e3, fr_mx_p e4⟩
  · rw [e1, e4, Option.bind_some, if_pos e5.2.1]
    dsimp only
    by_cases hab : b = a
    · rw [if_pos (show nI b = nI a by rw [hab]), if_pos hab, fails0 e5.2.1, Option.bind_some, e6, show (3 : Int32) = nI 3 by decide +kernel, B59_e (fl_fe (c := 3) (o := pz_sk f n p) (by omega) (by omega))]
      exact Or.inl ⟨_, rfl, _, rfl, fl_fe (by omega) (by omega), fr_mx_p (fr_mp_tr e7 fl_fr)⟩
    · rw [if_neg (show ¬ nI b = nI a from nI_ne hab (by omega) (by omega)), if_neg hab]
      unfold f_Model_ruleLine_B59 ja_pu
      obtain ⟨τ2, w1, w2, w3⟩ := word_ok (mt_mq' e5)
      have hS2 := mn_p (mn_p hS e7) w3
      have hp1 := e5.1.2.2.2.2.2
      rw [w1, Option.bind_some]
      by_cases hw : pz_wd f n (pz_sk f n p1) = some 3
      · obtain ⟨t1, t2, t3⟩ := mword3 (by omega) w2 hw
        rw [hw, if_pos (show am_io (some 3) = 3 by decide +kernel), if_pos rfl, t1, Option.bind_some, w2.1.2.1, nI_add, Option.bind_some, show pz_sk f n p1 + (pz_te f n (pz_sk f n p1) - pz_sk f n p1) = pz_te f n (pz_sk f n p1) by omega]
        have hfr2 : fr_mp τ (ja_si τ2 45 13 (nI (pz_te f n (pz_sk f n p1)))) := fr_mp_tr e7 (fr_mp_tr w3 (fr_mp_si (by omega)))
        rcases mcond_ok (k := k) (a := a) (b := b) hN ha e2 (mt_mq' t2) (mn_p hS2 (fr_mp_si (by omega))) hl rfl with ⟨e, c1, τ3, c2, c3, c4⟩ | ⟨c, p2, c1, τ3, c2, c3, c4, c5⟩
        · rw [c1]
          exact Or.inl ⟨e, rfl, τ3, c2, c3, fr_mx_tr (fr_mx_p hfr2) c4⟩
        · rw [c1]
          exact Or.inr ⟨_, _, rfl, τ3, c2, mt_mq' c3, c4, fr_mx_tr (fr_mx_p hfr2) c5⟩
      · rw [if_neg hw]
        have hne : ¬ am_io (pz_wd f n (pz_sk f n p1)) = 3 := by
          cases h3 : pz_wd f n (pz_sk f n p1) with
          | none => exact (by decide : ¬ (-1 : Int32) = 3)
          | some i =>
            have := wd_lt h3
            rw [show (3 : Int32) = nI 3 by decide +kernel]
            exact nI_ne (fun z => hw (by rw [h3, z])) (by omega) (by omega)
        rw [if_neg hne]
        obtain ⟨τ3, j1, j2, j3, j4⟩ := B135_ok (k := k) (a := a) (b := b) (c := 0) (x1 := nI a) (x2 := nI k) (x3 := nI b) (x4 := -1) rfl rfl rfl (by decide +kernel) w2 hS2 hl
        exact Or.inr ⟨_, _, rfl, τ3, j1, mt_mq j2 hp1, j3, fr_mx_tr (fr_mx_p (fr_mp_tr e7 w3)) j4⟩
theorem mrule_ok {p : Nat} (hN : N ≤ 12) (hm : mzp_ok f n τ p) (hS : mn_ok τ N S) (hl : S.1.length ≤ 24) : (∃ e, pz_rule f n N (decide (S.1.length = 24)) p = Sum.inl e ∧ ∃ τ', f_Model_ruleLine 45 τ = some τ' ∧ fe_ok τ' e ∧ fr_mx τ τ') ∨ ∃ r p1, pz_rule f n N (decide (S.1.length = 24)) p = Sum.inr (r, p1) ∧ ∃ τ', f_Model_ruleLine 45 τ = some τ' ∧ mzp_ok f n τ' p1 ∧ mn_ok τ' N (S.1 ++ [r], S.2.1, S.2.2) ∧ fr_mx τ τ' := by
  unfold f_Model_ruleLine pz_rule
  rcases mlv_ok hS.1 hN hm with ⟨e, e1, τ1, e2, e3, e4⟩ | ⟨a, p1, e1, e2, e3, τ1, e4, e5, e6, e7⟩
  · rw [e1, e2, Option.bind_some, fails1 e3, Option.bind_some, B23_e e3, ite_self]
    exact Or.inl ⟨e, rfl, τ1, rfl, e3, fr_mx_p e4⟩
  · have hS1 := mn_p hS e7
    rw [e1, e4, Option.bind_some, hS1.2.1, show (24 : Int32) = nI 24 by decide +kernel]
    dsimp only
    by_cases hfull : S.1.length = 24
    · rw [if_pos (show nI S.1.length = nI 24 by rw [hfull]), decide_eq_true hfull, if_pos rfl, fails0 e5.2.1, Option.bind_some, e6, show (4 : Int32) = nI 4 by decide +kernel, B23_e (fl_fe (c := 4) (o := pz_sk f n p) (by omega) (by omega))]
      exact Or.inl ⟨_, rfl, _, rfl, fl_fe (by omega) (by omega), fr_mx_p (fr_mp_tr e7 fl_fr)⟩
    · rw [if_neg (show ¬ nI S.1.length = nI 24 from nI_ne hfull (by omega) (by omega)), decide_eq_false hfull, if_neg (show ¬ (false = true) by decide)]
      unfold f_Model_ruleLine_B23
      rcases passes_ok (lo := 4) (hi := 6) (x1 := 4) (x2 := 6) (by decide +kernel) (by decide +kernel) (by omega) (by omega) (mt_mq' e5) with ⟨i, i1, i2, i3, τ2, i4, i5, i6⟩ | ⟨i1, τ2, i4, i5, i6⟩
      · rw [i3, i4, Option.bind_some, show (4 : Int32) = nI 4 by decide +kernel, pk_sub i1]
        have rest := mrule2_ok (k := i - 4) (a := a) hN e2 (by omega) (mt_mq' i5) (mn_p hS1 i6) (by omega) rfl
        have hif : (if some i = some 4 then pz_rule2 f n N a 0 (pz_te f n (pz_sk f n p1)) else if some i = some 5 then pz_rule2 f n N a 1 (pz_te f n (pz_sk f n p1)) else if some i = some 6 then pz_rule2 f n N a 2 (pz_te f n (pz_sk f n p1)) else Sum.inl (1, pz_sk f n p1)) = pz_rule2 f n N a (i - 4) (pz_te f n (pz_sk f n p1)) := by
          by_cases c4 : i = 4
          · rw [c4, if_pos rfl]
          · by_cases c5 : i = 5
            · rw [c5, if_neg (by simp), if_pos rfl]
            · rw [show i = 6 by omega, if_neg (by simp), if_neg (by simp), if_pos rfl]
        rw [hif]
        rcases rest with ⟨e, c1, τ3, c2, c3, c4⟩ | ⟨r, p2, c1, τ3, c2, c3, c4, c5⟩
        · exact Or.inl ⟨e, c1, τ3, c2, c3, fr_mx_tr (fr_mx_p (fr_mp_tr e7 i6)) c4⟩
        · exact Or.inr ⟨r, p2, c1, τ3, c2, c3, c4, fr_mx_tr (fr_mx_p (fr_mp_tr e7 i6)) c5⟩
      · rw [if_neg (i1 4 (by omega) (by omega)), if_neg (i1 5 (by omega) (by omega)), if_neg (i1 6 (by omega) (by omega)), i4, Option.bind_some, lever_e i5, Option.bind_some, if_neg (fe_n0 i5), B59_e i5]
        exact Or.inl ⟨_, rfl, τ2, rfl, i5, fr_mx_p (fr_mp_tr e7 i6)⟩
end MRU
