/-! the reference reads a sheet -/
def pz_bd (S : pz_S) : Prop := S.1.length ≤ 24 ∧ S.2.1.length ≤ 8 ∧ S.2.2.length ≤ 8 ∧ ∀ c ∈ S.2.2, c.1 < 8 ∧ c.2 < 8
def pz_ct (S : pz_S) : Nat := 1 + S.1.length + S.2.1.length + S.2.2.length
section MPA
variable {f : Nat → Nat} {n : Nat} {τ : ja_S} {N : Nat} {S : pz_S}
theorem rule_full {p p1 : Nat} {r : am_R} (h : pz_rule f n N true p = Sum.inr (r, p1)) : False := by
  unfold pz_rule at h
  cases hx : pz_num f n 0 N p with
  | inl e => rw [hx] at h; cases h
  | inr v =>
    obtain ⟨a, q⟩ := v
    rw [hx] at h
    dsimp only at h
    rw [if_pos rfl] at h
    cases h
theorem io_is {q i : Nat} (hi : i < 9) : am_io (pz_wd f n q) = nI i ↔ pz_wd f n q = some i := by
  constructor
  · intro h
    cases hw : pz_wd f n q with
    | none =>
      rw [hw] at h
      exact absurd h.symm (nI_m1 (by omega))
    | some j =>
      rw [hw] at h
      have := wd_lt hw
      by_cases c : j = i
      · rw [c]
      · exact absurd h (nI_ne c (by omega) (by omega))
  · intro h
    rw [h]
    rfl
theorem mstm_ok {p : Nat} (hN : N ≤ 12) (hm : mzp_ok f n τ p) (hS : mn_ok τ N S) (hb : pz_bd S) : ∃ F : Option ja_S, f_Model_line 45 τ = F.bind (fun v => f_Model_line_B52 45 v) ∧ ((∃ e, pz_st f n N S p = Sum.inl e ∧ ∃ τ', F = some τ' ∧ fe_ok τ' e ∧ fr_mx τ τ') ∨ ∃ S1 p1, pz_st f n N S p = Sum.inr (S1, p1) ∧ pz_bd S1 ∧ pz_ct S1 = pz_ct S + 1 ∧ ∃ τ', F = some τ' ∧ mzp_ok f n τ' p1 ∧ mn_ok τ' N S1 ∧ fr_mx τ τ') := by
  obtain ⟨b1, b2, b3, b4⟩ := id hb
  obtain ⟨τ1, w1, w2, w3⟩ := word_ok hm
  have hpn := mzp_le hm
  obtain ⟨τ2, d1, d2, d3⟩ := isDig_ok (mt_mq w2 hpn)
  have hS2 := mn_p (mn_p hS w3) d3
  have hf2 : fr_mx τ τ2 := fr_mx_p (fr_mp_tr w3 d3)
  unfold f_Model_line pz_st
  rw [w1, Option.bind_some, d1, Option.bind_some]
  cases hd : pz_d f n (pz_sk f n p) with
  | true =>
    rw [if_neg bz1, if_pos rfl]
    refine ⟨f_Model_ruleLine 45 τ2, rfl, ?_⟩
    rcases mrule_ok hN (mt_mq d2 hpn) hS2 b1 with ⟨e, c1, τ3, c2, c3, c4⟩ | ⟨r, p1, c1, τ3, c2, c3, c4, c5⟩
    · rw [c1]
      exact Or.inl ⟨e, rfl, τ3, c2, c3, fr_mx_tr hf2 c4⟩
    · rw [c1]
      have hlt : S.1.length < 24 := by
        by_cases c : S.1.length = 24
        · rw [decide_eq_true c] at c1
          exact absurd c1 (fun z => rule_full z)
        · omega
      refine Or.inr ⟨_, _, rfl, ⟨?_, b2, b3, b4⟩, ?_, τ3, c2, c3, c4, fr_mx_tr hf2 c5⟩
      · show (S.1 ++ [r]).length ≤ 24
        rw [List.length_append, List.length_singleton]
        omega
      · show 1 + (S.1 ++ [r]).length + S.2.1.length + S.2.2.length = pz_ct S + 1
        unfold pz_ct
        rw [List.length_append, List.length_singleton]
        omega
  | false =>
    rw [if_pos (am_bz0.mpr rfl), if_neg (show ¬ (false = true) by decide)]
    have i1 : am_io (pz_wd f n (pz_sk f n p)) = 1 ↔ pz_wd f n (pz_sk f n p) = some 1 := io_is (i := 1) (by omega)
    have i2 : am_io (pz_wd f n (pz_sk f n p)) = 2 ↔ pz_wd f n (pz_sk f n p) = some 2 := io_is (i := 2) (by omega)
    by_cases h1 : pz_wd f n (pz_sk f n p) = some 1
    · rw [if_pos (i1.mpr h1), if_pos h1]
      refine ⟨f_Model_routeLine 45 τ2, rfl, ?_⟩
      by_cases h8 : S.2.1.length = 8
      · obtain ⟨τ3, c2, c3, c4⟩ := mroute_full d2 hS2 h8
        rw [if_pos h8]
        exact Or.inl ⟨_, rfl, τ3, c2, c3, fr_mx_tr hf2 c4⟩
      · rw [if_neg h8]
        rcases mroute_ok hN d2 h1 hS2 (by omega) with ⟨e, c1, τ3, c2, c3, c4⟩ | ⟨w, p1, c1, τ3, c2, c3, c4, c5⟩
        · rw [c1]
          exact Or.inl ⟨e, rfl, τ3, c2, c3, fr_mx_tr hf2 c4⟩
        · rw [c1]
          refine Or.inr ⟨_, _, rfl, ⟨b1, ?_, b3, b4⟩, ?_, τ3, c2, c3, c4, fr_mx_tr hf2 c5⟩
          · show (S.2.1 ++ [w]).length ≤ 8
            rw [List.length_append, List.length_singleton]
            omega
          · show 1 + S.1.length + (S.2.1 ++ [w]).length + S.2.2.length = pz_ct S + 1
            unfold pz_ct
            rw [List.length_append, List.length_singleton]
            omega
    · rw [if_neg (fun z => h1 (i1.mp z)), if_neg h1]
      by_cases h2 : pz_wd f n (pz_sk f n p) = some 2
      · rw [if_pos (i2.mpr h2), if_pos h2]
        refine ⟨f_Model_conflictLine 45 τ2, rfl, ?_⟩
        by_cases h8 : S.2.2.length = 8
        · obtain ⟨τ3, c2, c3, c4⟩ := mconf_full d2 hS2 h8
          rw [if_pos h8]
          exact Or.inl ⟨_, rfl, τ3, c2, c3, fr_mx_tr hf2 c4⟩
        · rw [if_neg h8]
          rcases mconf_ok d2 h2 hS2 b2 (by omega) b4 with ⟨e, c1, τ3, c2, c3, c4⟩ | ⟨c, p1, c1, x1, x2, τ3, c2, c3, c4, c5⟩
          · rw [c1]
            exact Or.inl ⟨e, rfl, τ3, c2, c3, fr_mx_tr hf2 c4⟩
          · rw [c1]
            refine Or.inr ⟨_, _, rfl, ⟨b1, b2, ?_, ?_⟩, ?_, τ3, c2, c3, c4, fr_mx_tr hf2 c5⟩
            · show (S.2.2 ++ [c]).length ≤ 8
              rw [List.length_append, List.length_singleton]
              omega
            · intro u hu
              have hu' : u ∈ S.2.2 ++ [c] := hu
              rcases List.mem_append.mp hu' with hu | hu
              · exact b4 u hu
              · rw [List.mem_singleton.mp hu]; exact ⟨x1, x2⟩
            · show 1 + S.1.length + S.2.1.length + (S.2.2 ++ [c]).length = pz_ct S + 1
              unfold pz_ct
              rw [List.length_append, List.length_singleton]
              omega
      · rw [if_neg (fun z => h2 (i2.mp z)), if_neg h2]
        refine ⟨_, rfl, Or.inl ⟨_, rfl, fl_st τ2 (nI 1) (nI (pz_sk f n p)), ?_, fl_fe (by omega) (by omega), fr_mx_tr hf2 (fr_mx_p fl_fr)⟩⟩
        rw [fails0 d2.2.1, d2.1.2.1]
        rfl
theorem L39_e {k : Nat} {x2 : Int32} {e : Nat × Nat} (hk : 0 < k) (h : fe_ok τ e) : f_Model_parses_L39 k 45 0 x2 τ = some (x2, τ) := by
  obtain ⟨k, rfl⟩ : ∃ t, k = t + 1 := ⟨k - 1, by omega⟩
  unfold f_Model_parses_L39 f_Model_parses_B64
  rw [if_neg (fe_n0 h), if_pos rfl]
theorem mlp_L39 (hN : N ≤ 12) : ∀ (m k p : Nat) (S : pz_S) (τ : ja_S), n - p < m → n - p + 1 < k → mzp_ok f n τ p → mn_ok τ N S → pz_bd S → (∃ e, pz_lp f n N m S p = Sum.inl e ∧ ∃ v τ', f_Model_parses_L39 k 45 0 (nI (pz_ct S)) τ = some (v, τ') ∧ fe_ok τ' e ∧ fr_mx τ τ') ∨ ∃ S1, pz_lp f n N m S p = Sum.inr S1 ∧ ∃ τ', f_Model_parses_L39 k 45 0 (nI (pz_ct S)) τ = some (nI (pz_ct S1), τ') ∧ τ'.1 45 14 = 0 ∧ τ'.1 45 15 = -1 ∧ mn_ok τ' N S1 ∧ fr_mx τ τ' := by
  intro m
  induction m with
  | zero => intro k p S τ h; omega
  | succ m ih =>
    intro k p S τ hm hk hz hS hb
    obtain ⟨k, rfl⟩ : ∃ t, k = t + 1 := ⟨k - 1, by omega⟩
    have hpn := mzp_le hz
    have hsk := sk_le (f := f) hpn
    obtain ⟨τ1, e1, e2, e3⟩ := peek_ok hz
    have hS1 := mn_p hS e3
    have hlp : pz_lp f n N (m + 1) S p = if pz_sk f n p < n then (match pz_st f n N S p with
      | Sum.inl e => Sum.inl e
      | Sum.inr (S1, p1) => if pz_sc f n p1 = true then pz_lp f n N m S1 (pz_sk f n p1 + 1) else Sum.inl (1, pz_sk f n p1)) else Sum.inr S := rfl
    rw [hlp, f_Model_parses_L39, if_pos (mz0 hz), e1, Option.bind_some]
    by_cases c : pz_sk f n p < n
    · have h256 := e2.1.2.2.2.2.1 _ c
      rw [if_pos c, pz_i_lt c, if_neg (nI_m1 (by omega))]
      obtain ⟨F, hF, hst⟩ := mstm_ok hN (mt_mq e2 hpn) hS1 hb
      rw [hF]
      rcases hst with ⟨e, c1, τ2, c2, c3, c4⟩ | ⟨S1, p1, c1, c2, c3, τ2, c4, c5, c6, c7⟩
      · obtain ⟨τ3, s1, s2, s3⟩ := semi_e c3
        unfold f_Model_line_B52
        rw [c1, c2, Option.bind_some, s1, Option.bind_some, Option.bind_some, L39_e (by omega) s2]
        exact Or.inl ⟨e, rfl, _, τ3, rfl, s2, fr_mx_tr (fr_mx_p e3) (fr_mx_tr c4 (fr_mx_p s3))⟩
      · have hpg := st_pg hpn c1
        have hfr2 : fr_mx τ τ2 := fr_mx_tr (fr_mx_p e3) c7
        unfold f_Model_line_B52
        rw [c1, c4, Option.bind_some]
        rcases msemi_ok c5 with ⟨s0, τ3, s1, s2, s3⟩ | ⟨s0, τ3, s1, s2, s3⟩
        · have hlt := sc_lt s0
          have hsk1 := sk_le (f := f) hpg.2
          rw [s1, Option.bind_some, Option.bind_some, nI_1, ← c3]
          dsimp only
          rw [if_pos s0]
          rcases ih k (pz_sk f n p1 + 1) S1 τ3 (by omega) (by omega) (mt_mq' s2) (mn_p c6 s3) c2 with ⟨e, g1, v, τ4, g2, g3, g4⟩ | ⟨S2, g1, τ4, g2, g3, g4, g5, g6⟩
          · exact Or.inl ⟨e, g1, v, τ4, g2, g3, fr_mx_tr hfr2 (fr_mx_tr (fr_mx_p s3) g4)⟩
          · exact Or.inr ⟨S2, g1, τ4, g2, g3, g4, g5, fr_mx_tr hfr2 (fr_mx_tr (fr_mx_p s3) g6)⟩
        · rw [s1, Option.bind_some, Option.bind_some, L39_e (by omega) s2]
          dsimp only
          rw [if_neg (by rw [s0]; decide)]
          exact Or.inl ⟨_, rfl, _, τ3, rfl, s2, fr_mx_tr hfr2 (fr_mx_p s3)⟩
    · unfold f_Model_parses_B64
      rw [if_neg c, show pz_i f n (pz_sk f n p) = -1 from if_neg c, if_pos rfl, if_pos rfl]
      exact Or.inr ⟨S, rfl, τ1, rfl, e2.2.1, e2.2.2, hS1, fr_mx_p e3⟩
theorem fe_si {e : Nat × Nat} {j : Nat} {v : Int32} (h : fe_ok τ e) (hj : 15 < j ∨ j < 14) : fe_ok (ja_si τ 45 j v) e := fe_p h (by rw [si_at, if_neg (by omega)]) (by rw [si_at, if_neg (by omega)])
theorem mx_si {j : Nat} {v : Int32} (hj : 13 ≤ j ∧ j ≤ 20) : fr_mx τ (ja_si τ 45 j v) := ⟨fun k i _ h => by rw [si_at, if_neg (by omega)], rfl⟩
theorem mparse_ok (hm : mt_ok f n τ 0) : (∃ e, pz_all f n = Sum.inl e ∧ ∃ v τ', f_Model_parses 45 τ = some (v, τ') ∧ fe_ok τ' e ∧ fr_mx τ τ') ∨ ∃ N S, pz_all f n = Sum.inr (N, S) ∧ ∃ τ', f_Model_parses 45 τ = some (nI (pz_ct S), τ') ∧ τ'.1 45 14 = 0 ∧ τ'.1 45 15 = -1 ∧ mn_ok τ' N S ∧ fr_mx τ τ' := by
  obtain ⟨τ0, hτ0⟩ : ∃ t : ja_S, t = ja_si (ja_si (ja_si τ 45 18 0) 45 19 0) 45 20 0 := ⟨_, rfl⟩
  have hf0 : ∀ k j, (k ≠ 45 ∨ j < 18 ∨ 20 < j) → τ0.1 k j = τ.1 k j := fun k j h => by
    rw [hτ0, si_at, if_neg (by omega), si_at, if_neg (by omega), si_at, if_neg (by omega)]
  have hx0 : fr_mx τ τ0 := ⟨fun k j _ h => hf0 k j (by omega), by rw [hτ0]; rfl⟩
  have hm0 : mt_ok f n τ0 0 := mt_fr hm (fun j hj => hf0 45 j (by omega)) (fun j => hf0 51 j (by omega))
  have h0 : τ0.1 45 18 = nI 0 ∧ τ0.1 45 19 = nI 0 ∧ τ0.1 45 20 = nI 0 := by
    rw [hτ0]
    refine ⟨?_, ?_, ?_⟩
    · rw [si_at, if_neg (by omega), si_at, if_neg (by omega), si_at, if_pos ⟨rfl, rfl⟩]; exact am_z
    · rw [si_at, if_neg (by omega), si_at, if_pos ⟨rfl, rfl⟩]; exact am_z
    · rw [si_at, if_pos ⟨rfl, rfl⟩]; exact am_z
  unfold f_Model_parses ja_pu pz_all
  rw [Option.bind_some, Option.bind_some, Option.bind_some, ← hτ0]
  rcases passes_ok (lo := 0) (hi := 0) (x1 := 0) (x2 := 0) am_z am_z (by omega) (by omega) (mt_mq' hm0) with ⟨i, i1, i2, i3, τ1, i4, i5, i6⟩ | ⟨i1, τ1, i4, i5, i6⟩
  · have hi0 : i = 0 := by omega
    rw [hi0] at i3 i4
    rw [← am_z] at i4
    rw [i3, if_pos rfl, i4, Option.bind_some]
    have hx1 : fr_mx τ τ1 := fr_mx_tr hx0 (fr_mx_p i6)
    rcases mnum_ok (lo := 2) (h := 13) (x2 := 12) (by decide +kernel) (by omega) (mt_mq' i5) with ⟨e, e1, τ2, e2, e3, e4⟩ | ⟨N, p1, e1, e2, e3, e4, τ2, e5, e6, e7, e8⟩
    · have e2' : f_Model_number 45 2 12 τ1 = some (nI 2, τ2) := e2
      obtain ⟨τ3, s1, s2, s3⟩ := semi_e (fe_si (j := 17) (v := nI 2) e3 (by omega))
      rw [e1, e2', Option.bind_some, Option.bind_some, s1, Option.bind_some, L39_e (by decide) s2]
      exact Or.inl ⟨e, rfl, _, τ3, rfl, s2, fr_mx_tr hx1 (fr_mx_tr (fr_mx_p e4) (fr_mx_tr (mx_si (by omega)) (fr_mx_p s3)))⟩
    · have e5' : f_Model_number 45 2 12 τ1 = some (nI N, τ2) := e5
      rw [e1, e5', Option.bind_some, Option.bind_some]
      dsimp only
      obtain ⟨τ3, hτ3⟩ : ∃ t : ja_S, t = ja_si τ2 45 17 (nI N) := ⟨_, rfl⟩
      have hf3 : ∀ k j, (k ≠ 45 ∨ j ≠ 17) → τ3.1 k j = τ2.1 k j := fun k j h => by rw [hτ3, si_at, if_neg (by omega)]
      have hx3 : fr_mx τ τ3 := fr_mx_tr hx1 (fr_mx_tr (fr_mx_p e8) (by rw [hτ3]; exact mx_si (by omega)))
      have hm3 : mt_ok f n τ3 p1 := mt_fr e6 (fun j hj => hf3 45 j (by omega)) (fun j => hf3 51 j (by omega))
      have c3 : ∀ j, 18 ≤ j → j ≤ 20 → τ3.1 45 j = τ0.1 45 j := fun j a b => by rw [hf3 45 j (by omega), e8.1 45 j (by omega), i6.1 45 j (by omega)]
      have hS3 : mn_ok τ3 N ([], [], []) := by
        refine ⟨?_, (c3 18 (by omega) (by omega)).trans h0.1, (fun i hi => by cases hi), (c3 19 (by omega) (by omega)).trans h0.2.1, (fun i hi => by cases hi), (c3 20 (by omega) (by omega)).trans h0.2.2, (fun i hi => by cases hi), (fun i hi => by cases hi)⟩
        rw [hτ3, si_at, if_pos ⟨rfl, rfl⟩]
      rw [← hτ3]
      have hb0 : pz_bd ([], [], []) := ⟨Nat.zero_le _, Nat.zero_le _, Nat.zero_le _, (fun c hc => by cases hc)⟩
      rcases msemi_ok (mt_mq' hm3) with ⟨s0, τ4, s1, s2, s3⟩ | ⟨s0, τ4, s1, s2, s3⟩
      · have h900 := s2.1.2.2.2.1
        rw [s1, Option.bind_some, if_pos s0]
        rcases mlp_L39 (N := N) (by omega) 1000 ja_FU (pz_sk f n p1 + 1) ([], [], []) τ4 (by omega) (by unfold ja_FU; omega) (mt_mq' s2) (mn_p hS3 s3) hb0 with ⟨e, g1, v, τ5, g2, g3, g4⟩ | ⟨S2, g1, τ5, g2, g3, g4, g5, g6⟩
        · rw [g1]
          exact Or.inl ⟨e, rfl, v, τ5, g2, g3, fr_mx_tr hx3 (fr_mx_tr (fr_mx_p s3) g4)⟩
        · rw [g1]
          exact Or.inr ⟨N, S2, rfl, τ5, g2, g3, g4, g5, fr_mx_tr hx3 (fr_mx_tr (fr_mx_p s3) g6)⟩
      · rw [s1, Option.bind_some, if_neg (by rw [s0]; decide), L39_e (by decide) s2]
        exact Or.inl ⟨_, rfl, _, τ4, rfl, s2, fr_mx_tr hx3 (fr_mx_p s3)⟩
  · rw [← am_z] at i4
    obtain ⟨τ3, s1, s2, s3⟩ := semi_e (fe_si (j := 17) (v := 2) i5 (by omega))
    rw [if_neg (i1 0 (by omega) (by omega)), i4, Option.bind_some, mnum_e i5, Option.bind_some, Option.bind_some, s1, Option.bind_some, L39_e (by decide) s2]
    exact Or.inl ⟨_, rfl, _, τ3, rfl, s2, fr_mx_tr hx0 (fr_mx_tr (fr_mx_p i6) (fr_mx_tr (mx_si (by omega)) (fr_mx_p s3)))⟩
end MPA
