/-! the reference reads a route, a conflict -/
section MRO
variable {f : Nat → Nat} {n : Nat} {τ : ja_S} {N : Nat} {S : pz_S}
theorem B89_e {x1 : Int32} {e : Nat × Nat} (h : fe_ok τ e) : f_Model_routeLine_B89 45 x1 τ = some τ := by
  unfold f_Model_routeLine_B89
  rw [if_neg (fe_n0 h)]
theorem L33_e {x1 : Int32} {e : Nat × Nat} {k : Nat} (hk : 0 < k) (h : fe_ok τ e) : f_Model_routeLine_L33 k 45 x1 τ = some τ := by
  obtain ⟨k, rfl⟩ : ∃ t, k = t + 1 := ⟨k - 1, by omega⟩
  rw [f_Model_routeLine_L33, if_neg (fe_n0 h), B89_e h]
theorem B89_ok {w s : Nat} (hm : mt_ok f n τ s) (hS : mn_ok τ N S) (hl : S.2.1.length < 8) : ∃ τ', f_Model_routeLine_B89 45 (nI w) τ = some τ' ∧ mt_ok f n τ' s ∧ mn_ok τ' N (S.1, S.2.1 ++ [w], S.2.2) ∧ fr_mx τ τ' := by
  obtain ⟨g1, g2, g3, g4, g5, g6, g7, g8⟩ := hS
  unfold f_Model_routeLine_B89 ja_pu
  rw [if_pos hm.2.1, show ja_q 45 22 = 53 from rfl, g4, st0' (N := 8) rfl hl (by omega), Option.bind_some, si_row (by omega), g4, nI_1, Option.bind_some]
  have hfr : ∀ k j, k ≠ 53 → (k ≠ 45 ∨ j ≠ 19) → (ja_si (ja_si τ 53 S.2.1.length (nI w)) 45 19 (nI (S.2.1.length + 1))).1 k j = τ.1 k j := fun k j x y => by
    rw [si_at, if_neg (by omega), si_row x]
  refine ⟨_, rfl, mt_fr hm (fun j hj => hfr 45 j (by omega) (by omega)) (fun j => hfr 51 j (by omega) (by omega)), ⟨(hfr 45 17 (by omega) (by omega)).trans g1, (hfr 45 18 (by omega) (by omega)).trans g2, ?_, ?_, ?_, (hfr 45 20 (by omega) (by omega)).trans g6, fun i hi => (hfr 54 i (by omega) (by omega)).trans (g7 i hi), fun i hi => (hfr 55 i (by omega) (by omega)).trans (g8 i hi)⟩, fun k j x y => hfr k j (by omega) (by omega), rfl⟩
  · rw [si_row (by omega), si_row (by omega)]
    exact g3
  · rw [si_at, if_pos ⟨rfl, rfl⟩]
    show nI (S.2.1.length + 1) = nI (S.2.1 ++ [w]).length
    rw [List.length_append, List.length_singleton]
  · refine row_app (fun i hi => ?_) ?_
    · rw [si_row (by omega), si_at, if_neg (by omega)]; exact g5 i hi
    · rw [si_row (by omega), si_at, if_pos ⟨rfl, rfl⟩]
theorem mrt_B51 (hN : N ≤ 12) (hl : S.2.1.length < 8) : ∀ (m k set p : Nat) (τ : ja_S), am_cn (fun i => !set.testBit i) 12 ≤ m → m + 1 < k → set < 2 ^ 12 → mzp_ok f n τ p → mn_ok τ N S → (∃ e, pz_rt f n N (m + 1) set p = Sum.inl e ∧ ∃ τ', f_Model_routeLine_B51 (f_Model_routeLine_L33 k) 45 (nI set) τ = some τ' ∧ fe_ok τ' e ∧ fr_mx τ τ') ∨ ∃ w p1, pz_rt f n N (m + 1) set p = Sum.inr (w, p1) ∧ ∃ τ', f_Model_routeLine_B51 (f_Model_routeLine_L33 k) 45 (nI set) τ = some τ' ∧ mzp_ok f n τ' p1 ∧ mn_ok τ' N (S.1, S.2.1 ++ [w], S.2.2) ∧ fr_mx τ τ' := by
  intro m
  induction m using Nat.strongRecOn with
  | ind m ih =>
    intro k set p τ hcn hk hset hm hS
    have h12 : (2 : Nat) ^ 12 = 4096 := by decide
    have e0 : pz_rt f n N (m + 1) set p = match pz_num f n 0 N p with
      | Sum.inl e => Sum.inl e
      | Sum.inr (l, p1) => if set.testBit l = true then Sum.inl (3, pz_sk f n p) else if pz_d f n (pz_sk f n p1) = true then pz_rt f n N m (set ||| 2 ^ l) p1 else Sum.inr (set ||| 2 ^ l, p1) := rfl
    rw [e0]
    unfold f_Model_routeLine_B51
    rcases mlv_ok hS.1 hN hm with ⟨e, e1, τ1, e2, e3, e4⟩ | ⟨l, p1, e1, e2, e3, τ1, e4, e5, e6, e7⟩
    · unfold f_Model_routeLine_B80
      rw [e1, e2, Option.bind_some, if_neg (fe_n0 e3), L33_e (by omega) e3]
      exact Or.inl ⟨e, rfl, τ1, rfl, e3, fr_mx_p e4⟩
    · rw [e1, e4, Option.bind_some, if_pos e5.2.1, has_ok (by omega) (by omega), Option.bind_some]
      dsimp only
      unfold f_Model_routeLine_B80
      rw [nI_pow (by omega), nI_or]
      cases hb : set.testBit l with
      | true =>
        rw [if_neg bz1, if_pos rfl, fails0 e5.2.1, Option.bind_some, e6, show (3 : Int32) = nI 3 by decide +kernel, L33_e (by omega) (fl_fe (c := 3) (o := pz_sk f n p) (by omega) (by omega))]
        exact Or.inl ⟨_, rfl, _, rfl, fl_fe (by omega) (by omega), fr_mx_p (fr_mp_tr e7 fl_fr)⟩
      | false =>
        rw [if_pos (am_bz0.mpr rfl), if_neg (show ¬ (false = true) by decide)]
        obtain ⟨m', rfl⟩ : ∃ m', m = m' + 1 := by
          have := cn_pos (p := fun i => !set.testBit i) (b := l) 12 (by omega) (by rw [hb]; rfl)
          exact ⟨m - 1, by omega⟩
        obtain ⟨k', rfl⟩ : ∃ k', k = k' + 1 := ⟨k - 1, by omega⟩
        have hset2 : set ||| 2 ^ l < 2 ^ 12 := Nat.or_lt_two_pow hset (Nat.pow_lt_pow_right (by omega) (by omega))
        have hpos : 0 < set ||| 2 ^ l := Nat.lt_of_lt_of_le (Nat.two_pow_pos l) Nat.right_le_or
        have hcn2 : am_cn (fun i => !(set ||| 2 ^ l).testBit i) 12 + 1 = am_cn (fun i => !set.testBit i) 12 := by
          refine cn_step (b := l) 12 (by omega) (by rw [hb]; rfl) ?_ ?_
          · rw [Nat.testBit_or, Nat.testBit_two_pow_self, Bool.or_true]
            rfl
          · intro i _ hne
            rw [Nat.testBit_or, Nat.testBit_two_pow_of_ne (Ne.symm hne), Bool.or_false]
        obtain ⟨τ2, d1, d2, d3⟩ := isDig_ok (mt_mq' e5)
        have hS2 := mn_p (mn_p hS e7) d3
        rw [f_Model_routeLine_L33, if_pos e5.2.1, if_neg (nI_ne0' (by omega) (by omega)), d1, Option.bind_some]
        cases hd : pz_d f n (pz_sk f n p1) with
        | true =>
          rw [if_neg bz1, if_pos rfl]
          rcases ih m' (by omega) k' (set ||| 2 ^ l) p1 τ2 (by omega) (by omega) hset2 (mt_mq d2 e5.1.2.2.2.2.2) hS2 with ⟨e, c1, τ3, c2, c3, c4⟩ | ⟨w, p2, c1, τ3, c2, c3, c4, c5⟩
          · exact Or.inl ⟨e, c1, τ3, c2, c3, fr_mx_tr (fr_mx_p (fr_mp_tr e7 d3)) c4⟩
          · exact Or.inr ⟨w, p2, c1, τ3, c2, c3, c4, fr_mx_tr (fr_mx_p (fr_mp_tr e7 d3)) c5⟩
        | false =>
          rw [if_pos (am_bz0.mpr rfl), if_neg (show ¬ (false = true) by decide)]
          obtain ⟨τ3, j1, j2, j3, j4⟩ := B89_ok (w := set ||| 2 ^ l) d2 hS2 hl
          exact Or.inr ⟨_, _, rfl, τ3, j1, mt_mq j2 e5.1.2.2.2.2.2, j3, fr_mx_tr (fr_mx_p (fr_mp_tr e7 d3)) j4⟩
theorem mroute_full {q : Nat} (hm : mt_ok f n τ q) (hS : mn_ok τ N S) (hl : S.2.1.length = 8) : ∃ τ', f_Model_routeLine 45 τ = some τ' ∧ fe_ok τ' (4, q) ∧ fr_mx τ τ' := by
  have hfe := fl_fe (τ := τ) (c := 4) (o := q) (by omega) (by omega)
  unfold f_Model_routeLine f_Model_routeLine_B18 ja_pu
  rw [hS.2.2.2.1, if_pos (show nI S.2.1.length = 8 by rw [hl]; decide +kernel), fails0 hm.2.1, Option.bind_some, hm.1.2.1, show (4 : Int32) = nI 4 by decide +kernel, lets_ok (fl_mb hm.1), Option.bind_some, Option.bind_some]
  refine ⟨_, L33_e (e := (4, q)) (by decide) ?_, ?_, fr_mx_p (fr_mp_tr fl_fr (fr_mp_si (by omega)))⟩
  · exact fe_p hfe (by rw [si_at, if_neg (by omega)]) (by rw [si_at, if_neg (by omega)])
  · exact fe_p hfe (by rw [si_at, if_neg (by omega)]) (by rw [si_at, if_neg (by omega)])
theorem mroute_ok {q : Nat} (hN : N ≤ 12) (hm : mt_ok f n τ q) (hw : pz_wd f n q = some 1) (hS : mn_ok τ N S) (hl : S.2.1.length < 8) : (∃ e, pz_rt f n N 13 0 (pz_te f n q) = Sum.inl e ∧ ∃ τ', f_Model_routeLine 45 τ = some τ' ∧ fe_ok τ' e ∧ fr_mx τ τ') ∨ ∃ w p1, pz_rt f n N 13 0 (pz_te f n q) = Sum.inr (w, p1) ∧ ∃ τ', f_Model_routeLine 45 τ = some τ' ∧ mzp_ok f n τ' p1 ∧ mn_ok τ' N (S.1, S.2.1 ++ [w], S.2.2) ∧ fr_mx τ τ' := by
  obtain ⟨t1, t2, t3⟩ := mword3 (by omega) hm hw
  have hF : f_Model_routeLine 45 τ = f_Model_routeLine_B51 (f_Model_routeLine_L33 9999) 45 (nI 0) (ja_si τ 45 13 (nI (pz_te f n q))) := by
    unfold f_Model_routeLine f_Model_routeLine_B18 ja_pu
    rw [hS.2.2.2.1, if_neg (show ¬ nI S.2.1.length = 8 by rw [show (8 : Int32) = nI 8 by decide +kernel]; exact nI_ne (by omega) (by omega) (by omega)), t1, Option.bind_some, hm.1.2.1, nI_add, show q + (pz_te f n q - q) = pz_te f n q by omega, Option.bind_some, show ja_FU = 9999 + 1 from rfl, f_Model_routeLine_L33, if_pos t2.2.1, if_pos rfl, ← am_z]
  rw [hF]
  have hcn : am_cn (fun i => !(0 : Nat).testBit i) 12 ≤ 12 := by decide +kernel
  rcases mrt_B51 hN hl 12 9999 0 (pz_te f n q) _ hcn (by omega) (by decide) (mt_mq' t2) (mn_p hS (fr_mp_si (by omega))) with ⟨e, c1, τ3, c2, c3, c4⟩ | ⟨w, p2, c1, τ3, c2, c3, c4, c5⟩
  · exact Or.inl ⟨e, c1, τ3, c2, c3, fr_mx_tr (fr_mx_p (fr_mp_si (by omega))) c4⟩
  · exact Or.inr ⟨w, p2, c1, τ3, c2, c3, c4, fr_mx_tr (fr_mx_p (fr_mp_si (by omega))) c5⟩
theorem bz_or1 (b : Bool) : am_bz b ||| 1 = am_bz true := by cases b <;> decide +kernel
theorem bz_or0 (b : Bool) : am_bz b ||| 0 = am_bz b := by cases b <;> decide +kernel
theorem dec_L14 {a b : Nat} (ha : a < 8) (hb : b < 8) (hS : mn_ok τ N S) (hl : S.2.2.length ≤ 8) (hc : ∀ c ∈ S.2.2, c.1 < 8 ∧ c.2 < 8) : ∀ (d k i : Nat) (acc : Bool), i + d = S.2.2.length → d < k → f_Model_isDeclared_L14 k 45 (nI a) (nI b) (am_bz acc) (nI i) τ = some (am_bz (acc || pz_dc (S.2.2.drop i) a b), τ) := by
  obtain ⟨g1, g2, g3, g4, g5, g6, g7, g8⟩ := hS
  intro d
  induction d with
  | zero =>
    intro k i acc hi hk
    obtain ⟨k, rfl⟩ : ∃ t, k = t + 1 := ⟨k - 1, by omega⟩
    rw [f_Model_isDeclared_L14, g6, if_pos (nI_le (by omega) (by omega)), rb_bz, List.drop_eq_nil_of_le (by omega)]
    unfold pz_dc
    rw [List.any_nil, Bool.or_false]
  | succ d ih =>
    intro k i acc hi hk
    obtain ⟨k, rfl⟩ : ∃ t, k = t + 1 := ⟨k - 1, by omega⟩
    have hlt : i < S.2.2.length := by omega
    obtain ⟨u, hu⟩ : ∃ u, u = S.2.2[i] := ⟨_, rfl⟩
    have hub := hc u (by rw [hu]; exact List.getElem_mem hlt)
    have f1 : τ.1 54 i = nI u.1 := by
      rw [g7 i (by rw [List.length_map]; exact hlt), List.getD_eq_getElem?_getD, List.getElem?_map, List.getElem?_eq_getElem hlt, hu]
      rfl
    have f2 : τ.1 55 i = nI u.2 := by
      rw [g8 i (by rw [List.length_map]; exact hlt), List.getD_eq_getElem?_getD, List.getElem?_map, List.getElem?_eq_getElem hlt, hu]
      rfl
    have hdc : pz_dc (S.2.2.drop i) a b = (((u.1 == a && u.2 == b) || (u.1 == b && u.2 == a)) || pz_dc (S.2.2.drop (i + 1)) a b) := by
      unfold pz_dc
      rw [List.drop_eq_getElem_cons hlt, List.any_cons, ← hu]
    have n1 : ∀ x y : Nat, x < 8 → y < 8 → (nI x = nI y ↔ x = y) := fun x y h1 h2 => ⟨fun z => by
      by_cases c : x = y
      · exact c
      · exact absurd z (nI_ne c (by omega) (by omega)), fun z => by rw [z]⟩
    have l1 : ja_ld ja_L0 τ 54 (nI i) = some (nI u.1) := by rw [ld0 (N := 8) rfl (by omega) (by omega), f1]
    have l2 : ja_ld ja_L0 τ 55 (nI i) = some (nI u.2) := by rw [ld0 (N := 8) rfl (by omega) (by omega), f2]
    have hB : (u.1 == a && u.2 == b) = false → f_Model_isDeclared_B46 (f_Model_isDeclared_L14 k) 45 (nI a) (nI b) (nI i) (am_bz acc) τ = some (am_bz (acc || pz_dc (S.2.2.drop i) a b), τ) := by
      intro hz
      unfold f_Model_isDeclared_B46
      rw [show ja_q 45 23 = 54 from rfl, show ja_q 45 24 = 55 from rfl, l1, Option.bind_some, l2, Option.bind_some, bz_or1, bz_or0, nI_1, hdc, hz, Bool.false_or]
      by_cases c1 : u.1 = b
      · by_cases c2 : u.2 = a
        · rw [if_pos ((n1 _ _ (by omega) (by omega)).mpr c1), if_pos ((n1 _ _ (by omega) (by omega)).mpr c2), ih k (i + 1) true (by omega) (by omega), c1, c2]
          simp
        · rw [if_pos ((n1 _ _ (by omega) (by omega)).mpr c1), if_neg (fun z => c2 ((n1 _ _ (by omega) (by omega)).mp z)), ih k (i + 1) acc (by omega) (by omega), beq_eq_false_iff_ne.mpr c2, Bool.and_false, Bool.false_or]
      · rw [if_neg (fun z => c1 ((n1 _ _ (by omega) (by omega)).mp z)), ih k (i + 1) acc (by omega) (by omega), beq_eq_false_iff_ne.mpr c1, Bool.false_and, Bool.false_or]
    rw [f_Model_isDeclared_L14, g6, if_neg (nI_ge hlt (by omega)), show ja_q 45 23 = 54 from rfl, show ja_q 45 24 = 55 from rfl, l1, Option.bind_some, l2, Option.bind_some, bz_or1, nI_1]
    by_cases c1 : u.1 = a
    · rw [if_pos ((n1 _ _ (by omega) (by omega)).mpr c1)]
      by_cases c2 : u.2 = b
      · rw [if_pos ((n1 _ _ (by omega) (by omega)).mpr c2), ih k (i + 1) true (by omega) (by omega), hdc, c1, c2]
        simp
      · rw [if_neg (fun z => c2 ((n1 _ _ (by omega) (by omega)).mp z))]
        exact hB (by rw [beq_eq_false_iff_ne.mpr c2, Bool.and_false])
    · rw [if_neg (fun z => c1 ((n1 _ _ (by omega) (by omega)).mp z))]
      exact hB (by rw [beq_eq_false_iff_ne.mpr c1, Bool.false_and])
theorem isDec_ok {a b : Nat} (ha : a < 8) (hb : b < 8) (hS : mn_ok τ N S) (hl : S.2.2.length ≤ 8) (hc : ∀ c ∈ S.2.2, c.1 < 8 ∧ c.2 < 8) : f_Model_isDeclared 45 (nI a) (nI b) τ = some (am_bz (decide (a = b) || pz_dc S.2.2 a b), τ) := by
  unfold f_Model_isDeclared
  have h1 := fun acc => dec_L14 ha hb hS hl hc S.2.2.length ja_FU 0 acc (by omega) (by unfold ja_FU; omega)
  rw [List.drop_zero, ← am_z] at h1
  by_cases c : a = b
  · rw [if_pos (show nI a = nI b by rw [c]), decide_eq_true c]
    exact h1 true
  · rw [if_neg (nI_ne c (by omega) (by omega)), decide_eq_false c]
    exact h1 false
theorem cB80_e {x1 x2 : Int32} {e : Nat × Nat} (h : fe_ok τ e) : f_Model_conflictLine_B80 45 x1 x2 τ = some τ := by
  unfold f_Model_conflictLine_B80
  rw [if_neg (fe_n0 h)]
theorem cB80_ok {a b s : Nat} (hm : mt_ok f n τ s) (hS : mn_ok τ N S) (hl : S.2.2.length < 8) : ∃ τ', f_Model_conflictLine_B80 45 (nI a) (nI b) τ = some τ' ∧ mt_ok f n τ' s ∧ mn_ok τ' N (S.1, S.2.1, S.2.2 ++ [(a, b)]) ∧ fr_mx τ τ' := by
  obtain ⟨g1, g2, g3, g4, g5, g6, g7, g8⟩ := hS
  unfold f_Model_conflictLine_B80 ja_pu
  rw [if_pos hm.2.1, show ja_q 45 23 = 54 from rfl, show ja_q 45 24 = 55 from rfl, g6, st0' (N := 8) rfl hl (by omega), Option.bind_some, si_row (by omega), g6, st0' (N := 8) rfl hl (by omega), Option.bind_some, si_row (by omega), si_row (by omega), g6, nI_1, Option.bind_some]
  have hfr : ∀ k j, k ≠ 54 → k ≠ 55 → (k ≠ 45 ∨ j ≠ 20) → (ja_si (ja_si (ja_si τ 54 S.2.2.length (nI a)) 55 S.2.2.length (nI b)) 45 20 (nI (S.2.2.length + 1))).1 k j = τ.1 k j := fun k j x z y => by
    rw [si_at, if_neg (by omega), si_row z, si_row x]
  refine ⟨_, rfl, mt_fr hm (fun j hj => hfr 45 j (by omega) (by omega) (by omega)) (fun j => hfr 51 j (by omega) (by omega) (by omega)), ⟨(hfr 45 17 (by omega) (by omega) (by omega)).trans g1, (hfr 45 18 (by omega) (by omega) (by omega)).trans g2, ?_, (hfr 45 19 (by omega) (by omega) (by omega)).trans g4, fun i hi => (hfr 53 i (by omega) (by omega) (by omega)).trans (g5 i hi), ?_, ?_, ?_⟩, fun k j x y => hfr k j (by omega) (by omega) (by omega), rfl⟩
  · rw [si_row (by omega), si_row (by omega), si_row (by omega)]
    exact g3
  · rw [si_at, if_pos ⟨rfl, rfl⟩]
    show nI (S.2.2.length + 1) = nI (S.2.2 ++ [(a, b)]).length
    rw [List.length_append, List.length_singleton]
  · show am_row _ ((S.2.2 ++ [(a, b)]).map (fun q => q.1))
    rw [List.map_append]
    refine row_app (fun i hi => ?_) ?_
    · rw [List.length_map] at hi
      rw [si_row (by omega), si_row (by omega), si_at, if_neg (by omega)]; exact g7 i (by rw [List.length_map]; exact hi)
    · rw [List.length_map, si_row (by omega), si_row (by omega), si_at, if_pos ⟨rfl, rfl⟩]
  · show am_row _ ((S.2.2 ++ [(a, b)]).map (fun q => q.2))
    rw [List.map_append]
    refine row_app (fun i hi => ?_) ?_
    · rw [List.length_map] at hi
      rw [si_row (by omega), si_at, if_neg (by omega), si_row (by omega)]; exact g8 i (by rw [List.length_map]; exact hi)
    · rw [List.length_map, si_row (by omega), si_at, if_pos ⟨rfl, rfl⟩]
theorem mconf_full {q : Nat} (hm : mt_ok f n τ q) (hS : mn_ok τ N S) (hl : S.2.2.length = 8) : ∃ τ', f_Model_conflictLine 45 τ = some τ' ∧ fe_ok τ' (4, q) ∧ fr_mx τ τ' := by
  have hfe := fl_fe (τ := τ) (c := 4) (o := q) (by omega) (by omega)
  unfold f_Model_conflictLine f_Model_conflictLine_B18 ja_pu
  rw [hS.2.2.2.2.2.1, if_pos (show nI S.2.2.length = 8 by rw [hl]; decide +kernel), fails0 hm.2.1, Option.bind_some, hm.1.2.1, show (4 : Int32) = nI 4 by decide +kernel, lets_ok (fl_mb hm.1), Option.bind_some, Option.bind_some]
  obtain ⟨τ1, hτ1⟩ : ∃ t : ja_S, t = ja_si (fl_st τ (nI 4) (nI q)) 45 13 ((fl_st τ (nI 4) (nI q)).1 45 13 + nI (pz_lt f n q - q)) := ⟨_, rfl⟩
  have h1 : fe_ok τ1 (4, q) := by rw [hτ1]; exact fe_p hfe (by rw [si_at, if_neg (by omega)]) (by rw [si_at, if_neg (by omega)])
  have h2 : fr_mp τ τ1 := by rw [hτ1]; exact fr_mp_tr fl_fr (fr_mp_si (by omega))
  rw [← hτ1, mnum_e h1, Option.bind_some, mnum_e h1, Option.bind_some, if_neg (fe_n0 h1), cB80_e h1]
  exact ⟨τ1, rfl, h1, fr_mx_p h2⟩
theorem mconf_ok {q : Nat} (hm : mt_ok f n τ q) (hw : pz_wd f n q = some 2) (hS : mn_ok τ N S) (h8 : S.2.1.length ≤ 8) (hl : S.2.2.length < 8) (hc : ∀ c ∈ S.2.2, c.1 < 8 ∧ c.2 < 8) : (∃ e, pz_cf f n S.2.1.length S.2.2 (pz_te f n q) = Sum.inl e ∧ ∃ τ', f_Model_conflictLine 45 τ = some τ' ∧ fe_ok τ' e ∧ fr_mx τ τ') ∨ ∃ c p1, pz_cf f n S.2.1.length S.2.2 (pz_te f n q) = Sum.inr (c, p1) ∧ c.1 < 8 ∧ c.2 < 8 ∧ ∃ τ', f_Model_conflictLine 45 τ = some τ' ∧ mzp_ok f n τ' p1 ∧ mn_ok τ' N (S.1, S.2.1, S.2.2 ++ [c]) ∧ fr_mx τ τ' := by
  obtain ⟨t1, t2, t3⟩ := mword3 (by omega) hm hw
  unfold f_Model_conflictLine f_Model_conflictLine_B18 ja_pu pz_cf
  have hS1 := mn_p hS (fr_mp_si (j := 13) (v := nI (pz_te f n q)) (by omega))
  rw [hS.2.2.2.2.2.1, if_neg (show ¬ nI S.2.2.length = 8 by rw [show (8 : Int32) = nI 8 by decide +kernel]; exact nI_ne (by omega) (by omega) (by omega)), t1, Option.bind_some, hm.1.2.1, nI_add, show q + (pz_te f n q - q) = pz_te f n q by omega, Option.bind_some, hS1.2.2.2.1]
  have h0 := mnum_ok (lo := 0) (h := S.2.1.length) (x2 := nI S.2.1.length - 1) (nI_dec (by omega)) (by omega) (mt_mq' t2)
  rw [← am_z] at h0
  have hfr0 : fr_mp τ (ja_si τ 45 13 (nI (pz_te f n q))) := fr_mp_si (by omega)
  rcases h0 with ⟨e, e1, τ1, e2, e3, e4⟩ | ⟨a, p1, e1, e2, _, e3, τ1, e4, e5, e6, e7⟩
  · rw [e1, e2, Option.bind_some, mnum_e e3, Option.bind_some, if_neg (fe_n0 e3), cB80_e e3]
    exact Or.inl ⟨e, rfl, τ1, rfl, e3, fr_mx_p (fr_mp_tr hfr0 e4)⟩
  · have hS2 := mn_p hS1 e7
    rw [e1, e4, Option.bind_some, hS2.2.2.2.1]
    dsimp only
    have h1 := mnum_ok (lo := 0) (h := S.2.1.length) (x2 := nI S.2.1.length - 1) (nI_dec (by omega)) (by omega) (mt_mq' e5)
    rw [← am_z] at h1
    rcases h1 with ⟨e, d1, τ2, d2, d3, d4⟩ | ⟨b, p2, d1, d2, _, d3, τ2, d4, d5, d6, d7⟩
    · rw [d1, d2, Option.bind_some, if_neg (fe_n0 d3), cB80_e d3]
      exact Or.inl ⟨e, rfl, τ2, rfl, d3, fr_mx_p (fr_mp_tr hfr0 (fr_mp_tr e7 d4))⟩
    · have hS3 := mn_p hS2 d7
      have hfr3 : fr_mp τ τ2 := fr_mp_tr hfr0 (fr_mp_tr e7 d7)
      rw [d1, d4, Option.bind_some, if_pos d5.2.1, isDec_ok (by omega) (by omega) hS3 (by omega) hc, Option.bind_some]
      dsimp only
      by_cases hbad : b = a ∨ pz_dc S.2.2 a b = true
      · have : (decide (a = b) || pz_dc S.2.2 a b) = true := by
          rw [Bool.or_eq_true]
          rcases hbad with h | h
          · exact Or.inl (decide_eq_true h.symm)
          · exact Or.inr h
        rw [this, if_neg bz1, if_pos hbad, fails0 d5.2.1, Option.bind_some, d6, show (3 : Int32) = nI 3 by decide +kernel, cB80_e (fl_fe (c := 3) (o := pz_sk f n p1) (by omega) (by omega))]
        exact Or.inl ⟨_, rfl, _, rfl, fl_fe (by omega) (by omega), fr_mx_p (fr_mp_tr hfr3 fl_fr)⟩
      · have : (decide (a = b) || pz_dc S.2.2 a b) = false := by
          rw [Bool.or_eq_false_iff]
          refine ⟨decide_eq_false (fun z => hbad (Or.inl z.symm)), ?_⟩
          cases h : pz_dc S.2.2 a b with
          | false => rfl
          | true => exact absurd (Or.inr h) hbad
        rw [this, if_pos (am_bz0.mpr rfl), if_neg hbad]
        obtain ⟨τ3, j1, j2, j3, j4⟩ := cB80_ok (a := a) (b := b) d5 hS3 hl
        exact Or.inr ⟨_, _, rfl, by show a < 8; omega, by show b < 8; omega, τ3, j1, mt_mq' j2, j3, fr_mx_tr (fr_mx_p hfr3) j4⟩
end MRO
