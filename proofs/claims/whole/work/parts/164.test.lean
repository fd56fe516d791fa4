/-! the shortest test for a rule -/
def am_R0 (tg : List Nat) : List bq_E := tg.map (fun t => (t, 0, 0))
theorem R0_ok {tg : List Nat} (hn : tg.Nodup) (h : ∀ t ∈ tg, t < 4096) : bq_ok (am_R0 tg) := by
  unfold am_R0
  refine ⟨?_, ?_, ?_⟩
  · rw [List.map_map, show (Prod.fst ∘ fun t : Nat => ((t, 0, 0) : bq_E)) = id from rfl, List.map_id]
    exact hn
  · intro e he
    obtain ⟨t, ht, rfl⟩ := List.mem_map.mp he
    exact ⟨h t ht, by show 0 < 12; omega⟩
  · intro i e he
    rw [List.getElem?_map] at he
    cases hx : tg[i]? with
    | none => rw [hx] at he; cases he
    | some t => rw [hx] at he; cases he; exact Nat.zero_le i
theorem R0_see {tg : List Nat} {s : Nat} : bq_see (am_R0 tg) s = none ↔ s ∉ tg := by
  rw [bq_see_none]
  unfold am_R0
  constructor
  · intro h hs
    exact h _ (List.mem_map_of_mem hs) rfl
  · intro h e he
    obtain ⟨t, ht, rfl⟩ := List.mem_map.mp he
    intro z
    exact h (z ▸ ht)
theorem mq_fr2 {σ σ' : ja_S} {N : Nat} {rs : List am_R} {us gn : Nat} (h : mq_ok σ N rs us gn) (h1 : ∀ j, σ'.1 56 j = σ.1 56 j) (h2 : ∀ j, (j = 0 ∨ j = 27 ∨ j = 28 ∨ j = 29) → σ'.1 45 j = σ.1 45 j) : mq_ok σ' N rs us gn := by
  obtain ⟨a1, a2, a3, a4, a5, a6⟩ := h
  exact ⟨am_q_fr a1 h1, (h2 0 (by omega)).trans a2, (h2 27 (by omega)).trans a3, (h2 28 (by omega)).trans a4, (h2 29 (by omega)).trans a5, a6⟩
section TS
variable {N : Nat} {rs : List am_R} {us gn : Nat} {q : List bq_E}
theorem test_L20 (hq : bq_ok q) {r : Nat} (hr : r < rs.length) : ∀ (n i : Nat) (σ : ja_S) (tg : List Nat), mq_ok σ N rs us gn → i ≤ q.length → q.length - i < n → tg.length ≤ i → (∀ (i : Nat) (e : bq_E), q[i]? = some e → σ.1 59 i = nI e.1) → σ.1 45 36 = nI tg.length → am_row (σ.1 61) tg → ∃ σ', f_Model_laysTest_L20 n 45 (nI r) (nI q.length) (nI i) σ = f_Model_laysTest_L70 ja_FU 45 0 σ' ∧ σ'.1 45 36 = nI (tg ++ ((q.drop i).filter (fun e => (am_tl N (am_rd rs r) (am_sel rs (an_not us (2 ^ r))) e.1).isSome)).map Prod.fst).length ∧ am_row (σ'.1 61) (tg ++ ((q.drop i).filter (fun e => (am_tl N (am_rd rs r) (am_sel rs (an_not us (2 ^ r))) e.1).isSome)).map Prod.fst) ∧ (∀ k j, k ≠ 61 → (k ≠ 45 ∨ j ≠ 36) → σ'.1 k j = σ.1 k j) ∧ σ'.2 = σ.2 := by
  have hlen := bq_ok_len hq
  intro n
  induction n with
  | zero => intro i σ tg _ _ h; omega
  | succ n ih =>
    intro i σ tg h hi hn htl h59 h36 h61
    have hN := h.2.2.2.2.2
    rw [f_Model_laysTest_L20]
    by_cases hil : i = q.length
    · rw [hil, if_pos (nI_le (Nat.le_refl _) (by omega)), List.drop_length]
      refine ⟨σ, rfl, ?_, ?_, fun _ _ _ _ => rfl, rfl⟩
      · simpa using h36
      · simpa using h61
    · have hi2 : i < q.length := by omega
      have hs := q_lt hq hi2
      have h59i : σ.1 59 i = nI q[i].1 := h59 i _ (List.getElem?_eq_getElem hi2)
      rw [if_neg (nI_ge (by omega) (by omega)), show ja_q 45 31 = 59 from rfl, show ja_q 45 35 = 61 from rfl, ld0 (N := 4096) rfl (by omega) (by omega), Option.bind_some, h59i, tell_ok h hr hs, Option.bind_some, nI_1, List.drop_eq_getElem_cons hi2, List.filter_cons]
      cases hf : am_tl N (am_rd rs r) (am_sel rs (an_not us (2 ^ r))) q[i].1 with
      | none =>
        rw [if_pos (show am_io none = -1 from rfl), Option.isSome_none, if_neg (fun z => by cases z)]
        exact ih (i + 1) σ tg h (by omega) (by omega) (by omega) h59 h36 h61
      | some l =>
        have hl := first_lt _ _ _ hf
        unfold ja_pu
        rw [if_neg (show ¬ am_io (some l) = -1 from nI_m1 (a := l) (by omega)), Option.isSome_some, if_pos rfl, Option.bind_some, ld0 (N := 4096) rfl (by omega) (by omega), Option.bind_some, si_row (by omega), h59i, h36, nI_1, st0' (N := 4096) rfl (by omega) (by omega), Option.bind_some, List.map_cons]
        obtain ⟨σ', e1, e2, e3, e4, e5⟩ := ih (i + 1) (ja_si (ja_si σ 45 36 (nI (tg.length + 1))) 61 tg.length (nI q[i].1)) (tg ++ [q[i].1]) (mq_fr2 h (fun j => by rw [si_row (by omega), si_row (by omega)]) (fun j hj => by rw [si_row (by omega), si_at, if_neg (by omega)])) (by omega) (by omega) (by rw [List.length_append, List.length_singleton]; omega) (fun i e he => by rw [si_row (by omega), si_row (by omega)]; exact h59 i e he) (by rw [si_row (by omega), si_at, if_pos ⟨rfl, rfl⟩, List.length_append, List.length_singleton]) (by
          intro j hj
          rw [List.length_append, List.length_singleton] at hj
          rw [si_at]
          by_cases hjt : j = tg.length
          · rw [if_pos ⟨rfl, hjt⟩, hjt, List.getD_eq_getElem?_getD, List.getElem?_append_right (Nat.le_refl _), Nat.sub_self]
            rfl
          · rw [if_neg (fun z => hjt z.2), si_row (by omega), h61 j (by omega), List.getD_eq_getElem?_getD, List.getD_eq_getElem?_getD, List.getElem?_append_left (by omega)])
        rw [List.append_assoc] at e2 e3
        refine ⟨σ', e1, e2, e3, fun k j h3 h4 => ?_, e5⟩
        rw [e4 k j h3 h4, si_at, if_neg (by omega), si_at, if_neg (by omega)]
theorem test_L70 {tg : List Nat} (hn : tg.Nodup) (ht : ∀ t ∈ tg, t < 4096) : ∀ (n i : Nat) (σ : ja_S), mq_ok σ N rs us gn → i ≤ tg.length → tg.length - i < n → σ.1 45 36 = nI tg.length → am_row (σ.1 61) tg → mf_ok σ (am_R0 (tg.take i)) → ∃ σ', f_Model_laysTest_L70 n 45 (nI i) σ = some σ' ∧ mf_ok σ' (bq_go (mq_al N rs us gn) ja_FU 0 (am_R0 tg)) ∧ σ'.1 45 36 = 0 ∧ mq_ok σ' N rs us gn ∧ (∀ k j, k ≠ 58 → k ≠ 59 → (k ≠ 45 ∨ (j ≠ 32 ∧ j ≠ 36)) → σ'.1 k j = σ.1 k j) ∧ σ'.2 = σ.2 := by
  have htl : tg.length ≤ 4096 := nodup_len 4096 tg hn ht
  intro n
  induction n with
  | zero => intro i σ _ _ h; omega
  | succ n ih =>
    intro i σ h hi hnn h36 h61 hm
    rw [f_Model_laysTest_L70, h36]
    by_cases hil : i = tg.length
    · unfold ja_pu
      rw [hil, if_pos (nI_le (Nat.le_refl _) (by omega)), Option.bind_some]
      rw [hil, List.take_length] at hm
      have hm1 : mf_ok (ja_si σ 45 36 0) (am_R0 tg) := by
        refine ⟨?_, fun i e he => ?_, fun s hs => ?_⟩
        · rw [si_at, if_neg (by omega)]; exact hm.1
        · rw [si_row (by omega)]; exact hm.2.1 i e he
        · rw [si_row (by omega)]; exact hm.2.2 s hs
      have hq1 : mq_ok (ja_si σ 45 36 0) N rs us gn := mq_fr2 h (fun j => by rw [si_row (by omega)]) (fun j hj => by rw [si_at, if_neg (by omega)])
      obtain ⟨σ', e1, e2, e3⟩ := spreads_ok hq1 hm1 (R0_ok hn ht)
      rw [e1, Option.bind_some]
      refine ⟨σ', rfl, e2, ?_, mq_fr hq1 e3, fun k j h1 h2 h3 => ?_, e3.2⟩
      · rw [e3.1 45 36 (by omega) (by omega) (by omega), si_at, if_pos ⟨rfl, rfl⟩]
      · rw [e3.1 k j h1 h2 (by omega), si_at, if_neg (by omega)]
    · have hi2 : i < tg.length := by omega
      have hget : tg.getD i 0 = tg[i] := by rw [List.getD_eq_getElem?_getD, List.getElem?_eq_getElem hi2]; rfl
      have hti : tg[i] < 4096 := ht _ (List.getElem_mem hi2)
      have hnt : (tg.take i).Nodup := hn.sublist (List.take_sublist i tg)
      have hqi : bq_ok (am_R0 (tg.take i)) := R0_ok hnt (fun t h1 => ht t (List.mem_of_mem_take h1))
      rw [if_neg (nI_ge (by omega) (by omega)), show ja_q 45 35 = 61 from rfl, ld0 (N := 4096) rfl (by omega) (by omega), Option.bind_some, h61 i hi2, hget, nI_1]
      obtain ⟨σ1, e1, e2, e3⟩ := reaches_ok hm hqi hti (d := 0) (l := 0) (by omega) (by omega)
      have hnot : tg[i] ∉ tg.take i := by
        intro hmem
        obtain ⟨j, hj⟩ := List.getElem?_of_mem hmem
        have hjl := (List.getElem?_eq_some_iff.mp hj).1
        rw [List.length_take] at hjl
        rw [List.getElem?_take_of_lt (by omega)] at hj
        have := (List.getElem?_inj (i := j) (j := i) (by omega) hn).mp (by rw [hj, List.getElem?_eq_getElem hi2])
        omega
      rw [if_pos (R0_see.mpr hnot)] at e2
      have hnext : am_R0 (tg.take i) ++ [(tg[i], 0, 0)] = am_R0 (tg.take (i + 1)) := by
        unfold am_R0
        rw [List.take_succ_eq_append_getElem hi2, List.map_append]
        rfl
      rw [hnext] at e2
      rw [am_z, e1, Option.bind_some]
      obtain ⟨σ2, g1, g2, g3, g4, g5, g6⟩ := ih (i + 1) σ1 (mq_fr h e3) (by omega) (by omega) ((e3.1 45 36 (by omega) (by omega) (by omega)).trans h36) (fun j hj => (e3.1 61 j (by omega) (by omega) (by omega)).trans (h61 j hj)) e2
      exact ⟨σ2, g1, g2, by rw [← am_z]; exact g3, g4, fun k j h1 h2 h3 => (g5 k j h1 h2 h3).trans (e3.1 k j h1 h2 (by omega)), g6.trans e3.2⟩
end TS
section TC
variable {A : am_A} {a : Nat → Int32} {σ : ja_S}
def am_T (A : am_A) (r s : Nat) : Bool := (am_tl A.1 (am_rd A.2.1 r) (am_sel A.2.1 (an_not (2 ^ A.2.1.length - 1) (2 ^ r))) s).isSome
def am_tg (A : am_A) (r : Nat) : List Nat := ((am_rl A).filter (fun e => am_T A r e.1)).map Prod.fst
def am_tr (A : am_A) (r : Nat) : List bq_E := bq_go (cq_al (am_mv A.1 0) A.2.1) ja_FU 0 (am_R0 (am_tg A r))
theorem tg_nd {r : Nat} : (am_tg A r).Nodup := by
  unfold am_tg
  exact (rl_ok (A := A)).1.sublist (List.Sublist.map _ List.filter_sublist)
theorem tg_lt {r : Nat} : ∀ t ∈ am_tg A r, t < 4096 := by
  intro t ht
  unfold am_tg at ht
  obtain ⟨e, he, rfl⟩ := List.mem_map.mp ht
  exact (rl_ok.2.1 e (List.mem_filter.mp he).1).1
theorem laysTest_ok {τ : ja_S} (hA : am_ok A) (hM : am_M A τ) {r : Nat} (hr : r < A.2.1.length) : ∃ τ', f_Model_laysTest 45 (nI r) τ = some τ' ∧ mf_ok τ' (am_tr A r) ∧ mq_ok τ' A.1 A.2.1 (2 ^ A.2.1.length - 1) 0 ∧ fr_md τ τ' := by
  have hlen := bq_ok_len (rl_ok (A := A))
  obtain ⟨τ1, τ2, g1, g2, g3, g4, g5, g6, g7⟩ := mhome hA hM
  obtain ⟨τ3, c1, c2, c3, c4⟩ := clears_ok (σ := τ2)
  have hq3 : mq_ok τ3 A.1 A.2.1 (2 ^ A.2.1.length - 1) 0 := mq_fr2 g4 (fun j => c3 56 j (by omega) (by omega)) (fun j hj => c3 45 j (by omega) (by omega))
  have h36 : τ3.1 45 36 = nI ([] : List Nat).length := by
    rw [c3 45 36 (by omega) (by omega), g6.1 45 36 (by omega) (by omega)]
    exact hM.2.2.2.2.2.2.2.2.2.2.2.2.2.trans am_z
  obtain ⟨τ4, d1, d2, d3, d4, d5⟩ := test_L20 (q := am_rl A) rl_ok hr ja_FU 0 τ3 [] hq3 (by omega) (by unfold ja_FU; omega) (by simp) (fun i e he => by rw [c3 59 i (by omega) (by omega)]; exact g3.2.1 i e he) h36 (fun j hj => by simp at hj)
  rw [List.drop_zero, List.nil_append] at d2 d3
  have d2' : τ4.1 45 36 = nI (am_tg A r).length := d2
  have d3' : am_row (τ4.1 61) (am_tg A r) := d3
  have hq4 : mq_ok τ4 A.1 A.2.1 (2 ^ A.2.1.length - 1) 0 := mq_fr2 hq3 (fun j => d4 56 j (by omega) (by omega)) (fun j hj => d4 45 j (by omega) (by omega))
  have hm4 : mf_ok τ4 (am_R0 ((am_tg A r).take 0)) := by
    refine ⟨?_, fun i e he => by simp [am_R0] at he, fun s hs => ?_⟩
    · rw [d4 45 32 (by omega) (by omega)]; exact c2.1
    · rw [d4 58 s (by omega) (by omega)]; exact c2.2.2 s hs
  obtain ⟨τ5, k1, k2, k3, k4, k5, k6⟩ := test_L70 tg_nd tg_lt ja_FU 0 τ4 hq4 (by omega) (by have := nodup_len 4096 _ (tg_nd (A := A) (r := r)) tg_lt; unfold ja_FU; omega) d2' d3' hm4
  rw [mq_cq hq4.2.2.2.2.2, sel_ones] at k2
  refine ⟨τ5, ?_, k2, k4, ?_, ?_⟩
  · unfold f_Model_laysTest
    rw [g1, Option.bind_some, g2, Option.bind_some, c1, Option.bind_some, g3.1]
    rw [← am_z] at d1 k1
    rw [d1]
    exact k1
  · intro k j h1 h2
    by_cases h36' : k = 45 ∧ j = 36
    · rw [h36'.1, h36'.2, k3]
      exact hM.2.2.2.2.2.2.2.2.2.2.2.2.2.symm
    · rw [k5 k j (by omega) (by omega) (by omega), d4 k j (by omega) (by omega), c3 k j (by omega) (by omega), g6.1 k j h1 h2]
  · rw [k6, d5, c4, g6.2]
theorem pf_first {r k : Nat} (h : am_pf A r = some k) : ∃ ek, (am_rl A)[k]? = some ek ∧ am_T A r ek.1 = true ∧ ∀ (i : Nat) (e : bq_E), (am_rl A)[i]? = some e → am_T A r e.1 = true → k ≤ i := by
  have hk := pf_lt h
  have key : ∀ (n i : Nat), am_first (fun i => (am_tl A.1 (am_rd A.2.1 r) (am_sel A.2.1 (an_not (2 ^ A.2.1.length - 1) (2 ^ r))) (bq_at (am_rl A) i)).isSome) n i = some k → am_T A r (bq_at (am_rl A) k) = true ∧ ∀ j, i ≤ j → j < k → am_T A r (bq_at (am_rl A) j) = false := by
    intro n
    induction n with
    | zero => intro i h1; cases h1
    | succ n ih =>
      intro i h1
      unfold am_first at h1
      by_cases hp : (am_tl A.1 (am_rd A.2.1 r) (am_sel A.2.1 (an_not (2 ^ A.2.1.length - 1) (2 ^ r))) (bq_at (am_rl A) i)).isSome = true
      · rw [if_pos hp] at h1
        cases h1
        exact ⟨hp, fun j h2 h3 => by omega⟩
      · rw [if_neg hp] at h1
        obtain ⟨a1, a2⟩ := ih (i + 1) h1
        refine ⟨a1, fun j h2 h3 => ?_⟩
        by_cases hji : j = i
        · rw [hji]
          unfold am_T
          simpa using hp
        · exact a2 j (by omega) h3
  obtain ⟨a1, a2⟩ := key _ _ h
  refine ⟨(am_rl A)[k], List.getElem?_eq_getElem hk, by rw [← bq_at_lt hk]; exact a1, fun i e he hT => ?_⟩
  rcases Nat.lt_or_ge i k with h1 | h1
  · exfalso
    have hil := (List.getElem?_eq_some_iff.mp he)
    have := a2 i (by omega) h1
    rw [bq_at_lt hil.1, hil.2, hT] at this
    cases this
  · exact h1
theorem wk_test (hA : am_ok A) {r k : Nat} (h : am_pf A r = some k) : ∃ pl pr ek, wk_ok (cq_al (am_mv A.1 0) A.2.1) (am_rl A) (am_tr A r) pl pr (am_tg A r).length k (am_T A r) ek := by
  obtain ⟨pl, hb⟩ := rl_bt (A := A)
  have hR := R0_ok (tg_nd (A := A) (r := r)) tg_lt
  obtain ⟨pr, hb2⟩ := bt_fin (al := cq_al (am_mv A.1 0) A.2.1) hR (fun e he => by
    unfold am_R0 at he
    obtain ⟨t, _, rfl⟩ := List.mem_map.mp he
    rfl)
  rw [show (am_R0 (am_tg A r)).length = (am_tg A r).length by unfold am_R0; rw [List.length_map]] at hb2
  obtain ⟨ek, e1, e2, e3⟩ := pf_first h
  have hpre : ∀ (i : Nat), i < (am_tg A r).length → (am_tr A r)[i]? = some ((am_tg A r).getD i 0, 0, 0) := by
    intro i hi
    obtain ⟨t, ht⟩ := bq_go_pre (al := cq_al (am_mv A.1 0) A.2.1) ja_FU 0 (am_R0 (am_tg A r))
    unfold am_tr
    rw [ht, List.getElem?_append_left (by unfold am_R0; rw [List.length_map]; exact hi)]
    unfold am_R0
    rw [List.getElem?_map, List.getElem?_eq_getElem hi, List.getD_eq_getElem?_getD, List.getElem?_eq_getElem hi]
    rfl
  refine ⟨pl, pr, ek, rl_ok, bq_go_ok _ _ _ hR, hb, hb2, ?_, ?_, ?_, e1, e2, e3⟩
  · intro i e hi he
    rw [hpre i hi] at he
    cases he
    have hm : (am_tg A r).getD i 0 ∈ am_tg A r := getD_mem hi
    unfold am_tg at hm
    obtain ⟨f, hf, hfe⟩ := List.mem_map.mp hm
    have hff := List.mem_filter.mp hf
    obtain ⟨j, hj⟩ := List.getElem?_of_mem hff.1
    exact ⟨by show am_T A r ((am_tg A r).getD i 0) = true; unfold am_tg; rw [← hfe]; exact hff.2, j, f, hj, hfe⟩
  · intro e he hT
    have hm : e.1 ∈ am_tg A r := List.mem_map_of_mem (List.mem_filter.mpr ⟨he, hT⟩)
    obtain ⟨i, hi⟩ := List.getElem?_of_mem hm
    have hil := (List.getElem?_eq_some_iff.mp hi).1
    refine ⟨i, _, hil, hpre i hil, ?_⟩
    rw [List.getD_eq_getElem?_getD, hi]
    rfl
  · intro e he l _ ha
    exact sym_leg hA (leg_rl hA e he) ha
theorem tr_none {r : Nat} (h : am_pf A r = none) : am_tr A r = [] := by
  have htg : am_tg A r = [] := by
    unfold am_tg
    rw [List.map_eq_nil_iff, List.filter_eq_nil_iff]
    intro e he hT
    obtain ⟨i, hi⟩ := List.getElem?_of_mem he
    have hil := List.getElem?_eq_some_iff.mp hi
    have hil1 := hil.1
    have h1 := (first_none _ _).mp h i (by omega) (by omega)
    rw [bq_at_lt hil.1, hil.2] at h1
    have h2 : am_T A r e.1 = false := h1
    rw [h2] at hT
    cases hT
  unfold am_tr
  rw [htg]
  rfl
/-- the chain ends at home -/
theorem ch_home {r k : Nat} {pl pr : Nat → Nat} {k0 : Nat} {T : Nat → Bool} {rr : List bq_E} {ek : bq_E} (hw : wk_ok (cq_al (am_mv A.1 0) A.2.1) (am_rl A) rr pl pr k0 k T ek) : (am_rl A)[wk_ch pl k ek.2.1]? = some (0, 0, 0) := by
  obtain ⟨f, f1, f2⟩ := wk_dist hw ek.2.1 (Nat.le_refl _)
  have hc0 : wk_ch pl k ek.2.1 = 0 := by
    rcases Nat.eq_zero_or_pos (wk_ch pl k ek.2.1) with hk | hk
    · exact hk
    · obtain ⟨_, _, _, f', _, _, _, b7⟩ := hw.2.2.1.1 _ f hk f1
      omega
  rw [hc0]
  exact all_root
theorem stateAt_ok {K : Nat} {q : List bq_E} (hK : K = 17 ∨ K = 23) (hb : bs_ok σ K q) (hq : bq_ok q) {i : Nat} {e : bq_E} (he : q[i]? = some e) : f_Search_stateAt K (nI i) σ = some (nI e.1, σ) := by
  have hlen := bq_ok_len hq
  have hi := (List.getElem?_eq_some_iff.mp he).1
  unfold f_Search_stateAt
  rw [if_neg (nI_pos (by omega)), hb.1, if_neg (nI_ge (by omega) (by omega)), (ja_qs hK).2.1, ld_or hK (by omega), Option.bind_some, hb.2.1 i e he]
theorem case_36 (hA : am_ok A) (hC : am_C A σ) (hM : am_M A σ) (hK : am_K A σ) : am_ask2 A 36 a σ := by
  have hl : A.2.1.length ≤ 24 := hA.2.2.1
  have hlen := bq_ok_len (rl_ok (A := A))
  have c1 := am_C_rules hC
  have c2 : ∀ τ : ja_S, am_M A τ → (ja_si τ 45 9 0).1 46 0 = nI A.2.1.length := fun τ h => by rw [si_row (by omega)]; exact am_M_rules h
  cases hin : am_in (a 1) A.2.1.length with
  | false =>
    refine am_asks1 hC hM hK ?_
    rw [jc_36]
    unfold f_Frame_testLength f_Model_testLength ja_pu
    rw [show ja_q 0 3 = 3 from rfl, hasRule_ok c1 (by omega), hin, Option.bind_some, if_pos (am_bz0.mpr rfl), Option.bind_some, Option.bind_some, isRule_ok (c2 σ hM) (by omega), hin, Option.bind_some, if_pos (am_bz0.mpr rfl), Option.bind_some, if_pos rfl]
  | true =>
    obtain ⟨r, hr, er⟩ := am_in_t hin (by omega)
    obtain ⟨σ1, e1, e2, e3, e4, e5, e6⟩ := without_ok hA hC hK hr
    have hM1 := am_M_cl hM e6
    obtain ⟨τ1, g1, g2, g3, g4⟩ := laysTest_ok hA (am_M_th (v := 0) hM1) hr
    refine am_asks (σ2 := τ1) ?_ hC hM e6 e3 (fr_md_tr md_th g4)
    have h58 := g2.2.2 0 (by omega)
    rw [jc_36]
    unfold f_Frame_testLength f_Model_testLength ja_pu
    rw [show ja_q 0 3 = 3 from rfl, hasRule_ok c1 (by omega), hin, Option.bind_some, if_neg bz1, er, e1, Option.bind_some]
    cases hp : am_pf A r with
    | none =>
      rw [tr_none hp] at h58
      rw [if_pos (show am_io none = -1 from rfl), Option.bind_some, Option.bind_some, isRule_ok (c2 σ1 hM1) (by omega), am_in_nI hr (by omega), Option.bind_some, if_neg bz1, g1, Option.bind_some, show ja_q 45 30 = 58 from rfl, am_z, ld0 (N := 4096) rfl (by omega) (by omega), Option.bind_some, h58, if_pos (show bs_d (bq_see [] 0) = -1 from rfl), Option.bind_some]
      exact if_pos rfl
    | some k =>
      have hk := pf_lt hp
      obtain ⟨pl, pr, ek, hw⟩ := wk_test hA hp
      have hek := hw.2.2.2.2.2.2.2.1
      have hsee := bq_see_mem rl_ok.1 (List.mem_of_getElem? hek)
      have hbd := bq_bd rl_ok hsee
      obtain ⟨x, hx⟩ := wk_far hw (Nat.le_refl _) (ch_home (r := r) hw)
      dsimp only at hx
      rw [hx, bs_d_some] at h58
      rw [show am_io (some k) = nI k from rfl, if_neg (nI_m1 (a := k) (by omega)), show ja_q 0 7 = 17 from rfl, stateAt_ok (Or.inl rfl) e4.1 rl_ok hek, Option.bind_some, movesTo_ok (Or.inl rfl) e4.1 rl_ok hbd.2.2, hsee, Option.bind_some, Option.bind_some, Option.bind_some, isRule_ok (c2 σ1 hM1) (by omega), am_in_nI hr (by omega), Option.bind_some, if_neg bz1, g1, Option.bind_some, show ja_q 45 30 = 58 from rfl, am_z, ld0 (N := 4096) rfl (by omega) (by omega), Option.bind_some, h58, if_neg (nI_m1 (by omega)), Option.bind_some, Option.bind_some]
      exact if_pos rfl
theorem nearer_L2 {τ : ja_S} {N : Nat} {rs : List am_R} {r : List bq_E} (h : mq_ok τ N rs (2 ^ rs.length - 1) 0) (hm : mf_ok τ r) {s l0 : Nat} (hs : s < 4096) (hl0 : l0 < 12) (hp : am_nr rs r s l0 = true) (hb : ∀ l, l < l0 → am_nr rs r s l = false) : ∀ (d n l : Nat), l + d = l0 → d < n → f_Model_nearer_L2 n 45 (nI s) (nI l) τ = some (nI l0, τ) := by
  intro d
  induction d with
  | zero =>
    intro n l hl hn
    obtain ⟨n, rfl⟩ : ∃ j, n = j + 1 := ⟨n - 1, by omega⟩
    have hx : s ^^^ 2 ^ l < 4096 := xor_lt30 hs (by omega)
    rw [show l0 = l by omega] at hp ⊢
    unfold am_nr at hp
    rw [Bool.and_eq_true] at hp
    rw [f_Model_nearer_L2, near_free h hs (by omega), hp.1, Option.bind_some, if_neg bz1, nI_pow (by omega), nI_xor, show ja_q 45 30 = 58 from rfl, ld0 (N := 4096) rfl hx (by omega), Option.bind_some, ld0 (N := 4096) rfl hs (by omega), Option.bind_some, hm.2.2 _ hx, hm.2.2 _ hs, if_pos (of_decide_eq_true hp.2)]
  | succ d ih =>
    intro n l hl hn
    obtain ⟨n, rfl⟩ : ∃ j, n = j + 1 := ⟨n - 1, by omega⟩
    have hx : s ^^^ 2 ^ l < 4096 := xor_lt30 hs (by omega)
    have hbl := hb l (by omega)
    unfold am_nr at hbl
    rw [f_Model_nearer_L2, near_free h hs (by omega), Option.bind_some, nI_1]
    cases ha : am_al rs s l with
    | false =>
      rw [if_pos (am_bz0.mpr rfl)]
      exact ih n (l + 1) (by omega) (by omega)
    | true =>
      rw [ha, Bool.true_and] at hbl
      rw [if_neg bz1, nI_pow (by omega), nI_xor, show ja_q 45 30 = 58 from rfl, ld0 (N := 4096) rfl hx (by omega), Option.bind_some, ld0 (N := 4096) rfl hs (by omega), Option.bind_some, hm.2.2 _ hx, hm.2.2 _ hs, if_neg (of_decide_eq_false hbl)]
      exact ih n (l + 1) (by omega) (by omega)
theorem nearer_ok {τ : ja_S} {N : Nat} {rs : List am_R} {r : List bq_E} (h : mq_ok τ N rs (2 ^ rs.length - 1) 0) (hm : mf_ok τ r) {s l0 : Nat} (hs : s < 4096) (hl0 : l0 < 12) (hp : am_nr rs r s l0 = true) (hb : ∀ l, l < l0 → am_nr rs r s l = false) : f_Model_nearer 45 (nI s) τ = some (nI l0, τ) := by
  have := nearer_L2 h hm hs hl0 hp hb l0 ja_FU 0 (by omega) (by unfold ja_FU; omega)
  rw [← am_z] at this
  exact this
/-- the walk of the reference along the way -/
theorem tmove_L55 {τ : ja_S} (hA : am_ok A) {r k : Nat} (hr : r < A.2.1.length) {pl pr : Nat → Nat} {k0 : Nat} {ek : bq_E} (hw : wk_ok (cq_al (am_mv A.1 0) A.2.1) (am_rl A) (am_tr A r) pl pr k0 k (am_T A r) ek) (h : mq_ok τ A.1 A.2.1 (2 ^ A.2.1.length - 1) 0) (hm : mf_ok τ (am_tr A r)) {idx : Nat} (hidx : idx ≤ ek.2.1) : ∀ (d n c : Nat) (e : bq_E), c + d = idx → d < n → (am_rl A)[wk_ch pl k (ek.2.1 - c)]? = some e → f_Model_testMove_L55 n 45 (nI r) (nI idx) (nI e.1) (nI c) τ = some ((if idx < ek.2.1 then nI (((am_rl A).getD (wk_ch pl k (ek.2.1 - idx - 1)) (0, 0, 0)).2.2) else am_io (am_tl A.1 (am_rd A.2.1 r) (am_sel A.2.1 (an_not (2 ^ A.2.1.length - 1) (2 ^ r))) ek.1)), τ) := by
  have hm4 : ek.2.1 < 4096 := (bq_bd rl_ok (bq_see_mem rl_ok.1 (List.mem_of_getElem? hw.2.2.2.2.2.2.2.1))).1
  have hstep : ∀ (c : Nat) (e : bq_E), c < ek.2.1 → (am_rl A)[wk_ch pl k (ek.2.1 - c)]? = some e → ∃ g : bq_E, (am_rl A)[wk_ch pl k (ek.2.1 - c - 1)]? = some g ∧ f_Model_nearer 45 (nI e.1) τ = some (nI g.2.2, τ) ∧ e.1 ^^^ 2 ^ g.2.2 = g.1 ∧ g.2.2 < 12 := by
    intro c e hc he
    obtain ⟨g, g1, g2⟩ := wk_dist hw (ek.2.1 - c - 1) (by omega)
    have he' : (am_rl A)[wk_ch pl k (ek.2.1 - c - 1 + 1)]? = some e := by
      rw [show ek.2.1 - c - 1 + 1 = ek.2.1 - c by omega]; exact he
    obtain ⟨p1, p2, p3, p4⟩ := wk_par hw (by omega) g1 he'
    obtain ⟨n1, n2, n3⟩ := nr_step hA hw (by omega) g1 he'
    have he4 := (rl_ok.2.1 e (List.mem_of_getElem? he)).1
    exact ⟨g, g1, nearer_ok h hm he4 p2 n2 n3, p4.symm, p2⟩
  intro d
  induction d with
  | zero =>
    intro n c e hc hn he
    obtain ⟨n, rfl⟩ : ∃ j, n = j + 1 := ⟨n - 1, by omega⟩
    have he4 := (rl_ok.2.1 e (List.mem_of_getElem? he)).1
    obtain ⟨x, hx⟩ := wk_far hw (by omega) he
    rw [f_Model_testMove_L55, if_pos (nI_le (by omega) (by omega)), show ja_q 45 30 = 58 from rfl, ld0 (N := 4096) rfl he4 (by omega), Option.bind_some, hm.2.2 _ he4, hx, bs_d_some]
    by_cases hlt : idx < ek.2.1
    · obtain ⟨g, g1, g2, g3, g4⟩ := hstep c e (by omega) he
      rw [if_neg (nI_ne0' (by omega) (by omega)), g2, Option.bind_some, if_pos hlt, show idx = c by omega, List.getD_eq_getElem?_getD, g1]
      rfl
    · rw [if_pos (show nI (ek.2.1 - c, x).1 = 0 by rw [show (ek.2.1 - c, x).1 = 0 by show ek.2.1 - c = 0; omega]; exact am_z.symm), tell_ok h hr he4, Option.bind_some, if_neg hlt]
      rw [show ek.2.1 - c = 0 by omega] at he
      have hek := hw.2.2.2.2.2.2.2.1
      have he' : (am_rl A)[k]? = some e := he
      rw [hek] at he'
      cases he'
      rfl
  | succ d ih =>
    intro n c e hc hn he
    obtain ⟨n, rfl⟩ : ∃ j, n = j + 1 := ⟨n - 1, by omega⟩
    obtain ⟨g, g1, g2, g3, g4⟩ := hstep c e (by omega) he
    rw [f_Model_testMove_L55, if_neg (nI_ge (by omega) (by omega)), g2, Option.bind_some, nI_pow (by omega), nI_xor, g3, nI_1]
    exact ih n (c + 1) g (by omega) (by omega) (by rw [show ek.2.1 - (c + 1) = ek.2.1 - c - 1 by omega]; exact g1)
theorem case_37 (hA : am_ok A) (hC : am_C A σ) (hM : am_M A σ) (hK : am_K A σ) : am_ask2 A 37 a σ := by
  have hl : A.2.1.length ≤ 24 := hA.2.2.1
  have hlen := bq_ok_len (rl_ok (A := A))
  have c1 := am_C_rules hC
  have c2 : ∀ τ : ja_S, am_M A τ → (ja_si τ 45 9 0).1 46 0 = nI A.2.1.length := fun τ h => by rw [si_row (by omega)]; exact am_M_rules h
  cases hin : am_in (a 1) A.2.1.length with
  | false =>
    refine am_asks1 hC hM hK ?_
    rw [jc_37]
    unfold f_Frame_testMove f_Model_testMove ja_pu
    rw [show ja_q 0 3 = 3 from rfl, hasRule_ok c1 (by omega), hin, Option.bind_some, if_pos (am_bz0.mpr rfl), Option.bind_some, Option.bind_some, isRule_ok (c2 σ hM) (by omega), hin, Option.bind_some, if_pos (am_bz0.mpr rfl), Option.bind_some, if_pos rfl]
  | true =>
    obtain ⟨r, hr, er⟩ := am_in_t hin (by omega)
    by_cases h0 : a 2 < 0
    · refine am_asks1 hC hM hK ?_
      have h0' : ¬ 0 ≤ a 2 := by
        rw [Int32.le_iff_toInt_le, Int32.toInt_zero]
        have := i32_lt0.mp h0
        omega
      rw [jc_37]
      unfold f_Frame_testMove f_Model_testMove ja_pu
      rw [show ja_q 0 3 = 3 from rfl, hasRule_ok c1 (by omega), hin, Option.bind_some, if_neg bz1, if_neg h0', Option.bind_some, Option.bind_some, isRule_ok (c2 σ hM) (by omega), hin, Option.bind_some, if_neg bz1, if_neg h0', Option.bind_some, if_pos rfl]
    · obtain ⟨idx, hidx, ei⟩ := nI_of h0
      have h0' : 0 ≤ nI idx := nI_pos' hidx
      obtain ⟨σ1, e1, e2, e3, e4, e5, e6⟩ := without_ok hA hC hK hr
      have hM1 := am_M_cl hM e6
      obtain ⟨τ1, g1, g2, g3, g4⟩ := laysTest_ok hA (am_M_th (v := 0) hM1) hr
      refine am_asks (σ2 := τ1) ?_ hC hM e6 e3 (fr_md_tr md_th g4)
      have h58 := g2.2.2 0 (by omega)
      rw [jc_37]
      unfold f_Frame_testMove f_Model_testMove ja_pu
      rw [show ja_q 0 3 = 3 from rfl, hasRule_ok c1 (by omega), hin, Option.bind_some, if_neg bz1, ei, if_pos h0', er, e1, Option.bind_some]
      cases hp : am_pf A r with
      | none =>
        rw [tr_none hp] at h58
        rw [if_pos (show am_io none = -1 from rfl), Option.bind_some, Option.bind_some, isRule_ok (c2 σ1 hM1) (by omega), am_in_nI hr (by omega), Option.bind_some, if_neg bz1, if_pos h0', g1, Option.bind_some, show ja_q 45 30 = 58 from rfl, am_z, ld0 (N := 4096) rfl (by omega) (by omega), Option.bind_some, h58, if_pos (show bs_d (bq_see [] 0) = -1 from rfl), Option.bind_some]
        exact if_pos rfl
      | some k =>
        have hk := pf_lt hp
        obtain ⟨pl, pr, ek, hw⟩ := wk_test hA hp
        have hek := hw.2.2.2.2.2.2.2.1
        have hsee := bq_see_mem rl_ok.1 (List.mem_of_getElem? hek)
        have hbd := bq_bd rl_ok hsee
        have hhome := ch_home (r := r) hw
        obtain ⟨x, hx⟩ := wk_far hw (Nat.le_refl _) hhome
        dsimp only at hx
        rw [hx, bs_d_some] at h58
        have h58' : τ1.1 58 0 = nI ek.2.1 := h58
        rw [show am_io (some k) = nI k from rfl, if_neg (nI_m1 (a := k) (by omega)), show ja_q 0 7 = 17 from rfl, stateAt_ok (Or.inl rfl) e4.1 rl_ok hek, Option.bind_some, movesTo_ok (Or.inl rfl) e4.1 rl_ok hbd.2.2, hsee, Option.bind_some, bs_d_some]
        by_cases hle : idx ≤ ek.2.1
        · have h55 := tmove_L55 hA hr hw g3 g2 hle idx ja_FU 0 (0, 0, 0) (by omega) (by unfold ja_FU; omega) (by rw [Nat.sub_zero]; exact hhome)
          dsimp only at h55
          rw [if_pos ((nI_leI (by omega) (by omega)).mpr hle)]
          by_cases hlt : idx < ek.2.1
          · obtain ⟨g, k1, k2⟩ := wk_dist hw (ek.2.1 - 1 - idx) (by omega)
            have hgd : ((am_rl A).getD (wk_ch pl k (ek.2.1 - idx - 1)) (0, 0, 0)) = g := by
              rw [List.getD_eq_getElem?_getD, show ek.2.1 - idx - 1 = ek.2.1 - 1 - idx by omega, k1]
              rfl
            rw [if_pos hlt, hgd] at h55
            rw [if_neg (nI_ge hlt (by omega)), onWay_ok (Or.inl rfl) e4.1 hw hlt k1, Option.bind_some, Option.bind_some, Option.bind_some, isRule_ok (c2 σ1 hM1) (by omega), am_in_nI hr (by omega), Option.bind_some, if_neg bz1, if_pos h0', g1, Option.bind_some, show ja_q 45 30 = 58 from rfl, am_z, ld0 (N := 4096) rfl (by omega) (by omega), Option.bind_some, h58', if_neg (nI_m1 (by omega)), Option.bind_some, if_pos ((nI_leI (by omega) (by omega)).mpr hle), h55, Option.bind_some]
            exact if_pos rfl
          · rw [if_neg hlt] at h55
            rw [if_pos ((nI_leI (by omega) (by omega)).mpr (by omega)), show ja_q 0 9 = 23 from rfl, show ja_q 23 0 = 24 from rfl, freed_ok (K := 17) (X := 24) (Or.inl rfl) (Or.inr (Or.inl rfl)) (Or.inl rfl) e4.2.2 e5 (mv_lt hA.2.1) e4.2.1 hbd.2.2, fd_full hA hr, Option.bind_some, Option.bind_some, Option.bind_some, isRule_ok (c2 σ1 hM1) (by omega), am_in_nI hr (by omega), Option.bind_some, if_neg bz1, if_pos h0', g1, Option.bind_some, show ja_q 45 30 = 58 from rfl, am_z, ld0 (N := 4096) rfl (by omega) (by omega), Option.bind_some, h58', if_neg (nI_m1 (by omega)), Option.bind_some, if_pos ((nI_leI (by omega) (by omega)).mpr hle), h55, Option.bind_some]
            exact if_pos rfl
        · rw [if_neg (fun z => hle ((nI_leI (by omega) (by omega)).mp z)), Option.bind_some, Option.bind_some, isRule_ok (c2 σ1 hM1) (by omega), am_in_nI hr (by omega), Option.bind_some, if_neg bz1, if_pos h0', g1, Option.bind_some, show ja_q 45 30 = 58 from rfl, am_z, ld0 (N := 4096) rfl (by omega) (by omega), Option.bind_some, h58', if_neg (nI_m1 (by omega)), Option.bind_some, if_neg (fun z => hle ((nI_leI (by omega) (by omega)).mp z)), Option.bind_some]
          exact if_pos rfl
end TC
