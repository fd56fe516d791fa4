/-! the class reads routes, conflicts, statements -/
section CST
variable {f : Nat → Nat} {n : Nat} {σ : ja_S} {N : Nat} {rs : List am_R} {ro : List Nat} {cf : List (Nat × Nat)}
theorem ps_fr {σ' : ja_S} {q e : Nat} (h : ps_ok f n σ q e) (h1 : ∀ j, (j = 3 ∨ j = 4 ∨ j = 5) → σ'.1 1 j = σ.1 1 j) (h2 : ∀ j, σ'.1 2 j = σ.1 2 j) : ps_ok f n σ' q e := by
  obtain ⟨b1, b2, b3, b4, b5, b6, b7, b8⟩ := h
  exact ⟨(h1 3 (by omega)).trans b1, (h1 4 (by omega)).trans b2, (h1 5 (by omega)).trans b3, fun i hi => (h2 i).trans (b4 i hi), b5, b6, b7, b8⟩
theorem inr8_ok {w p : Nat} (h : rd_ok f n σ p N rs ro cf) (hl : ro.length < 8) (hw : w < 4096) : ∃ σ', f_Sheet_insertRoute 8 (nI w) σ = some σ' ∧ rd_ok f n σ' p N rs (ro ++ [w]) cf ∧ fr_z σ σ' := by
  obtain ⟨⟨hps, hpn⟩, hne, h0, h1, hr, w1, w2, w3, w4, w5, w6, w7, w8, w9⟩ := h
  unfold f_Sheet_insertRoute ja_pu
  rw [w1, show (8 : Int32) = nI 8 by decide +kernel, if_neg (nI_ge hl (by omega)), show ja_q 8 4 = 10 from rfl, st0' (N := 8) rfl hl (by omega), Option.bind_some, Option.bind_some, si_row (by omega), w1, nI_1]
  have hfr : ∀ k j, k ≠ 10 → (k ≠ 8 ∨ j ≠ 5) → (ja_si (ja_si σ 10 ro.length (nI w)) 8 5 (nI (ro.length + 1))).1 k j = σ.1 k j := fun k j x y => by
    rw [si_at, if_neg (by omega), si_at, if_neg (by omega)]
  refine ⟨_, rfl, ⟨⟨ps_fr hps (fun j _ => hfr 1 j (by omega) (by omega)) (fun j => hfr 2 j (by omega) (by omega)), hpn⟩, ⟨(hfr 1 0 (by omega) (by omega)).trans hne.1, (hfr 1 1 (by omega) (by omega)).trans hne.2⟩, (hfr 8 0 (by omega) (by omega)).trans h0, (hfr 8 1 (by omega) (by omega)).trans h1, ⟨(hfr 8 3 (by omega) (by omega)).trans hr.1, fun i hi => (hfr (8 + 1) i (by omega) (by omega)).trans (hr.2.1 i hi), hr.2.2⟩, ?_, ?_, by rw [List.length_append, List.length_singleton]; omega, fun x hx => ?_, (hfr 8 8 (by omega) (by omega)).trans w5, fun i hi => (hfr (8 + 3) i (by omega) (by omega)).trans (w6 i hi), fun i hi => (hfr (8 + 4) i (by omega) (by omega)).trans (w7 i hi), w8, fun c hc => ?_⟩, fun k j x y => hfr k j (by omega) (by omega), rfl⟩
  · rw [si_at, if_pos ⟨rfl, rfl⟩, List.length_append, List.length_singleton]
  · refine row_app (fun i hi => ?_) ?_
    · rw [si_row (by omega), si_at, if_neg (by omega)]; exact w2 i hi
    · rw [si_row (by omega), si_at, if_pos ⟨rfl, rfl⟩]
  · rcases List.mem_append.mp hx with hx | hx
    · exact w4 x hx
    · rw [List.mem_singleton.mp hx]; exact hw
  · have := w9 c hc
    rw [List.length_append, List.length_singleton]
    omega
theorem inc8_ok {a b p : Nat} (h : rd_ok f n σ p N rs ro cf) (hl : cf.length < 8) (ha : a < ro.length) (hb : b < ro.length) : ∃ σ', f_Sheet_insertConflict 8 (nI a) (nI b) σ = some σ' ∧ rd_ok f n σ' p N rs ro (cf ++ [(a, b)]) ∧ fr_z σ σ' := by
  obtain ⟨⟨hps, hpn⟩, hne, h0, h1, hr, w1, w2, w3, w4, w5, w6, w7, w8, w9⟩ := h
  unfold f_Sheet_insertConflict ja_pu
  rw [w5, show (8 : Int32) = nI 8 by decide +kernel, if_neg (nI_ge hl (by omega)), show ja_q 8 6 = 11 from rfl, show ja_q 8 7 = 12 from rfl, st0' (N := 8) rfl hl (by omega), Option.bind_some, si_row (by omega), w5, st0' (N := 8) rfl hl (by omega), Option.bind_some, Option.bind_some, si_row (by omega), si_row (by omega), w5, nI_1]
  have hfr : ∀ k j, k ≠ 11 → k ≠ 12 → (k ≠ 8 ∨ j ≠ 8) → (ja_si (ja_si (ja_si σ 11 cf.length (nI a)) 12 cf.length (nI b)) 8 8 (nI (cf.length + 1))).1 k j = σ.1 k j := fun k j x z y => by
    rw [si_at, if_neg (by omega), si_at, if_neg (by omega), si_at, if_neg (by omega)]
  refine ⟨_, rfl, ⟨⟨ps_fr hps (fun j _ => hfr 1 j (by omega) (by omega) (by omega)) (fun j => hfr 2 j (by omega) (by omega) (by omega)), hpn⟩, ⟨(hfr 1 0 (by omega) (by omega) (by omega)).trans hne.1, (hfr 1 1 (by omega) (by omega) (by omega)).trans hne.2⟩, (hfr 8 0 (by omega) (by omega) (by omega)).trans h0, (hfr 8 1 (by omega) (by omega) (by omega)).trans h1, ⟨(hfr 8 3 (by omega) (by omega) (by omega)).trans hr.1, fun i hi => (hfr (8 + 1) i (by omega) (by omega) (by omega)).trans (hr.2.1 i hi), hr.2.2⟩, (hfr 8 5 (by omega) (by omega) (by omega)).trans w1, fun i hi => (hfr (8 + 2) i (by omega) (by omega) (by omega)).trans (w2 i hi), w3, w4, ?_, ?_, ?_, by rw [List.length_append, List.length_singleton]; omega, fun c hc => ?_⟩, fun k j x y => hfr k j (by omega) (by omega) (by omega), rfl⟩
  · rw [si_at, if_pos ⟨rfl, rfl⟩, List.length_append, List.length_singleton]
  · rw [List.map_append]
    refine row_app (fun i hi => ?_) ?_
    · rw [List.length_map] at hi
      rw [si_row (by omega), si_row (by omega), si_at, if_neg (by omega)]; exact w6 i (by rw [List.length_map]; exact hi)
    · rw [List.length_map, si_row (by omega), si_row (by omega), si_at, if_pos ⟨rfl, rfl⟩]
  · rw [List.map_append]
    refine row_app (fun i hi => ?_) ?_
    · rw [List.length_map] at hi
      rw [si_row (by omega), si_at, if_neg (by omega), si_row (by omega)]; exact w7 i (by rw [List.length_map]; exact hi)
    · rw [List.length_map, si_row (by omega), si_at, if_pos ⟨rfl, rfl⟩]
  · rcases List.mem_append.mp hc with hc | hc
    · exact w9 c hc
    · rw [List.mem_singleton.mp hc]; exact ⟨ha, hb⟩
/-- the levers of a route -/
theorem rt_B32 (hN : N ≤ 12) (hro : ro.length < 8) : ∀ (m c k set p : Nat) (σ : ja_S), c + (m + 1) = 13 → m + 1 < k → set < 2 ^ N → rd_ok f n σ p N rs ro cf → (∃ e, pz_rt f n N (m + 1) set p = Sum.inl e ∧ ∃ σ', f_SheetParser_readRoute_B32 (f_SheetParser_readRoute_L8 k) 1 8 (nI set) (nI c) σ = some (0, σ') ∧ er_ok σ' e ∧ fr_z σ σ') ∨ ∃ w p1, pz_rt f n N (m + 1) set p = Sum.inr (w, p1) ∧ 0 < w ∧ w < 2 ^ N ∧ ∃ σ', f_SheetParser_readRoute_B32 (f_SheetParser_readRoute_L8 k) 1 8 (nI set) (nI c) σ = some (1, σ') ∧ rd_ok f n σ' p1 N rs (ro ++ [w]) cf ∧ fr_z σ σ' := by
  have hp12 := p12 hN
  intro m
  induction m with
  | zero =>
    intro c k set p σ hc hk hset h
    obtain ⟨k, rfl⟩ : ∃ t, k = t + 1 := ⟨k - 1, by omega⟩
    unfold f_SheetParser_readRoute_B32
    rw [show σ.1 8 0 = nI N from h.2.2.1, show nI N - 1 = am_cd N from rfl]
    have e0 : pz_rt f n N 1 set p = match pz_num f n 0 N p with
      | Sum.inl e => Sum.inl e
      | Sum.inr (l, p1) => if set.testBit l = true then Sum.inl (3, pz_sk f n p) else if pz_d f n (pz_sk f n p1) = true then Sum.inr (set ||| 2 ^ l, p1) else Sum.inr (set ||| 2 ^ l, p1) := rfl
    rw [e0]
    rcases numHere_ok (lo := 0) (h := N) h.1 (by omega) (by omega) with ⟨e, e1, σ1, e2, e3, e4⟩ | ⟨l, p1, e1, e2, e3, e4, e5, e6⟩
    · rw [← am_z] at e2
      rw [e1, e2, Option.bind_some, if_pos rfl]
      exact Or.inl ⟨e, rfl, σ1, rfl, e3, e4⟩
    · rw [← am_z] at e2
      rw [e1, e2, Option.bind_some, if_neg (m1n (by omega))]
      dsimp only
      by_cases hb : set.testBit l = true
      · rw [if_pos ((nI_bit32 (by omega)).mpr hb), if_pos hb, fail_ok (c := 3) (by decide +kernel), Option.bind_some, rb0]
        exact Or.inl ⟨_, rfl, _, rfl, (cf_er e5).1, (cf_er e5).2⟩
      · rw [if_neg (fun z => hb ((nI_bit32 (by omega)).mp z)), if_neg hb]
        obtain ⟨σ2, s1, s2, s3⟩ := passn_ok h e5
        have hset2 : set ||| 2 ^ l < 2 ^ N := Nat.or_lt_two_pow hset (Nat.pow_lt_pow_right (by omega) e3)
        have hpos : 0 < set ||| 2 ^ l := Nat.lt_of_lt_of_le (Nat.two_pow_pos l) Nat.right_le_or
        obtain ⟨σ3, i1, i2, i3⟩ := inr8_ok s2 hro (w := set ||| 2 ^ l) (by omega)
        rw [s1, Option.bind_some, nI_pow (by omega), nI_or, nI_1, f_SheetParser_readRoute_L8, show (12 : Int32) = nI 12 by decide +kernel, if_pos (nI_lt (by omega) (by omega))]
        unfold f_SheetParser_readRoute_B86
        rw [i1, Option.bind_some, ite_self]
        exact Or.inr ⟨_, _, rfl, hpos, hset2, σ3, rfl, i2, fr_z_tr s3 i3⟩
  | succ m ih =>
    intro c k set p σ hc hk hset h
    obtain ⟨k, rfl⟩ : ∃ t, k = t + 1 := ⟨k - 1, by omega⟩
    unfold f_SheetParser_readRoute_B32
    rw [show σ.1 8 0 = nI N from h.2.2.1, show nI N - 1 = am_cd N from rfl]
    have e0 : pz_rt f n N (m + 1 + 1) set p = match pz_num f n 0 N p with
      | Sum.inl e => Sum.inl e
      | Sum.inr (l, p1) => if set.testBit l = true then Sum.inl (3, pz_sk f n p) else if pz_d f n (pz_sk f n p1) = true then pz_rt f n N (m + 1) (set ||| 2 ^ l) p1 else Sum.inr (set ||| 2 ^ l, p1) := rfl
    rw [e0]
    rcases numHere_ok (lo := 0) (h := N) h.1 (by omega) (by omega) with ⟨e, e1, σ1, e2, e3, e4⟩ | ⟨l, p1, e1, e2, e3, e4, e5, e6⟩
    · rw [← am_z] at e2
      rw [e1, e2, Option.bind_some, if_pos rfl]
      exact Or.inl ⟨e, rfl, σ1, rfl, e3, e4⟩
    · rw [← am_z] at e2
      rw [e1, e2, Option.bind_some, if_neg (m1n (by omega))]
      dsimp only
      by_cases hb : set.testBit l = true
      · rw [if_pos ((nI_bit32 (by omega)).mpr hb), if_pos hb, fail_ok (c := 3) (by decide +kernel), Option.bind_some, rb0]
        exact Or.inl ⟨_, rfl, _, rfl, (cf_er e5).1, (cf_er e5).2⟩
      · rw [if_neg (fun z => hb ((nI_bit32 (by omega)).mp z)), if_neg hb]
        obtain ⟨σ2, s1, s2, s3⟩ := passn_ok h e5
        have hset2 : set ||| 2 ^ l < 2 ^ N := Nat.or_lt_two_pow hset (Nat.pow_lt_pow_right (by omega) e3)
        have hpos : 0 < set ||| 2 ^ l := Nat.lt_of_lt_of_le (Nat.two_pow_pos l) Nat.right_le_or
        have hps2 := s2.1.1
        rw [s1, Option.bind_some, nI_pow (by omega), nI_or, nI_1, f_SheetParser_readRoute_L8, show (12 : Int32) = nI 12 by decide +kernel, if_neg (nI_nlt (by omega) (by omega)), if_neg (nI_ne0 (by omega) (by omega)), hps2.2.1, byteAt_ok hps2 (by have := hps2.2.2.2.2.1; have := hps2.2.2.2.2.2.2.1; omega), Option.bind_some, dig_ok hps2.2.2.2.2.2.1, Option.bind_some]
        cases hd : pz_d f n (pz_sk f n p1) with
        | true =>
          rw [if_neg bz1, if_pos (show true = true from rfl)]
          rcases ih (c + 1) k (set ||| 2 ^ l) p1 σ2 (by omega) (by omega) hset2 s2 with ⟨e, d1, σ3, d2, d3, d4⟩ | ⟨w, p2, d1, d2, d3, σ3, d4, d5, d6⟩
          · exact Or.inl ⟨e, d1, σ3, d2, d3, fr_z_tr s3 d4⟩
          · exact Or.inr ⟨w, p2, d1, d2, d3, σ3, d4, d5, fr_z_tr s3 d6⟩
        | false =>
          obtain ⟨σ3, i1, i2, i3⟩ := inr8_ok s2 hro (w := set ||| 2 ^ l) (by omega)
          rw [if_pos (am_bz0.mpr rfl), if_neg (show ¬ (false = true) by decide)]
          unfold f_SheetParser_readRoute_B86
          rw [i1, Option.bind_some]
          exact Or.inr ⟨_, _, rfl, hpos, hset2, σ3, rfl, i2, fr_z_tr s3 i3⟩
theorem route_ok {p : Nat} (hN : N ≤ 12) (hro : ro.length < 8) (h : rd_ok f n σ p N rs ro cf) : (∃ e, pz_rt f n N 13 0 (pz_te f n (pz_sk f n p)) = Sum.inl e ∧ ∃ σ', f_SheetParser_readRoute 1 8 σ = some (0, σ') ∧ er_ok σ' e ∧ fr_z σ σ') ∨ ∃ w p1, pz_rt f n N 13 0 (pz_te f n (pz_sk f n p)) = Sum.inr (w, p1) ∧ 0 < w ∧ w < 2 ^ N ∧ ∃ σ', f_SheetParser_readRoute 1 8 σ = some (1, σ') ∧ rd_ok f n σ' p1 N rs (ro ++ [w]) cf ∧ fr_z σ σ' := by
  obtain ⟨σ1, s1, s2, s3⟩ := pass_ok h
  have hF : f_SheetParser_readRoute 1 8 σ = f_SheetParser_readRoute_B32 (f_SheetParser_readRoute_L8 9999) 1 8 (nI 0) (nI 0) σ1 := by
    unfold f_SheetParser_readRoute
    rw [s1, Option.bind_some, show ja_FU = 9999 + 1 from rfl, f_SheetParser_readRoute_L8, if_neg (show ¬ (12 : Int32) < 0 by decide), if_pos (show (0 : Int32) = 0 from rfl), am_z]
  rw [hF]
  rcases rt_B32 hN hro 12 0 9999 0 _ σ1 (by omega) (by omega) (Nat.two_pow_pos N) s2 with ⟨e, d1, σ3, d2, d3, d4⟩ | ⟨w, p2, d1, d2, d3, σ3, d4, d5, d6⟩
  · exact Or.inl ⟨e, d1, σ3, d2, d3, fr_z_tr s3 d4⟩
  · exact Or.inr ⟨w, p2, d1, d2, d3, σ3, d4, d5, fr_z_tr s3 d6⟩
theorem decl_ok {a b p : Nat} (h : rd_ok f n σ p N rs ro cf) (ha : a < 100) (hb : b < 100) : f_Sheet_declaresConflict 8 (nI a) (nI b) σ = some (am_bz (pz_dc cf a b), σ) := by
  obtain ⟨hps, hne, h0, h1, hr, w1, w2, w3, w4, w5, w6, w7, w8, w9⟩ := h
  have key : ∀ (k i : Nat), i ≤ cf.length → cf.length - i < k → f_Sheet_declaresConflict_L2 k 8 (nI a) (nI b) (nI i) σ = some (am_bz (pz_dc (cf.drop i) a b), σ) := by
    intro k
    induction k with
    | zero => intro i _ h; omega
    | succ k ih =>
      intro i hi hk
      rw [f_Sheet_declaresConflict_L2, w5, show ja_q 8 6 = 11 from rfl, show ja_q 8 7 = 12 from rfl]
      by_cases hil : i = cf.length
      · rw [hil, if_pos (nI_le (Nat.le_refl _) (by omega)), List.drop_length]
        rfl
      · have hi2 : i < cf.length := by omega
        have c1 : σ.1 11 i = nI cf[i].1 := by
          have := w6 i (by rw [List.length_map]; exact hi2)
          rw [(cf_at hi2).1, List.getD_eq_getElem?_getD, List.getElem?_eq_getElem hi2] at this
          exact this
        have c2 : σ.1 12 i = nI cf[i].2 := by
          have := w7 i (by rw [List.length_map]; exact hi2)
          rw [(cf_at hi2).2, List.getD_eq_getElem?_getD, List.getElem?_eq_getElem hi2] at this
          exact this
        have hm := w9 cf[i] (List.getElem_mem hi2)
        rw [if_neg (nI_ge (by omega) (by omega)), ld0 (N := 8) rfl (by omega) (by omega), Option.bind_some, c1, List.drop_eq_getElem_cons hi2]
        have e0 : pz_dc (cf[i] :: cf.drop (i + 1)) a b = (((cf[i].1 == a && cf[i].2 == b) || (cf[i].1 == b && cf[i].2 == a)) || pz_dc (cf.drop (i + 1)) a b) := rfl
        rw [e0]
        have hB : (cf[i].1 == a && cf[i].2 == b) = false → f_Sheet_declaresConflict_B30 (f_Sheet_declaresConflict_L2 k) 8 (nI a) (nI b) (nI i) σ = some (am_bz (((cf[i].1 == a && cf[i].2 == b) || (cf[i].1 == b && cf[i].2 == a)) || pz_dc (cf.drop (i + 1)) a b), σ) := by
          intro hx
          rw [hx, Bool.false_or]
          unfold f_Sheet_declaresConflict_B30
          rw [show ja_q 8 6 = 11 from rfl, show ja_q 8 7 = 12 from rfl, ld0 (N := 8) rfl (by omega) (by omega), Option.bind_some, c1]
          by_cases d1 : cf[i].1 = b
          · rw [if_pos (show nI cf[i].1 = nI b by rw [d1]), ld0 (N := 8) rfl (by omega) (by omega), Option.bind_some, c2, show (cf[i].1 == b) = true from beq_iff_eq.mpr d1, Bool.true_and]
            by_cases d2 : cf[i].2 = a
            · rw [if_pos (show nI cf[i].2 = nI a by rw [d2]), show (cf[i].2 == a) = true from beq_iff_eq.mpr d2]
              rfl
            · rw [if_neg (nI_ne d2 (by omega) (by omega)), show (cf[i].2 == a) = false from beq_eq_false_iff_ne.mpr d2, Bool.false_or, nI_1]
              exact ih (i + 1) (by omega) (by omega)
          · rw [if_neg (nI_ne d1 (by omega) (by omega)), show (cf[i].1 == b) = false from beq_eq_false_iff_ne.mpr d1, Bool.false_and, Bool.false_or, nI_1]
            exact ih (i + 1) (by omega) (by omega)
        by_cases d1 : cf[i].1 = a
        · rw [if_pos (show nI cf[i].1 = nI a by rw [d1]), ld0 (N := 8) rfl (by omega) (by omega), Option.bind_some, c2]
          by_cases d2 : cf[i].2 = b
          · rw [if_pos (show nI cf[i].2 = nI b by rw [d2]), show (cf[i].1 == a) = true from beq_iff_eq.mpr d1, show (cf[i].2 == b) = true from beq_iff_eq.mpr d2]
            rfl
          · rw [if_neg (nI_ne d2 (by omega) (by omega))]
            exact hB (by rw [show (cf[i].2 == b) = false from beq_eq_false_iff_ne.mpr d2, Bool.and_false])
        · rw [if_neg (nI_ne d1 (by omega) (by omega))]
          exact hB (by rw [show (cf[i].1 == a) = false from beq_eq_false_iff_ne.mpr d1, Bool.false_and])
  unfold f_Sheet_declaresConflict
  have := key ja_FU 0 (by omega) (by unfold ja_FU; omega)
  rw [List.drop_zero, ← am_z] at this
  exact this
theorem confl_ok {p : Nat} (hcf : cf.length < 8) (h : rd_ok f n σ p N rs ro cf) : (∃ e, pz_cf f n ro.length cf (pz_te f n (pz_sk f n p)) = Sum.inl e ∧ ∃ σ', f_SheetParser_readConflict 1 8 σ = some (0, σ') ∧ er_ok σ' e ∧ fr_z σ σ') ∨ ∃ c p1, pz_cf f n ro.length cf (pz_te f n (pz_sk f n p)) = Sum.inr (c, p1) ∧ c.1 < ro.length ∧ c.2 < ro.length ∧ c.1 ≠ c.2 ∧ ∃ σ', f_SheetParser_readConflict 1 8 σ = some (1, σ') ∧ rd_ok f n σ' p1 N rs ro (cf ++ [c]) ∧ fr_z σ σ' := by
  have h8 := h.2.2.2.2.2.2.2.1
  obtain ⟨σ1, s1, s2, s3⟩ := pass_ok h
  unfold f_SheetParser_readConflict pz_cf
  rw [s1, Option.bind_some, show σ1.1 8 5 = nI ro.length from s2.2.2.2.2.2.1, show nI ro.length - 1 = am_cd ro.length from rfl]
  rcases numHere_ok (lo := 0) (h := ro.length) s2.1 (by omega) (by omega) with ⟨e, e1, σ2, e2, e3, e4⟩ | ⟨a, p1, e1, e2, e3, e4, e5, e6⟩
  · rw [← am_z] at e2
    rw [e1, e2, Option.bind_some, if_pos rfl]
    exact Or.inl ⟨e, rfl, σ2, rfl, e3, fr_z_tr s3 e4⟩
  · rw [← am_z] at e2
    obtain ⟨σ2, t1, t2, t3⟩ := passn_ok s2 e5
    rw [e1, e2, Option.bind_some, if_neg (m1n (by omega)), t1, Option.bind_some, show σ2.1 8 5 = nI ro.length from t2.2.2.2.2.2.1, show nI ro.length - 1 = am_cd ro.length from rfl]
    dsimp only
    rcases numHere_ok (lo := 0) (h := ro.length) t2.1 (by omega) (by omega) with ⟨e, b1, σ3, b2, b3, b4⟩ | ⟨b, p2, b1, b2, b3, b4, b5, b6⟩
    · rw [← am_z] at b2
      rw [b1, b2, Option.bind_some, if_pos rfl]
      exact Or.inl ⟨e, rfl, σ3, rfl, b3, fr_z_tr s3 (fr_z_tr t3 b4)⟩
    · rw [← am_z] at b2
      rw [b1, b2, Option.bind_some, if_neg (m1n (by omega))]
      dsimp only
      have bad : ∀ σ0 : ja_S, σ0 = σ2 → ∃ σ', f_SheetParser_readConflict_B60 1 σ0 = some (0, σ') ∧ er_ok σ' (3, pz_sk f n p1) ∧ fr_z σ σ' := by
        intro σ0 h0
        subst h0
        refine ⟨cf_st σ0 3, ?_, (cf_er b5).1, fr_z_tr s3 (fr_z_tr t3 (cf_er b5).2)⟩
        unfold f_SheetParser_readConflict_B60
        rw [fail_ok (c := 3) (by decide +kernel), Option.bind_some, rb0]
      by_cases hab : b = a
      · rw [if_pos (show nI b = nI a by rw [hab]), if_pos (show b = a ∨ pz_dc cf a b = true from Or.inl hab)]
        exact Or.inl ⟨_, rfl, bad _ rfl⟩
      · rw [if_neg (nI_ne hab (by omega) (by omega)), decl_ok t2 (by omega) (by omega), Option.bind_some]
        cases hdc : pz_dc cf a b with
        | true =>
          rw [if_neg bz1, if_pos (Or.inr rfl)]
          exact Or.inl ⟨_, rfl, bad _ rfl⟩
        | false =>
          rw [if_pos (am_bz0.mpr rfl), if_neg (fun z => by rcases z with z | z; exact hab z; cases z)]
          obtain ⟨σ3, u1, u2, u3⟩ := passn_ok t2 b5
          obtain ⟨σ4, i1, i2, i3⟩ := inc8_ok u2 hcf e3 b3
          rw [u1, Option.bind_some, i1, Option.bind_some]
          exact Or.inr ⟨_, _, rfl, e3, b3, fun z => hab z.symm, σ4, rfl, i2, fr_z_tr s3 (fr_z_tr t3 (fr_z_tr u3 i3))⟩
theorem semi_ok {p : Nat} (h : rd_ok f n σ p N rs ro cf) : (pz_sc f n p = false ∧ ∃ σ', f_SheetParser_readSemicolon 1 σ = some (0, σ') ∧ er_ok σ' (1, pz_sk f n p) ∧ fr_z σ σ') ∨ (pz_sc f n p = true ∧ ∃ σ', f_SheetParser_readSemicolon 1 σ = some (1, σ') ∧ rd_ok f n σ' (pz_sk f n p + 1) N rs ro cf ∧ fr_z σ σ') := by
  unfold f_SheetParser_readSemicolon
  rw [atText_ok (i := 1) (by omega) h.1, Option.bind_some, sc_w h.1.2]
  have hcw : pz_cw 1 = [59] := rfl
  rw [hcw]
  cases hw : pz_w f n [59] (pz_sk f n p) with
  | false =>
    rw [if_pos (am_bz0.mpr rfl), fail_ok (c := 1) (by decide +kernel), Option.bind_some, rb0]
    exact Or.inl ⟨rfl, _, rfl, (cf_er h.1.1).1, (cf_er h.1.1).2⟩
  | true =>
    obtain ⟨σ1, s1, s2, s3⟩ := pass_ok h
    have hte : pz_te f n (pz_sk f n p) = pz_sk f n p + 1 := by
      unfold pz_w at hw
      rw [Bool.and_eq_true] at hw
      exact of_decide_eq_true hw.1
    rw [hte] at s2
    rw [if_neg bz1, s1, Option.bind_some]
    exact Or.inr ⟨rfl, σ1, rfl, s2, s3⟩
/-- what a sheet must keep to -/
def pz_ok (N : Nat) (S : pz_S) : Prop := S.1.length ≤ 24 ∧ (∀ r ∈ S.1, am_rok N r) ∧ S.2.1.length ≤ 8 ∧ (∀ w ∈ S.2.1, 0 < w ∧ w < 2 ^ N) ∧ S.2.2.length ≤ 8 ∧ ∀ c ∈ S.2.2, c.1 < S.2.1.length ∧ c.2 < S.2.1.length ∧ c.1 ≠ c.2
theorem stm_ok {p : Nat} {S : pz_S} (hN : N ≤ 12) (hS : pz_ok N S) (h : rd_ok f n σ p N S.1 S.2.1 S.2.2) : (∃ e, pz_st f n N S p = Sum.inl e ∧ ∃ σ', f_SheetParser_readStatement 1 8 σ = some (0, σ') ∧ er_ok σ' e ∧ fr_z σ σ') ∨ ∃ S1 p1, pz_st f n N S p = Sum.inr (S1, p1) ∧ pz_ok N S1 ∧ S1.1.length + S1.2.1.length + S1.2.2.length = S.1.length + S.2.1.length + S.2.2.length + 1 ∧ ∃ σ', f_SheetParser_readStatement 1 8 σ = some (1, σ') ∧ rd_ok f n σ' p1 N S1.1 S1.2.1 S1.2.2 ∧ fr_z σ σ' := by
  obtain ⟨o1, o2, o3, o4, o5, o6⟩ := id hS
  have hps := h.1.1
  have hb := byteAt_ok (i := pz_sk f n p) hps (by have := hps.2.2.2.2.1; have := hps.2.2.2.2.2.2.1; omega)
  unfold f_SheetParser_readStatement pz_st
  rw [hps.2.1, hb, Option.bind_some, dig_ok hps.2.2.2.2.2.1, Option.bind_some]
  cases hd : pz_d f n (pz_sk f n p) with
  | true =>
    rw [if_neg bz1, if_pos (show true = true from rfl)]
    rcases rule_ok hN h with ⟨e, e1, σ1, e2, e3, e4⟩ | ⟨r, p1, e1, e2, e3, σ1, e4, e5, e6⟩
    · rw [e1, e2, Option.bind_some, rb0]
      exact Or.inl ⟨e, rfl, σ1, rfl, e3, e4⟩
    · rw [e1, e4, Option.bind_some, rb1]
      refine Or.inr ⟨_, _, rfl, ⟨?_, ?_, o3, o4, o5, o6⟩, ?_, σ1, rfl, e5, e6⟩
      · show (S.1 ++ [r]).length ≤ 24
        rw [List.length_append, List.length_singleton]; omega
      · intro x hx
        rcases List.mem_append.mp hx with hx | hx
        · exact o2 x hx
        · rw [List.mem_singleton.mp hx]; exact e2
      · show (S.1 ++ [r]).length + S.2.1.length + S.2.2.length = _
        rw [List.length_append, List.length_singleton]; omega
  | false =>
    have hw1 : pz_wd f n (pz_sk f n p) = some 1 ↔ pz_w f n (pz_cw 8) (pz_sk f n p) = true := wd_iff (by omega)
    have hw2 : pz_wd f n (pz_sk f n p) = some 2 ↔ pz_w f n (pz_cw 9) (pz_sk f n p) = true := wd_iff (by omega)
    have hl5 : σ.1 8 5 = nI S.2.1.length := h.2.2.2.2.2.1
    have hl8 : σ.1 8 8 = nI S.2.2.length := h.2.2.2.2.2.2.2.2.2.1
    rw [if_pos (am_bz0.mpr rfl), if_neg (show ¬ (false = true) by decide), atText_ok (i := 8) (by omega) h.1, Option.bind_some]
    cases h1 : pz_w f n (pz_cw 8) (pz_sk f n p) with
    | true =>
      rw [if_neg bz1, if_pos (hw1.mpr h1), hl5, show (8 : Int32) = nI 8 by decide +kernel]
      by_cases hfull : S.2.1.length = 8
      · rw [if_pos (nI_le (by omega) (by omega)), if_pos hfull, fail_ok (c := 4) (by decide +kernel), Option.bind_some, rb0]
        exact Or.inl ⟨_, rfl, _, rfl, (cf_er hps).1, (cf_er hps).2⟩
      · rw [if_neg (nI_ge (by omega) (by omega)), if_neg hfull]
        rcases route_ok hN (by omega) h with ⟨e, e1, σ1, e2, e3, e4⟩ | ⟨w, p1, e1, e2, e3, σ1, e4, e5, e6⟩
        · rw [e1, e2, Option.bind_some, rb0]
          exact Or.inl ⟨e, rfl, σ1, rfl, e3, e4⟩
        · rw [e1, e4, Option.bind_some, rb1]
          refine Or.inr ⟨_, _, rfl, ⟨o1, o2, ?_, ?_, o5, ?_⟩, ?_, σ1, rfl, e5, e6⟩
          · show (S.2.1 ++ [w]).length ≤ 8
            rw [List.length_append, List.length_singleton]; omega
          · intro x hx
            rcases List.mem_append.mp hx with hx | hx
            · exact o4 x hx
            · rw [List.mem_singleton.mp hx]; exact ⟨e2, e3⟩
          · intro c hc
            have := o6 c hc
            show c.1 < (S.2.1 ++ [w]).length ∧ c.2 < (S.2.1 ++ [w]).length ∧ _
            rw [List.length_append, List.length_singleton]
            exact ⟨by omega, by omega, this.2.2⟩
          · show S.1.length + (S.2.1 ++ [w]).length + S.2.2.length = _
            rw [List.length_append, List.length_singleton]; omega
    | false =>
      rw [if_pos (am_bz0.mpr rfl), if_neg (fun z => by rw [hw1, h1] at z; cases z), atText_ok (i := 9) (by omega) h.1, Option.bind_some]
      cases h2 : pz_w f n (pz_cw 9) (pz_sk f n p) with
      | true =>
        rw [if_neg bz1, if_pos (hw2.mpr h2), hl8, show (8 : Int32) = nI 8 by decide +kernel]
        by_cases hfull : S.2.2.length = 8
        · rw [if_pos (nI_le (by omega) (by omega)), if_pos hfull, fail_ok (c := 4) (by decide +kernel), Option.bind_some, rb0]
          exact Or.inl ⟨_, rfl, _, rfl, (cf_er hps).1, (cf_er hps).2⟩
        · rw [if_neg (nI_ge (by omega) (by omega)), if_neg hfull]
          rcases confl_ok (by omega) h with ⟨e, e1, σ1, e2, e3, e4⟩ | ⟨c, p1, e1, e2, e3, e7, σ1, e4, e5, e6⟩
          · rw [e1, e2, Option.bind_some, rb0]
            exact Or.inl ⟨e, rfl, σ1, rfl, e3, e4⟩
          · rw [e1, e4, Option.bind_some, rb1]
            refine Or.inr ⟨_, _, rfl, ⟨o1, o2, o3, o4, ?_, ?_⟩, ?_, σ1, rfl, e5, e6⟩
            · show (S.2.2 ++ [c]).length ≤ 8
              rw [List.length_append, List.length_singleton]; omega
            · intro x hx
              rcases List.mem_append.mp hx with hx | hx
              · exact o6 x hx
              · rw [List.mem_singleton.mp hx]; exact ⟨e2, e3, e7⟩
            · show S.1.length + S.2.1.length + (S.2.2 ++ [c]).length = _
              rw [List.length_append, List.length_singleton]; omega
      | false =>
        rw [if_pos (am_bz0.mpr rfl), if_neg (fun z => by rw [hw2, h2] at z; cases z), fail_ok (c := 1) (by decide +kernel), Option.bind_some, rb0]
        exact Or.inl ⟨_, rfl, _, rfl, (cf_er hps).1, (cf_er hps).2⟩
end CST
