/-! the class's readers -/
def ne_ok (σ : ja_S) : Prop := σ.1 1 0 = 0 ∧ σ.1 1 1 = -1
theorem ne_tk {σ σ' : ja_S} (h : ne_ok σ) (hf : fr_tk σ σ') : ne_ok σ' := ⟨(hf.1 1 0 (by omega)).trans h.1, (hf.1 1 1 (by omega)).trans h.2⟩
theorem sh_tk {σ σ' : ja_S} {N : Nat} {rs : List am_R} {ro : List Nat} {cf : List (Nat × Nat)} (h : sh_ok σ 8 N 0 rs ro cf) (hf : fr_tk σ σ') : sh_ok σ' 8 N 0 rs ro cf := sh_ok_fr h (fun c h1 h2 => funext fun j => hf.1 c j (by omega))
section CRD
variable {f : Nat → Nat} {n : Nat} {σ : ja_S} {N : Nat} {rs : List am_R} {ro : List Nat} {cf : List (Nat × Nat)}
/-- what a reader needs -/
def rd_ok (f : Nat → Nat) (n : Nat) (σ : ja_S) (p N : Nat) (rs : List am_R) (ro : List Nat) (cf : List (Nat × Nat)) : Prop := tk_ok f n σ p ∧ ne_ok σ ∧ sh_ok σ 8 N 0 rs ro cf
theorem rd_tk {σ' : ja_S} {p p' : Nat} (h : rd_ok f n σ p N rs ro cf) (ht : tk_ok f n σ' p') (hf : fr_tk σ σ') : rd_ok f n σ' p' N rs ro cf := ⟨ht, ne_tk h.2.1 hf, sh_tk h.2.2 hf⟩
theorem rb0 {σ : ja_S} : ja_rb 0 σ = some (0, σ) := if_pos (Or.inl rfl)
theorem rb1 {σ : ja_S} : ja_rb 1 σ = some (1, σ) := if_pos (Or.inr rfl)
/-- past a word -/
theorem pass_ok {p : Nat} (h : rd_ok f n σ p N rs ro cf) : ∃ σ', f_SheetParser_step 1 σ = some σ' ∧ rd_ok f n σ' (pz_te f n (pz_sk f n p)) N rs ro cf ∧ fr_z σ σ' := by
  obtain ⟨σ', e1, e2, e3⟩ := step_ok h.1.1
  exact ⟨σ', e1, rd_tk h e2 e3, fr_tk_z e3⟩
/-- past a number -/
theorem passn_ok {p p1 : Nat} (h : rd_ok f n σ p N rs ro cf) (h1 : ps_ok f n σ (pz_sk f n p) p1) : ∃ σ', f_SheetParser_step 1 σ = some σ' ∧ rd_ok f n σ' p1 N rs ro cf ∧ fr_z σ σ' := by
  obtain ⟨σ', e1, e2, e3⟩ := step_ok h1
  exact ⟨σ', e1, rd_tk h e2 e3, fr_tk_z e3⟩
theorem m1n {v : Nat} (h : v < 100000) : ¬ nI v = -1 := nI_m1 (by omega)
theorem cond_ok {p a b : Nat} (hN : N ≤ 12) (h : rd_ok f n σ p N rs ro cf) (ha : a < 12) (hb : b < 12) : (∃ e, pz_cond f n N a b p = Sum.inl e ∧ ∃ σ', f_SheetParser_readCondition 1 8 (nI a) (nI b) σ = some (-1, σ') ∧ er_ok σ' e ∧ fr_z σ σ') ∨ ∃ c p2, pz_cond f n N a b p = Sum.inr (c, p2) ∧ (∃ σ', f_SheetParser_readCondition 1 8 (nI a) (nI b) σ = some (am_cd c, σ') ∧ rd_ok f n σ' p2 N rs ro cf ∧ fr_z σ σ') ∧ 0 < c ∧ (c - 1) / 2 < N ∧ (c - 1) / 2 ≠ a ∧ (c - 1) / 2 ≠ b := by
  have h0 : σ.1 8 0 = nI N := h.2.2.1
  unfold f_SheetParser_readCondition pz_cond
  rw [h0, show nI N - 1 = am_cd N from rfl, am_z]
  rcases numHere_ok (lo := 0) (h := N) h.1 (by omega) (by omega) with ⟨e, e1, σ1, e2, e3, e4⟩ | ⟨v, p1, e1, e2, e3, e4, e5, e6⟩
  · rw [e1, e2, Option.bind_some, if_pos rfl]
    exact Or.inl ⟨e, rfl, σ1, rfl, e3, e4⟩
  · rw [e1, e2, Option.bind_some, if_neg (m1n (by omega))]
    dsimp only
    have bad : ∀ σ0 : ja_S, σ0 = σ → ∃ σ', f_SheetParser_readCondition_B33 1 σ0 = some (-1, σ') ∧ er_ok σ' (3, pz_sk f n p) ∧ fr_z σ σ' := by
      intro σ0 h0
      subst h0
      refine ⟨cf_st σ0 3, ?_, (cf_er e5).1, (cf_er e5).2⟩
      unfold f_SheetParser_readCondition_B33
      rw [fail_ok (c := 3) (by decide +kernel), Option.bind_some]
    by_cases ca : v = a
    · rw [if_pos (show nI v = nI a by rw [ca]), if_pos (show v = a ∨ v = b from Or.inl ca)]
      exact Or.inl ⟨_, rfl, bad _ rfl⟩
    · rw [if_neg (nI_ne ca (by omega) (by omega))]
      by_cases cb : v = b
      · rw [if_pos (show nI v = nI b by rw [cb]), if_pos (show v = a ∨ v = b from Or.inr cb)]
        exact Or.inl ⟨_, rfl, bad _ rfl⟩
      · rw [if_neg (nI_ne cb (by omega) (by omega)), if_neg (by omega)]
        obtain ⟨σ2, s1, s2, s3⟩ := passn_ok h e5
        rw [s1, Option.bind_some, atText_ok (i := 6) (by omega) s2.1, Option.bind_some]
        have hw8 : pz_wd f n (pz_sk f n p1) = some 8 ↔ pz_w f n (pz_cw 6) (pz_sk f n p1) = true := wd_iff (by omega)
        have hw7 : pz_wd f n (pz_sk f n p1) = some 7 ↔ pz_w f n (pz_cw 7) (pz_sk f n p1) = true := wd_iff (by omega)
        obtain ⟨σ3, t1, t2, t3⟩ := pass_ok s2
        cases h8 : pz_w f n (pz_cw 6) (pz_sk f n p1) with
        | true =>
          rw [if_neg (show ¬ am_bz true = nI 0 by rw [← am_z]; exact bz1), if_pos (hw8.mpr h8)]
          unfold f_SheetParser_readCondition_B75
          rw [t1, Option.bind_some]
          refine Or.inr ⟨_, _, rfl, ⟨σ3, ?_, t2, fr_z_tr s3 t3⟩, by omega, by omega, by omega, by omega⟩
          rw [if_neg bz1, show (2 : Int32) = nI 2 by decide +kernel, pk_mul, nI_1, cd_pos (by omega)]
          rfl
        | false =>
          rw [if_pos (show am_bz false = nI 0 from am_z), if_neg (fun z => by rw [hw8, h8] at z; cases z), atText_ok (i := 7) (by omega) s2.1, Option.bind_some]
          cases h7 : pz_w f n (pz_cw 7) (pz_sk f n p1) with
          | true =>
            rw [if_neg (show ¬ am_bz true = nI 0 by rw [← am_z]; exact bz1), if_pos (hw7.mpr h7)]
            unfold f_SheetParser_readCondition_B75
            rw [t1, Option.bind_some]
            refine Or.inr ⟨_, _, rfl, ⟨σ3, ?_, t2, fr_z_tr s3 t3⟩, by omega, by omega, by omega, by omega⟩
            rw [if_pos (am_bz0.mpr rfl), show (2 : Int32) = nI 2 by decide +kernel, pk_mul, nI_add0, cd_pos (by omega)]
            rfl
          | false =>
            rw [if_pos (show am_bz false = nI 0 from am_z), if_neg (fun z => by rw [hw7, h7] at z; cases z), fail_ok (c := 1) (by decide +kernel), Option.bind_some]
            exact Or.inl ⟨_, rfl, _, rfl, (cf_er s2.1.1).1, fr_z_tr s3 (cf_er s2.1.1).2⟩
/-- a rule goes into the draft -/
theorem ins8_ok {r : am_R} {p : Nat} (h : rd_ok f n σ p N rs ro cf) (hl : rs.length < 24) (hr : am_rb r) : ∃ σ', f_Sheet_insertRule 8 (nI rs.length) (nI (am_pk r)) σ = some σ' ∧ rd_ok f n σ' p N (rs ++ [r]) ro cf ∧ fr_z σ σ' := by
  obtain ⟨⟨hps, hpn⟩, hne, h0, h1, ⟨r1, r2, r3, r4⟩, hw⟩ := h
  obtain ⟨σ1, a1, a2, a3, a4⟩ := cps_ok (σ := σ) (a := 9) (N := 24) (sp := rs.length) (dp := rs.length + 1) (n := rs.length - rs.length) rfl (by omega) (by omega) (by omega)
  unfold f_Sheet_insertRule ja_pu
  rw [show ja_q 8 2 = 9 from rfl, if_neg (nI_pos (by omega)), r1, if_neg (nI_nlt (Nat.le_refl _) (by omega)), show (24 : Int32) = nI 24 by decide +kernel, if_pos (nI_lt hl (by omega)), nI_1, pk_sub (Nat.le_refl _), a1, Option.bind_some, st0' (N := 24) rfl (by omega) (by omega), Option.bind_some, Option.bind_some, si_row (by omega), a3 8 3 (by omega), r1, nI_1]
  have hfr : ∀ k j, k ≠ 9 → (k ≠ 8 ∨ j ≠ 3) → (ja_si (ja_si σ1 9 rs.length (nI (am_pk r))) 8 3 (nI (rs.length + 1))).1 k j = σ.1 k j := fun k j x y => by
    rw [si_at, if_neg (by omega), si_at, if_neg (by omega), a3 k j x]
  refine ⟨_, rfl, ⟨⟨?_, hpn⟩, ⟨(hfr 1 0 (by omega) (by omega)).trans hne.1, (hfr 1 1 (by omega) (by omega)).trans hne.2⟩, (hfr 8 0 (by omega) (by omega)).trans h0, (hfr 8 1 (by omega) (by omega)).trans h1, ⟨?_, fun i hi => ?_, by rw [List.length_append, List.length_singleton]; omega, fun x hx => ?_⟩, ?_⟩, fun k j x y => hfr k j (by omega) (by omega), a4⟩
  · obtain ⟨b1, b2, b3, b4, b5, b6, b7, b8⟩ := hps
    exact ⟨(hfr 1 3 (by omega) (by omega)).trans b1, (hfr 1 4 (by omega) (by omega)).trans b2, (hfr 1 5 (by omega) (by omega)).trans b3, fun i hi => (hfr 2 i (by omega) (by omega)).trans (b4 i hi), b5, b6, b7, b8⟩
  · rw [si_at, if_pos ⟨rfl, rfl⟩, List.length_append, List.length_singleton]
  · rw [List.length_append, List.length_singleton] at hi
    rw [si_row (by omega), si_at]
    unfold am_rd
    rw [rd_app]
    by_cases c : i = rs.length
    · rw [if_pos ⟨rfl, c⟩, if_neg (by omega), if_pos c]
    · have c2 : ¬ (8 + 1 = 9 ∧ i = rs.length) := fun z => c z.2
      rw [if_neg c2, if_pos (by omega), show (8 + 1 : Nat) = 9 from rfl, a2 i, if_neg (by omega)]
      exact r2 i (by omega)
  · rcases List.mem_append.mp hx with hx | hx
    · exact r4 x hx
    · rw [List.mem_singleton.mp hx]; exact hr
  · obtain ⟨w1, w2, w3, w4, w5, w6, w7, w8, w9⟩ := hw
    refine ⟨(hfr 8 5 (by omega) (by omega)).trans w1, fun i hi => (hfr (8 + 2) i (by omega) (by omega)).trans (w2 i hi), w3, w4, (hfr 8 8 (by omega) (by omega)).trans w5, fun i hi => (hfr (8 + 3) i (by omega) (by omega)).trans (w6 i hi), fun i hi => (hfr (8 + 4) i (by omega) (by omega)).trans (w7 i hi), w8, w9⟩
theorem verb_ok {p : Nat} (h : tk_ok f n σ p) : f_SheetParser_verbHere 1 σ = some (if pz_wd f n (pz_sk f n p) = some 4 then 0 else if pz_wd f n (pz_sk f n p) = some 5 then 1 else if pz_wd f n (pz_sk f n p) = some 6 then 2 else -1, σ) := by
  have hw4 : pz_wd f n (pz_sk f n p) = some 4 ↔ pz_w f n (pz_cw 2) (pz_sk f n p) = true := wd_iff (by omega)
  have hw5 : pz_wd f n (pz_sk f n p) = some 5 ↔ pz_w f n (pz_cw 3) (pz_sk f n p) = true := wd_iff (by omega)
  have hw6 : pz_wd f n (pz_sk f n p) = some 6 ↔ pz_w f n (pz_cw 4) (pz_sk f n p) = true := wd_iff (by omega)
  unfold f_SheetParser_verbHere
  rw [atText_ok (i := 2) (by omega) h, Option.bind_some]
  cases h4 : pz_w f n (pz_cw 2) (pz_sk f n p) with
  | true => rw [if_neg bz1, if_pos (hw4.mpr h4)]
  | false =>
    rw [if_pos (am_bz0.mpr rfl), if_neg (fun z => by rw [hw4, h4] at z; cases z), atText_ok (i := 3) (by omega) h, Option.bind_some]
    cases h5 : pz_w f n (pz_cw 3) (pz_sk f n p) with
    | true => rw [if_neg bz1, if_pos (hw5.mpr h5)]
    | false =>
      rw [if_pos (am_bz0.mpr rfl), if_neg (fun z => by rw [hw5, h5] at z; cases z), atText_ok (i := 4) (by omega) h, Option.bind_some]
      cases h6 : pz_w f n (pz_cw 4) (pz_sk f n p) with
      | true => rw [if_neg bz1, if_pos (hw6.mpr h6)]
      | false => rw [if_pos (am_bz0.mpr rfl), if_neg (fun z => by rw [hw6, h6] at z; cases z)]
theorem rule_ok {p : Nat} (hN : N ≤ 12) (h : rd_ok f n σ p N rs ro cf) : (∃ e, pz_rule f n N (decide (rs.length = 24)) p = Sum.inl e ∧ ∃ σ', f_SheetParser_readRule 1 8 σ = some (0, σ') ∧ er_ok σ' e ∧ fr_z σ σ') ∨ ∃ r p1, pz_rule f n N (decide (rs.length = 24)) p = Sum.inr (r, p1) ∧ am_rok N r ∧ rs.length < 24 ∧ ∃ σ', f_SheetParser_readRule 1 8 σ = some (1, σ') ∧ rd_ok f n σ' p1 N (rs ++ [r]) ro cf ∧ fr_z σ σ' := by
  have h0 : ∀ {σ : ja_S} {p : Nat} {rs : List am_R}, rd_ok f n σ p N rs ro cf → σ.1 8 0 = nI N := fun h => h.2.2.1
  have h24 := h.2.2.2.2.1.2.2.1
  have hl3 := h.2.2.2.2.1.1
  unfold f_SheetParser_readRule pz_rule
  rw [h0 h, show nI N - 1 = am_cd N from rfl, show (0 : Int32) = nI 0 by decide +kernel]
  rcases numHere_ok (lo := 0) (h := N) h.1 (by omega) (by omega) with ⟨e, e1, σ1, e2, e3, e4⟩ | ⟨a, p1, e1, e2, e3, e4, e5, e6⟩
  · rw [e1, e2, Option.bind_some, if_pos rfl]
    exact Or.inl ⟨e, rfl, σ1, by rw [← am_z], e3, e4⟩
  · rw [e1, e2, Option.bind_some, if_neg (m1n (by omega)), hl3, show (24 : Int32) = nI 24 by decide +kernel]
    dsimp only
    by_cases hfull : rs.length = 24
    · rw [if_neg (nI_nlt (by omega) (by omega)), decide_eq_true hfull, if_pos rfl, fail_ok (c := 4) (by decide +kernel), Option.bind_some, rb0]
      exact Or.inl ⟨_, rfl, _, rfl, (cf_er e5).1, (cf_er e5).2⟩
    · rw [if_pos (nI_lt (by omega) (by omega)), decide_eq_false hfull, if_neg (show ¬ (false = true) by decide)]
      obtain ⟨σ2, s1, s2, s3⟩ := passn_ok h e5
      rw [s1, Option.bind_some, verb_ok s2.1, Option.bind_some]
      -- behind the verb
      have rest : ∀ (k : Nat) (v : Int32), k < 3 → v = nI k → (∃ e, pz_rule2 f n N a k (pz_te f n (pz_sk f n p1)) = Sum.inl e ∧ ∃ σ', (if v = (-1 : Int32) then (f_SheetParser_fail 1 (1 : Int32) σ2).bind fun v11 => ja_rb v11.1 v11.2 else (f_SheetParser_step 1 σ2).bind fun v4 => (f_SheetParser_numberHere 1 (nI 0) ((v4.1 8 0) - (1 : Int32)) v4).bind fun v5 => (if v5.1 = (-1 : Int32) then some (nI 0, v5.2) else (if v5.1 = nI a then (f_SheetParser_fail 1 (3 : Int32) v5.2).bind fun v10 => ja_rb v10.1 v10.2 else (f_SheetParser_step 1 v5.2).bind fun v6 => (f_SheetParser_atText 1 (1000 + 5) v6).bind fun v7 => (if v7.1 = nI 0 then f_SheetParser_readRule_B129 8 (nI a) v v5.1 (-1 : Int32) v7.2 else (f_SheetParser_step 1 v7.2).bind fun v8 => (f_SheetParser_readCondition 1 8 (nI a) v5.1 v8).bind fun v9 => (if v9.1 = (-1 : Int32) then some (nI 0, v9.2) else f_SheetParser_readRule_B129 8 (nI a) v v5.1 v9.1 v9.2))))) = some (0, σ') ∧ er_ok σ' e ∧ fr_z σ σ') ∨ ∃ r p1', pz_rule2 f n N a k (pz_te f n (pz_sk f n p1)) = Sum.inr (r, p1') ∧ am_rok N r ∧ rs.length < 24 ∧ ∃ σ', (if v = (-1 : Int32) then (f_SheetParser_fail 1 (1 : Int32) σ2).bind fun v11 => ja_rb v11.1 v11.2 else (f_SheetParser_step 1 σ2).bind fun v4 => (f_SheetParser_numberHere 1 (nI 0) ((v4.1 8 0) - (1 : Int32)) v4).bind fun v5 => (if v5.1 = (-1 : Int32) then some (nI 0, v5.2) else (if v5.1 = nI a then (f_SheetParser_fail 1 (3 : Int32) v5.2).bind fun v10 => ja_rb v10.1 v10.2 else (f_SheetParser_step 1 v5.2).bind fun v6 => (f_SheetParser_atText 1 (1000 + 5) v6).bind fun v7 => (if v7.1 = nI 0 then f_SheetParser_readRule_B129 8 (nI a) v v5.1 (-1 : Int32) v7.2 else (f_SheetParser_step 1 v7.2).bind fun v8 => (f_SheetParser_readCondition 1 8 (nI a) v5.1 v8).bind fun v9 => (if v9.1 = (-1 : Int32) then some (nI 0, v9.2) else f_SheetParser_readRule_B129 8 (nI a) v v5.1 v9.1 v9.2))))) = some (1, σ') ∧ rd_ok f n σ' p1' N (rs ++ [r]) ro cf ∧ fr_z σ σ' := by
        intro k v hk hv
        obtain ⟨σ3, t1, t2, t3⟩ := pass_ok s2
        unfold pz_rule2
        rw [hv, if_neg (m1n (by omega)), t1, Option.bind_some, h0 t2, show nI N - 1 = am_cd N from rfl]
        rcases numHere_ok (lo := 0) (h := N) t2.1 (by omega) (by omega) with ⟨e, b1, σ4, b2, b3, b4⟩ | ⟨b, p3, b1, b2, b3, b4, b5, b6⟩
        · rw [b1, b2, Option.bind_some, if_pos rfl]
          exact Or.inl ⟨e, rfl, σ4, by rw [am_z], b3, fr_z_tr s3 (fr_z_tr t3 b4)⟩
        · rw [b1, b2, Option.bind_some, if_neg (m1n (by omega))]
          dsimp only
          by_cases hab : b = a
          · rw [if_pos (show nI b = nI a by rw [hab]), if_pos hab, fail_ok (c := 3) (by decide +kernel), Option.bind_some, rb0]
            exact Or.inl ⟨_, rfl, _, rfl, (cf_er b5).1, fr_z_tr s3 (fr_z_tr t3 (cf_er b5).2)⟩
          · rw [if_neg (nI_ne hab (by omega) (by omega)), if_neg hab]
            obtain ⟨σ4, u1, u2, u3⟩ := passn_ok t2 b5
            have hw3 : pz_wd f n (pz_sk f n p3) = some 3 ↔ pz_w f n (pz_cw 5) (pz_sk f n p3) = true := wd_iff (by omega)
            have hf4 : fr_z σ σ4 := fr_z_tr s3 (fr_z_tr t3 u3)
            -- the rule goes in
            have last : ∀ (c p' : Nat) (x : Int32) (σ5 : ja_S), x = am_cd c → am_rok N (k, a, b, c) → rd_ok f n σ5 p' N rs ro cf → fr_z σ σ5 → ∃ σ', f_SheetParser_readRule_B129 8 (nI a) (nI k) (nI b) x σ5 = some (1, σ') ∧ rd_ok f n σ' p' N (rs ++ [(k, a, b, c)]) ro cf ∧ fr_z σ σ' := by
              intro c p' x σ5 hx hr hrd hf5
              have hrb := am_rok_rb hr hN
              have hp := pack_ok (σ := σ5) (am_rb16 hrb)
              have hp' : f_Rule_pack (nI k) (nI a) (nI b) x σ5 = some (nI (am_pk (k, a, b, c)), σ5) := by rw [hx]; exact hp
              obtain ⟨σ6, i1, i2, i3⟩ := ins8_ok (r := (k, a, b, c)) hrd (by omega) hrb
              refine ⟨σ6, ?_, i2, fr_z_tr hf5 i3⟩
              unfold f_SheetParser_readRule_B129
              rw [hp', Option.bind_some, hrd.2.2.2.2.1.1, i1, Option.bind_some]
            rw [u1, Option.bind_some, atText_ok (i := 5) (by omega) u2.1, Option.bind_some]
            cases h3 : pz_w f n (pz_cw 5) (pz_sk f n p3) with
            | false =>
              rw [if_pos (show am_bz false = nI 0 from am_z), if_neg (fun z => by rw [hw3, h3] at z; cases z)]
              have hr : am_rok N (k, a, b, 0) := ⟨hk, e3, b3, fun z => hab z.symm, Or.inl rfl⟩
              exact Or.inr ⟨_, _, rfl, hr, by omega, last 0 p3 (-1) σ4 (by decide +kernel) hr u2 hf4⟩
            | true =>
              rw [if_neg (show ¬ am_bz true = nI 0 by rw [← am_z]; exact bz1), if_pos (hw3.mpr h3)]
              obtain ⟨σ5, w1, w2, w3⟩ := pass_ok u2
              rw [w1, Option.bind_some]
              rcases cond_ok hN w2 (a := a) (b := b) (by omega) (by omega) with ⟨e, d1, σ6, d2, d3, d4⟩ | ⟨c, p5, d1, ⟨σ6, d2, d3, d4⟩, d5, d6, d7, d8⟩
              · rw [d1, d2, Option.bind_some, if_pos rfl]
                exact Or.inl ⟨e, rfl, σ6, by rw [am_z], d3, fr_z_tr hf4 (fr_z_tr w3 d4)⟩
              · have hcm : ¬ am_cd c = -1 := by rw [cd_pos (by omega)]; exact nI_m1 (by omega)
                rw [d1, d2, Option.bind_some, if_neg hcm]
                have hr : am_rok N (k, a, b, c) := ⟨hk, e3, b3, fun z => hab z.symm, Or.inr ⟨d6, d7, d8⟩⟩
                exact Or.inr ⟨_, _, rfl, hr, by omega, last c p5 (am_cd c) σ6 rfl hr d3 (fr_z_tr hf4 (fr_z_tr w3 d4))⟩
      by_cases c4 : pz_wd f n (pz_sk f n p1) = some 4
      · rw [if_pos c4, if_pos c4]
        exact rest 0 _ (by omega) am_z
      · rw [if_neg c4, if_neg c4]
        by_cases c5 : pz_wd f n (pz_sk f n p1) = some 5
        · rw [if_pos c5, if_pos c5]
          exact rest 1 _ (by omega) (show (1 : Int32) = nI 1 by decide +kernel)
        · rw [if_neg c5, if_neg c5]
          by_cases c6 : pz_wd f n (pz_sk f n p1) = some 6
          · rw [if_pos c6, if_pos c6]
            exact rest 2 _ (by omega) (show (2 : Int32) = nI 2 by decide +kernel)
          · rw [if_neg c6, if_neg c6, if_pos (show (-1 : Int32) = -1 from rfl), fail_ok (c := 1) (by decide +kernel), Option.bind_some, rb0]
            exact Or.inl ⟨_, rfl, _, rfl, (cf_er s2.1.1).1, fr_z_tr s3 (cf_er s2.1.1).2⟩
end CRD
