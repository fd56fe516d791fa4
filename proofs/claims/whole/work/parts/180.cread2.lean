/-! the reading goes on -/
section PG
variable {f : Nat → Nat} {n : Nat}
theorem num_pg {lo h p v e : Nat} (hp : p ≤ n) (hx : pz_num f n lo h p = Sum.inr (v, e)) : p ≤ e ∧ e ≤ n := by
  have := num_inr hp hx
  omega
theorem tes {p : Nat} (hp : p ≤ n) : p ≤ pz_te f n (pz_sk f n p) ∧ pz_te f n (pz_sk f n p) ≤ n := by
  have h1 := sk_le (f := f) hp
  have h2 := te_le (f := f) h1.2
  omega
theorem cond_pg {N a b p c p2 : Nat} (hp : p ≤ n) (hx : pz_cond f n N a b p = Sum.inr (c, p2)) : p ≤ p2 ∧ p2 ≤ n := by
  unfold pz_cond at hx
  cases h1 : pz_num f n 0 N p with
  | inl e => rw [h1] at hx; cases hx
  | inr x =>
    obtain ⟨v, p1⟩ := x
    rw [h1] at hx
    have g1 := num_pg hp h1
    have g2 := tes (f := f) g1.2
    dsimp only at hx
    split at hx
    · cases hx
    · split at hx
      · cases hx; omega
      · split at hx
        · cases hx; omega
        · cases hx
theorem rule2_pg {N a k p p2 : Nat} {r : am_R} (hp : p ≤ n) (hx : pz_rule2 f n N a k p = Sum.inr (r, p2)) : p ≤ p2 ∧ p2 ≤ n := by
  unfold pz_rule2 at hx
  cases h1 : pz_num f n 0 N p with
  | inl e => rw [h1] at hx; cases hx
  | inr x =>
    obtain ⟨v, p1⟩ := x
    rw [h1] at hx
    have g1 := num_pg hp h1
    have g2 := tes (f := f) g1.2
    dsimp only at hx
    split at hx
    · cases hx
    · split at hx
      · cases h2 : pz_cond f n N a v (pz_te f n (pz_sk f n p1)) with
        | inl e => rw [h2] at hx; cases hx
        | inr y =>
          obtain ⟨c, p3⟩ := y
          rw [h2] at hx
          have g3 := cond_pg g2.2 h2
          cases hx
          omega
      · cases hx; omega
theorem rule_pg {N p p2 : Nat} {fl : Bool} {r : am_R} (hp : p ≤ n) (hx : pz_rule f n N fl p = Sum.inr (r, p2)) : p ≤ p2 ∧ p2 ≤ n := by
  unfold pz_rule at hx
  cases h1 : pz_num f n 0 N p with
  | inl e => rw [h1] at hx; cases hx
  | inr x =>
    obtain ⟨v, p1⟩ := x
    rw [h1] at hx
    have g1 := num_pg hp h1
    have g2 := tes (f := f) g1.2
    dsimp only at hx
    split at hx
    · cases hx
    · split at hx
      · have := rule2_pg g2.2 hx
        omega
      · split at hx
        · have := rule2_pg g2.2 hx
          omega
        · split at hx
          · have := rule2_pg g2.2 hx
            omega
          · cases hx
theorem rt_pg {N : Nat} : ∀ (m set p w p2 : Nat), p ≤ n → pz_rt f n N m set p = Sum.inr (w, p2) → p ≤ p2 ∧ p2 ≤ n
  | 0, set, p, w, p2, hp, hx => by
    cases hx
    omega
  | m + 1, set, p, w, p2, hp, hx => by
    unfold pz_rt at hx
    cases h1 : pz_num f n 0 N p with
    | inl e => rw [h1] at hx; cases hx
    | inr x =>
      obtain ⟨v, p1⟩ := x
      rw [h1] at hx
      have g1 := num_pg hp h1
      dsimp only at hx
      split at hx
      · cases hx
      · split at hx
        · have := rt_pg m _ p1 w p2 g1.2 hx
          omega
        · cases hx; omega
theorem cf_pg {R p p2 : Nat} {cf : List (Nat × Nat)} {c : Nat × Nat} (hp : p ≤ n) (hx : pz_cf f n R cf p = Sum.inr (c, p2)) : p ≤ p2 ∧ p2 ≤ n := by
  unfold pz_cf at hx
  cases h1 : pz_num f n 0 R p with
  | inl e => rw [h1] at hx; cases hx
  | inr x =>
    obtain ⟨v, p1⟩ := x
    rw [h1] at hx
    have g1 := num_pg hp h1
    dsimp only at hx
    cases h2 : pz_num f n 0 R p1 with
    | inl e => rw [h2] at hx; cases hx
    | inr y =>
      obtain ⟨u, p3⟩ := y
      rw [h2] at hx
      have g2 := num_pg g1.2 h2
      dsimp only at hx
      split at hx
      · cases hx
      · cases hx; omega
theorem st_pg {N p p2 : Nat} {S S1 : pz_S} (hp : p ≤ n) (hx : pz_st f n N S p = Sum.inr (S1, p2)) : p ≤ p2 ∧ p2 ≤ n := by
  have g0 := tes (f := f) hp
  unfold pz_st at hx
  split at hx
  · cases h1 : pz_rule f n N (decide (S.1.length = 24)) p with
    | inl e => rw [h1] at hx; cases hx
    | inr x =>
      obtain ⟨r, p1⟩ := x
      rw [h1] at hx
      have := rule_pg hp h1
      cases hx
      exact this
  · split at hx
    · split at hx
      · cases hx
      · cases h1 : pz_rt f n N 13 0 (pz_te f n (pz_sk f n p)) with
        | inl e => rw [h1] at hx; cases hx
        | inr x =>
          obtain ⟨r, p1⟩ := x
          rw [h1] at hx
          have := rt_pg _ _ _ _ _ g0.2 h1
          cases hx
          omega
    · split at hx
      · split at hx
        · cases hx
        · cases h1 : pz_cf f n S.2.1.length S.2.2 (pz_te f n (pz_sk f n p)) with
          | inl e => rw [h1] at hx; cases hx
          | inr x =>
            obtain ⟨r, p1⟩ := x
            rw [h1] at hx
            have := cf_pg g0.2 h1
            cases hx
            omega
      · cases hx
theorem sc_lt {p : Nat} (h : pz_sc f n p = true) : pz_sk f n p < n := by
  unfold pz_sc at h
  rw [Bool.and_eq_true] at h
  exact of_decide_eq_true h.1
end PG
section CLP
variable {f : Nat → Nat} {n : Nat} {σ : ja_S} {N : Nat}
theorem lp_end {k c : Nat} {σ : ja_S} : f_SheetParser_read_L45 (k + 1) 1 8 0 (nI c) σ = some (0, σ) := by
  rw [f_SheetParser_read_L45]
  by_cases h : (900 : Int32) ≤ nI c
  · rw [if_pos h, rb0]
  · rw [if_neg h, if_pos (show (0 : Int32) = 0 from rfl), rb0]
theorem lp_L45 (hN : N ≤ 12) : ∀ (m k c p : Nat) (S : pz_S) (σ : ja_S), n - p < m → n - p + 1 < k → c ≤ p → pz_ok N S → rd_ok f n σ p N S.1 S.2.1 S.2.2 → (∃ e, pz_lp f n N m S p = Sum.inl e ∧ ∃ σ', f_SheetParser_read_L45 k 1 8 1 (nI c) σ = some (0, σ') ∧ er_ok σ' e ∧ fr_z σ σ') ∨ ∃ S1 p1, pz_lp f n N m S p = Sum.inr S1 ∧ pz_ok N S1 ∧ ∃ σ', f_SheetParser_read_L45 k 1 8 1 (nI c) σ = some (1, σ') ∧ rd_ok f n σ' p1 N S1.1 S1.2.1 S1.2.2 ∧ fr_z σ σ' := by
  intro m
  induction m with
  | zero => intro k c p S σ h; omega
  | succ m ih =>
    intro k c p S σ hm hk hc hS h
    obtain ⟨k, rfl⟩ : ∃ t, k = t + 1 := ⟨k - 1, by omega⟩
    have hps := h.1.1
    have hpn := h.1.2
    have hn9 := hps.2.2.2.2.1
    have hsk := sk_le (f := f) hpn
    rw [f_SheetParser_read_L45, hps.1, hps.2.1]
    unfold pz_lp
    by_cases hlt : pz_sk f n p < n
    · rw [if_pos hlt, if_neg (show ¬ (900 : Int32) ≤ nI c by rw [show (900 : Int32) = nI 900 by decide +kernel]; exact nI_ge (by omega) (by omega)), if_neg i1n0, if_neg (nI_ge hlt (by omega))]
      rcases stm_ok hN hS h with ⟨e, e1, σ1, e2, e3, e4⟩ | ⟨S1, p1, e1, e2, e3, σ1, e4, e5, e6⟩
      · obtain ⟨k, rfl⟩ : ∃ t, k = t + 1 := ⟨k - 1, by omega⟩
        rw [e1, e2, Option.bind_some, if_pos (show (0 : Int32) = 0 from rfl), nI_1, lp_end]
        exact Or.inl ⟨e, rfl, σ1, rfl, e3, e4⟩
      · have hpg := st_pg hpn e1
        rw [e1, e4, Option.bind_some, if_neg i1n0]
        dsimp only
        rcases semi_ok e5 with ⟨g1, σ2, g2, g3, g4⟩ | ⟨g1, σ2, g2, g3, g4⟩
        · obtain ⟨k, rfl⟩ : ∃ t, k = t + 1 := ⟨k - 1, by omega⟩
          rw [g1, g2, Option.bind_some, if_pos (show (0 : Int32) = 0 from rfl), nI_1, lp_end, if_neg (show ¬ (false = true) by decide)]
          exact Or.inl ⟨_, rfl, σ2, rfl, g3, fr_z_tr e6 g4⟩
        · have hsl := sc_lt g1
          have hsk1 := sk_le (f := f) hpg.2
          rw [g1, g2, Option.bind_some, if_neg i1n0, nI_1, if_pos (show true = true from rfl)]
          rcases ih k (c + 1) (pz_sk f n p1 + 1) S1 σ2 (by omega) (by omega) (by omega) e2 g3 with ⟨e, d1, σ3, d2, d3, d4⟩ | ⟨S2, p2, d1, d2, σ3, d3, d4, d5⟩
          · exact Or.inl ⟨e, d1, σ3, d2, d3, fr_z_tr e6 (fr_z_tr g4 d4)⟩
          · exact Or.inr ⟨S2, p2, d1, d2, σ3, d3, d4, fr_z_tr e6 (fr_z_tr g4 d5)⟩
    · rw [if_neg hlt]
      refine Or.inr ⟨S, p, rfl, hS, σ, ?_, h, fr_z_rf⟩
      by_cases h9 : (900 : Int32) ≤ nI c
      · rw [if_pos h9, rb1]
      · rw [if_neg h9, if_neg i1n0, if_pos (nI_le (by omega) (by omega)), rb1]
/-- the class reads a sheet -/
theorem read_ok {m : Nat} (hlen : σ.1 1 6 = nI m) (hnm : n ≤ m) (hm9 : m ≤ 900) (hf : ∀ i, i < n → f i < 256) (ht : ∀ i, i < n → σ.1 2 i = nI (f i)) : (∃ e, pz_all f n = Sum.inl e ∧ ∃ σ', f_SheetParser_read 1 (nI n) 8 σ = some (0, σ') ∧ er_ok σ' e ∧ fr_z (ja_si σ 1 6 0) σ') ∨ ∃ N S, pz_all f n = Sum.inr (N, S) ∧ 2 ≤ N ∧ N ≤ 12 ∧ pz_ok N S ∧ ∃ σ', f_SheetParser_read 1 (nI n) 8 σ = some (1, σ') ∧ ne_ok σ' ∧ sh_ok σ' 8 N 0 S.1 S.2.1 S.2.2 ∧ fr_z (ja_si σ 1 6 0) σ' := by
  obtain ⟨σ0, hσ0⟩ : ∃ τ : ja_S, τ = ja_si (ja_si (ja_si (ja_si (ja_si σ 1 3 (nI n)) 1 6 0) 1 0 0) 1 1 (-1)) 1 5 0 := ⟨_, rfl⟩
  have hn : n ≤ 900 := by omega
  have f0 : ∀ k j, (k ≠ 1 ∨ j = 6) → σ0.1 k j = (ja_si σ 1 6 0).1 k j := fun k j hk => by
    by_cases h6 : k = 1 ∧ j = 6
    · rw [hσ0, si_at, if_neg (by omega), si_at, if_neg (by omega), si_at, if_neg (by omega), si_at, if_pos h6, si_at, if_pos h6]
    · rw [hσ0, si_at, if_neg (by omega), si_at, if_neg (by omega), si_at, if_neg (by omega), si_at, if_neg h6, si_at, if_neg (by omega), si_at, if_neg h6]
  have hmin : (if nI m < nI n then nI m else nI n) = nI n := if_neg (nI_nlt hnm (by omega))
  have hps0 : ps_ok f n (ja_si σ0 1 4 (nI 0)) 0 0 := by
    refine ⟨?_, ?_, ?_, fun i hi => ?_, hn, hf, by omega, by omega⟩
    · rw [si_at, if_neg (by omega), hσ0, si_at, if_neg (by omega), si_at, if_neg (by omega), si_at, if_neg (by omega), si_at, if_neg (by omega), si_at, if_pos ⟨rfl, rfl⟩]
    · rw [si_at, if_pos ⟨rfl, rfl⟩]
    · rw [si_at, if_neg (by omega), hσ0, si_at, if_pos ⟨rfl, rfl⟩]; exact am_z
    · rw [si_row (by omega), f0 2 i (by omega), si_row (by omega)]; exact ht i hi
  have h5 : σ0.1 1 5 = nI 0 := by rw [hσ0, si_at, if_pos ⟨rfl, rfl⟩]; exact am_z
  obtain ⟨σ1, s1, s2, s3⟩ := step_L8 ja_FU (ja_si σ0 1 4 (nI 0)) 0 0 hps0 (by unfold ja_FU; omega)
  have hstep : f_SheetParser_step 1 σ0 = some σ1 := by
    unfold f_SheetParser_step ja_pu
    rw [Option.bind_some, h5]
    exact s1
  have htk : tk_ok f n σ1 0 := ⟨s2, by omega⟩
  have hne1 : ne_ok σ1 := by
    refine ⟨?_, ?_⟩
    · rw [s3.1 1 0 (by omega), si_at, if_neg (by omega), hσ0, si_at, if_neg (by omega), si_at, if_neg (by omega), si_at, if_pos ⟨rfl, rfl⟩]
    · rw [s3.1 1 1 (by omega), si_at, if_neg (by omega), hσ0, si_at, if_neg (by omega), si_at, if_pos ⟨rfl, rfl⟩]
  have hfz1 : fr_z (ja_si σ 1 6 0) σ1 := ⟨fun k j x y => by rw [s3.1 k j (by omega), si_at, if_neg (by omega), f0 k j x], by rw [s3.2, si_l, hσ0]; rfl⟩
  have hF : f_SheetParser_read 1 (nI n) 8 σ = (f_SheetParser_readHead 1 8 σ1).bind fun v6 => f_SheetParser_read_L45 ja_FU 1 8 v6.1 0 v6.2 := by
    unfold f_SheetParser_read ja_pu
    rw [hlen, hmin, Option.bind_some, Option.bind_some, Option.bind_some, Option.bind_some, Option.bind_some, ← hσ0, hstep, Option.bind_some]
  rw [hF]
  unfold f_SheetParser_readHead pz_all
  have hw0 : pz_wd f n (pz_sk f n 0) = some 0 ↔ pz_w f n (pz_cw 0) (pz_sk f n 0) = true := wd_iff (by omega)
  have fail0 : ∀ (σ2 : ja_S) (e : Nat × Nat), er_ok σ2 e → fr_z (ja_si σ 1 6 0) σ2 → ∃ σ', (some ((0 : Int32), σ2)).bind (fun v6 => f_SheetParser_read_L45 ja_FU 1 8 v6.1 0 v6.2) = some (0, σ') ∧ er_ok σ' e ∧ fr_z (ja_si σ 1 6 0) σ' := by
    intro σ2 e h1 h2
    refine ⟨σ2, ?_, h1, h2⟩
    rw [Option.bind_some, show ja_FU = 9999 + 1 from rfl]
    have := lp_end (k := 9999) (c := 0) (σ := σ2)
    rw [← am_z] at this
    exact this
  rw [atText_ok (i := 0) (by omega) htk, Option.bind_some]
  cases h0 : pz_w f n (pz_cw 0) (pz_sk f n 0) with
  | false =>
    rw [if_pos (am_bz0.mpr rfl), if_neg (fun z => by rw [hw0, h0] at z; cases z), fail_ok (c := 1) (by decide +kernel), Option.bind_some, rb0]
    exact Or.inl ⟨_, rfl, fail0 _ _ (cf_er s2).1 (fr_z_tr hfz1 (cf_er s2).2)⟩
  | true =>
    obtain ⟨σ2, t1, t2, t3⟩ := step_ok s2
    rw [if_neg bz1, if_pos (hw0.mpr h0), t1, Option.bind_some, show (2 : Int32) = nI 2 by decide +kernel, show (12 : Int32) = am_cd 13 by decide +kernel]
    have hfz2 : fr_z (ja_si σ 1 6 0) σ2 := fr_z_tr hfz1 (fr_tk_z t3)
    rcases numHere_ok (lo := 2) (h := 13) t2 (by omega) (by omega) with ⟨e, e1, σ3, e2, e3, e4⟩ | ⟨N, p1, e1, e2, e3, e4, e5, e6⟩
    · rw [e1, e2, Option.bind_some, if_pos rfl]
      exact Or.inl ⟨_, rfl, fail0 _ _ e3 (fr_z_tr hfz2 e4)⟩
    · rw [e1, e2, Option.bind_some, if_neg (m1n (by omega))]
      dsimp only
      -- the draft is wiped
      obtain ⟨σ3, hσ3⟩ : ∃ τ : ja_S, τ = ja_si (ja_si (ja_si (ja_si (ja_si σ2 8 0 (nI N)) 8 1 0) 8 3 0) 8 5 0) 8 8 0 := ⟨_, rfl⟩
      have f3 : ∀ k j, k ≠ 8 → σ3.1 k j = σ2.1 k j := fun k j hk => by rw [hσ3, si_row hk, si_row hk, si_row hk, si_row hk, si_row hk]
      have hwipe : f_Sheet_wipe 8 (nI N) σ2 = some σ3 := by
        unfold f_Sheet_wipe ja_pu
        rw [Option.bind_some, Option.bind_some, Option.bind_some, Option.bind_some, Option.bind_some, ← hσ3]
      have hsh3 : sh_ok σ3 8 N 0 [] [] [] := by
        refine ⟨?_, ?_, ⟨?_, (fun i hi => by simp at hi), (by simp), (fun r hr => by cases hr)⟩, ?_, (fun i hi => by simp at hi), (by simp), (fun r hr => by cases hr), ?_, (fun i hi => by simp at hi), (fun i hi => by simp at hi), (by simp), (fun r hr => by cases hr)⟩
        · rw [hσ3, si_at, if_neg (by omega), si_at, if_neg (by omega), si_at, if_neg (by omega), si_at, if_neg (by omega), si_at, if_pos ⟨rfl, rfl⟩]
        · rw [hσ3, si_at, if_neg (by omega), si_at, if_neg (by omega), si_at, if_neg (by omega), si_at, if_pos ⟨rfl, rfl⟩]; exact am_z
        · rw [hσ3, si_at, if_neg (by omega), si_at, if_neg (by omega), si_at, if_pos ⟨rfl, rfl⟩]; exact am_z
        · rw [hσ3, si_at, if_neg (by omega), si_at, if_pos ⟨rfl, rfl⟩]; exact am_z
        · rw [hσ3, si_at, if_pos ⟨rfl, rfl⟩]; exact am_z
      have hps3 : ps_ok f n σ3 (pz_sk f n (pz_te f n (pz_sk f n 0))) p1 := ps_fr e5 (fun j _ => f3 1 j (by omega)) (fun j => f3 2 j (by omega))
      obtain ⟨σ4, u1, u2, u3⟩ := step_ok hps3
      have hne2 := ne_tk hne1 t3
      have hne3 : ne_ok σ3 := ⟨(f3 1 0 (by omega)).trans hne2.1, (f3 1 1 (by omega)).trans hne2.2⟩
      have hrd4 : rd_ok f n σ4 p1 N [] [] [] := ⟨u2, ne_tk hne3 u3, sh_tk hsh3 u3⟩
      have hfz4 : fr_z (ja_si σ 1 6 0) σ4 := fr_z_tr hfz2 (fr_z_tr ⟨fun k j x y => f3 k j (by omega), by rw [hσ3]; rfl⟩ (fr_tk_z u3))
      rw [hwipe, Option.bind_some, u1, Option.bind_some]
      rcases semi_ok hrd4 with ⟨g1, σ5, g2, g3, g4⟩ | ⟨g1, σ5, g2, g3, g4⟩
      · rw [g1, g2, Option.bind_some, rb0, if_neg (show ¬ (false = true) by decide)]
        exact Or.inl ⟨_, rfl, fail0 _ _ g3 (fr_z_tr hfz4 g4)⟩
      · rw [g1, g2, Option.bind_some, rb1, if_pos (show true = true from rfl), Option.bind_some]
        have hS0 : pz_ok N ([], [], []) := ⟨(by simp), (fun r hr => by cases hr), (by simp), (fun r hr => by cases hr), (by simp), (fun r hr => by cases hr)⟩
        rcases lp_L45 (f := f) (n := n) (N := N) (by omega) 1000 ja_FU 0 (pz_sk f n p1 + 1) ([], [], []) σ5 (by omega) (by unfold ja_FU; omega) (by omega) hS0 g3 with ⟨e, d1, σ6, d2, d3, d4⟩ | ⟨S1, p2, d1, d2, σ6, d3, d4, d5⟩
        · rw [d1]
          rw [← am_z] at d2
          exact Or.inl ⟨e, rfl, σ6, d2, d3, fr_z_tr hfz4 (fr_z_tr g4 d4)⟩
        · rw [d1]
          rw [← am_z] at d3
          exact Or.inr ⟨N, S1, rfl, e4, by omega, d2, σ6, d3, d4.2.1, d4.2.2, fr_z_tr hfz4 (fr_z_tr g4 d5)⟩
end CLP
