/-! what the answers are, as functions of the sheet -/
def am_mv (N g : Nat) : Nat := an_not (2 ^ N - 1) g
def cq_al (mv : Nat) (L : List am_R) (s l : Nat) : Bool := mv.testBit l && am_al L s l
def am_q0 (mv : Nat) (L : List am_R) : List bq_E := bq_all (cq_al mv L) 0
def am_has (q : List bq_E) (m : Nat) : Bool := q.any (fun e => decide (e.1 &&& m = m))
def am_st (q : List bq_E) (ro : List Nat) : Nat := am_bits (fun k => am_has q (ro.getD k 0)) ro.length 0 0
def am_op (q : List bq_E) (ro : List Nat) (cf : List (Nat × Nat)) : Nat := am_bits (fun k => am_has q (ro.getD (cf.getD k (0, 0)).1 0 ||| ro.getD (cf.getD k (0, 0)).2 0)) cf.length 0 0
def am_lk (i : Nat) : am_R := (0, i / 12, i % 12, 0)
def am_lw (i : Nat) : Nat := 100 * (i / 12) + i % 12
def am_prop (mv : Nat) (L : List am_R) (ro : List Nat) (w1 w2 due : Nat) : Option Nat := am_first (fun i => decide (i / 12 ≠ i % 12) && ((w1.testBit (i / 12) && w2.testBit (i % 12)) && decide (an_not due (am_st (am_q0 mv (L ++ [am_lk i])) ro) = 0))) 144 0
def am_pl (mv : Nat) (ro : List Nat) (cf : List (Nat × Nat)) (due : Nat) : Nat → Nat → List am_R → List Nat → Option (List Nat)
  | 0, _, _, acc => some acc
  | n + 1, c, L, acc => if (am_op (am_q0 mv L) ro cf).testBit c = true then match am_prop mv L ro (ro.getD (cf.getD c (0, 0)).1 0) (ro.getD (cf.getD c (0, 0)).2 0) due with
      | none => none
      | some i => am_pl mv ro cf due n (c + 1) (L ++ [am_lk i]) (acc ++ [am_lw i])
    else am_pl mv ro cf due n (c + 1) L acc
def am_ml (a b x : Nat) : Nat := if x = b then a else x
def am_mr (a b : Nat) (r : am_R) : am_R := (r.1, am_ml a b r.2.1, am_ml a b r.2.2.1, if r.2.2.2 = 0 then 0 else 2 * am_ml a b ((r.2.2.2 - 1) / 2) + (r.2.2.2 - 1) % 2 + 1)
def am_mw (a b w : Nat) : Nat := if w.testBit b = true then an_not w (2 ^ b) ||| 2 ^ a else w
/-- rules, routes, levers that are gone -/
abbrev am_G : Type := List am_R × List Nat × Nat
def am_mg (a b : Nat) (G : am_G) : am_G := (G.1.map (am_mr a b), G.2.1.map (am_mw a b), G.2.2 ||| 2 ^ b)
def am_gq (N : Nat) (G : am_G) : List bq_E := am_q0 (am_mv N G.2.2) G.1
def am_due (N : Nat) (cf : List (Nat × Nat)) (st op : Nat) (G : am_G) : Bool := decide (an_not st (am_st (am_gq N G) G.2.1) = 0) && decide (an_not (am_op (am_gq N G) G.2.1 cf) op = 0)
def am_m1 (N : Nat) (cf : List (Nat × Nat)) (st op : Nat) (G : am_G) : Option Nat := am_first (fun i => decide (i / 12 < i % 12 ∧ i % 12 < N) && ((!G.2.2.testBit (i / 12) && !G.2.2.testBit (i % 12)) && am_due N cf st op (am_mg (i / 12) (i % 12) G))) 144 0
def am_lv (N : Nat) (cf : List (Nat × Nat)) (st op : Nat) : Nat → am_G → Nat
  | 0, _ => 0
  | n + 1, G => match am_m1 N cf st op G with
    | none => 0
    | some i => 1 + am_lv N cf st op n (am_mg (i / 12) (i % 12) G)
/-- of a frame -/
def am_rl (A : am_A) : List bq_E := am_q0 (am_mv A.1 0) A.2.1
def am_plan (A : am_A) : Option (List Nat) := am_pl (am_mv A.1 0) A.2.2.1 A.2.2.2.1 (am_st (am_rl A) A.2.2.1) A.2.2.2.1.length 0 A.2.1 []
def am_lam (A : am_A) : Nat := A.1 - am_lv A.1 A.2.2.2.1 (am_st (am_rl A) A.2.2.1) (am_op (am_rl A) A.2.2.1 A.2.2.2.1) 12 (A.2.1, A.2.2.1, 0)
/-! the class's searches and what it has kept -/
def hm_ok (A : am_A) (σ : ja_S) : Prop := bs_ok σ 17 (am_rl A) ∧ σ.1 17 2 = nI (am_mv A.1 0) ∧ lk_ok σ 18 A.2.1
def pl_ok (A : am_A) (σ : ja_S) : Prop := match am_plan A with
  | none => σ.1 29 3 = -1
  | some ls => σ.1 29 3 = nI ls.length ∧ ls.length ≤ 8 ∧ am_row (σ.1 33) ls
def am_K (A : am_A) (σ : ja_S) : Prop := (∃ q, bs_ok σ 17 q ∧ bq_ok q) ∧ (∃ q, bs_ok σ 23 q ∧ bq_ok q) ∧ (σ.1 0 8 = 0 ∨ (σ.1 0 8 = 1 ∧ hm_ok A σ)) ∧ (σ.1 29 0 = 0 ∨ (σ.1 29 0 = 1 ∧ pl_ok A σ)) ∧ (σ.1 0 11 = 0 ∨ (σ.1 0 11 = 1 ∧ σ.1 0 1 = nI (am_lam A)))
/-- the class has changed nothing but what it keeps for searches -/
def fr_cl (σ σ' : ja_S) : Prop := ∀ k j, (45 ≤ k ∨ (k < 17 ∧ (k ≠ 0 ∨ j = 6))) → σ'.1 k j = σ.1 k j
theorem fr_cl_rf {σ : ja_S} : fr_cl σ σ := fun _ _ _ => rfl
theorem fr_cl_tr {a b c : ja_S} (h1 : fr_cl a b) (h2 : fr_cl b c) : fr_cl a c := fun k j h => (h2 k j h).trans (h1 k j h)
theorem am_C_cl {A : am_A} {σ σ' : ja_S} (h : am_C A σ) (hc : fr_cl σ σ') : am_C A σ' := by
  have hr : ∀ k, k < 17 → k ≠ 0 → σ'.1 k = σ.1 k := fun k h1 h2 => funext fun j => hc k j (by omega)
  unfold am_C am_sh at h ⊢
  rw [hc 0 6 (by omega), hr 1 (by omega) (by omega), hr 2 (by omega) (by omega), hr 3 (by omega) (by omega), hr 13 (by omega) (by omega), hr 14 (by omega) (by omega), hr 15 (by omega) (by omega), hr 16 (by omega) (by omega), hr (3 + 1) (by omega) (by omega), hr (3 + 2) (by omega) (by omega), hr (3 + 3) (by omega) (by omega), hr (3 + 4) (by omega) (by omega)]
  exact h
theorem am_M_cl {A : am_A} {σ σ' : ja_S} (h : am_M A σ) (hc : fr_cl σ σ') : am_M A σ' := am_M_ch h (fun k hk => funext fun j => hc k j (by omega))
/-- the reference has changed nothing but what it asks with -/
def fr_md (σ σ' : ja_S) : Prop := (∀ k j, k < 52 → (k ≠ 45 ∨ j = 0 ∨ j = 1 ∨ j = 2 ∨ j = 8 ∨ j = 11 ∨ j = 14 ∨ j = 15 ∨ j = 36) → σ'.1 k j = σ.1 k j) ∧ σ'.2 = σ.2
theorem fr_md_rf {σ : ja_S} : fr_md σ σ := ⟨fun _ _ _ _ => rfl, rfl⟩
theorem fr_md_tr {a b c : ja_S} (h1 : fr_md a b) (h2 : fr_md b c) : fr_md a c := ⟨fun k j x y => (h2.1 k j x y).trans (h1.1 k j x y), h2.2.trans h1.2⟩
theorem fr_m_md {a b : ja_S} (h : fr_m a b) : fr_md a b := ⟨fun k j x y => h.1 k j (by omega) (by omega) (by omega), h.2⟩
theorem am_M_md {A : am_A} {σ σ' : ja_S} (h : am_M A σ) (hc : fr_md σ σ') : am_M A σ' := by
  have hr : ∀ k, k < 52 → k ≠ 45 → σ'.1 k = σ.1 k := fun k h1 h2 => funext fun j => hc.1 k j h1 (by omega)
  unfold am_M at h ⊢
  rw [hr 46 (by omega) (by omega), hr 47 (by omega) (by omega), hr 48 (by omega) (by omega), hr 49 (by omega) (by omega), hr 50 (by omega) (by omega), hr 51 (by omega) (by omega), hc.1 45 0 (by omega) (by omega), hc.1 45 1 (by omega) (by omega), hc.1 45 2 (by omega) (by omega), hc.1 45 8 (by omega) (by omega), hc.1 45 11 (by omega) (by omega), hc.1 45 14 (by omega) (by omega), hc.1 45 15 (by omega) (by omega), hc.1 45 36 (by omega) (by omega)]
  exact h
theorem md_th {σ : ja_S} {v : Int32} : fr_md σ (ja_si σ 45 9 v) := ⟨fun k j h1 h2 => by rw [si_at, if_neg (by omega)], rfl⟩
theorem md_us {σ : ja_S} : fr_md σ (am_us σ) := ⟨fun k j h1 h2 => by
    by_cases hk : k = 45
    · rw [hk, us_45 (by omega)]
    · rw [us_row hk (by omega) (by omega)], rfl⟩
/-- am_K holds still where its cells do -/
theorem am_K_fr {A : am_A} {σ σ' : ja_S} (h : am_K A σ) (h1 : ∀ k j, 17 ≤ k → k < 45 → σ'.1 k j = σ.1 k j) (h2 : ∀ j, (j = 8 ∨ j = 11 ∨ j = 1) → σ'.1 0 j = σ.1 0 j) (h3 : σ'.2 = σ.2) : am_K A σ' := by
  have hr : ∀ k, 17 ≤ k → k < 45 → σ'.1 k = σ.1 k := fun k h4 h5 => funext fun j => h1 k j h4 h5
  unfold am_K hm_ok pl_ok bs_ok lk_ok at h ⊢
  rw [h3, hr 17 (by omega) (by omega), hr 23 (by omega) (by omega), hr (17 + 4) (by omega) (by omega), hr (17 + 5) (by omega) (by omega), hr (23 + 4) (by omega) (by omega), hr (23 + 5) (by omega) (by omega), hr 29 (by omega) (by omega), hr 33 (by omega) (by omega), h2 8 (by omega), h2 11 (by omega), h2 1 (by omega)]
  exact h
/-- a call that asks with searches -/
def am_ask2 (A : am_A) (n : Nat) (a : Nat → Int32) (σ : ja_S) : Prop := ∃ σ2, ja_case n a σ = some σ2 ∧ am_C A σ2 ∧ am_M A σ2 ∧ am_K A σ2
theorem am_asks {A : am_A} {n : Nat} {a : Nat → Int32} {σ σ1 σ2 : ja_S} (h : ja_case n a σ = some σ2) (hC : am_C A σ) (hM : am_M A σ) (hc : fr_cl σ σ1) (hK : am_K A σ1) (hm : fr_md σ1 σ2) : am_ask2 A n a σ := by
  refine ⟨σ2, h, ?_, am_M_md (am_M_cl hM hc) hm, am_K_fr hK (fun k j h1 h2 => hm.1 k j (by omega) (by omega)) (fun j _ => hm.1 0 j (by omega) (by omega)) hm.2⟩
  exact am_C_ch (am_C_cl hC hc) (fun k hk => funext fun j => hm.1 k j (by omega) (by omega))
theorem tb_ones {N l : Nat} : (2 ^ N - 1).testBit l = decide (l < N) := Nat.testBit_two_pow_sub_one N l
theorem mv_bit {N g l : Nat} (hN : N ≤ 12) : (am_mv N g).testBit l = (decide (l < N) && !g.testBit l) := by
  unfold am_mv
  by_cases h : l < 32
  · rw [an_not_bit h, tb_ones]
  · unfold an_not
    rw [Nat.testBit_and, tb_ones, decide_eq_false (by omega)]
    rfl
theorem mv_lt {N g : Nat} (hN : N ≤ 12) : am_mv N g < 4096 := by
  have h1 : 2 ^ N ≤ 2 ^ 12 := Nat.pow_le_pow_right (by omega) hN
  have h2 : am_mv N g ≤ 2 ^ N - 1 := Nat.and_le_left
  have h3 : 0 < 2 ^ N := Nat.two_pow_pos N
  omega
theorem mq_cq {N : Nat} {rs : List am_R} {us gn : Nat} (hN : N ≤ 12) : mq_al N rs us gn = cq_al (am_mv N gn) (am_sel rs us) := by
  funext s l
  unfold mq_al cq_al
  rw [mv_bit hN, Bool.and_assoc]
theorem am_rd_lt {rs : List am_R} {k : Nat} (h : k < rs.length) : am_rd rs k = rs[k] := by
  unfold am_rd
  rw [List.getD_eq_getElem?_getD, List.getElem?_eq_getElem h]
  rfl
theorem sel_all {rs : List am_R} {us : Nat} (h : ∀ k, k < rs.length → us.testBit k = true) : am_sel rs us = rs := by
  unfold am_sel
  rw [List.filter_eq_self.mpr (fun k hk => h k (List.mem_range.mp hk))]
  apply List.ext_getElem
  · rw [List.length_map, List.length_range]
  · intro i h1 h2
    rw [List.getElem_map, List.getElem_range, am_rd_lt h2]
theorem sel_ones {rs : List am_R} : am_sel rs (2 ^ rs.length - 1) = rs := sel_all (fun k hk => by rw [tb_ones, decide_eq_true hk])
/-- the reference begins to ask -/
theorem mstart {A : am_A} {τ : ja_S} (hA : am_ok A) (hM : am_M A τ) : ∃ τ1, f_Model_usesSheet 45 τ = some τ1 ∧ mq_ok τ1 A.1 A.2.1 (2 ^ A.2.1.length - 1) 0 ∧ am_row (τ1.1 57) A.2.2.1 ∧ fr_md τ τ1 := by
  have hl : A.2.2.1.length ≤ 8 := hA.2.2.2.2.1
  refine ⟨am_us τ, uses_ok, ⟨am_q_us hA hM, (us_45 (by omega)).trans hM.1, (us_used hA hM).1, (us_used hA hM).2.1, (us_used hA hM).2.2, hA.2.1⟩, ?_, md_us⟩
  intro i hi
  rw [us_57 (by omega)]
  exact hM.2.2.2.2.2.2.1 i hi
theorem mlays {A : am_A} {τ : ja_S} (h : mq_ok τ A.1 A.2.1 (2 ^ A.2.1.length - 1) 0) : ∃ τ1, f_Model_laysFrom 45 0 τ = some τ1 ∧ mf_ok τ1 (am_rl A) ∧ fr_m τ τ1 := by
  obtain ⟨τ1, e1, e2, e3⟩ := laysFrom_ok h (s := 0) (by omega)
  rw [mq_cq h.2.2.2.2.2, sel_ones] at e2
  exact ⟨τ1, by rw [am_z]; exact e1, e2, e3⟩
theorem rl_ok {A : am_A} : bq_ok (am_rl A) := bq_all_ok (by omega)
/-- the class's sheet -/
theorem am_C_shr {A : am_A} {σ : ja_S} (hA : am_ok A) (hC : am_C A σ) : sh_r σ 3 A.2.1 := ⟨am_C_rules hC, fun _ hi => am_C_rule hC hi, hA.2.2.1, fun r hr => am_rok_rb (hA.2.2.2.1 r hr) hA.2.1⟩
theorem movable_ok {σ : ja_S} {k N g : Nat} (h0 : σ.1 k 0 = nI N) (h1 : σ.1 k 1 = nI g) (hN : N ≤ 12) : f_Sheet_movableLevers k σ = some (nI (am_mv N g), σ) := by
  have hp := p12 hN
  unfold f_Sheet_movableLevers f_Sheet_allLevers
  rw [Option.bind_some, h0, h1, nI_not, nI_pow (by omega), show (1 : Int32) = nI 1 by decide +kernel, pk_sub (by omega), nI_and]
  rfl
theorem allRules_ok {σ : ja_S} {k n : Nat} (h : σ.1 k 3 = nI n) (hn : n ≤ 24) : f_Sheet_allRules k σ = some (nI (2 ^ n - 1), σ) := by
  have hp : 0 < 2 ^ n := Nat.two_pow_pos n
  unfold f_Sheet_allRules
  rw [h, nI_pow (by omega), show (1 : Int32) = nI 1 by decide +kernel, pk_sub (by omega)]
theorem searched_ok {A : am_A} {σ : ja_S} (hA : am_ok A) (hC : am_C A σ) (hK : am_K A σ) : ∃ σ', f_Frame_searchedHome 0 σ = some σ' ∧ am_C A σ' ∧ am_K A σ' ∧ hm_ok A σ' ∧ fr_cl σ σ' := by
  obtain ⟨k1, k2, k3, k4, k5⟩ := id hK
  unfold f_Frame_searchedHome ja_pu
  rcases k3 with h8 | ⟨h8, hh⟩
  · have hr := am_C_shr hA hC
    obtain ⟨σ1, e1, e2, e3⟩ := enforceAll_ok (X := 18) (k := 3) (m := 2 ^ A.2.1.length - 1) (Or.inl rfl) (Or.inl rfl) hr
    rw [sel_ones] at e2
    obtain ⟨q, hb, hq⟩ := k1
    have hb1 : bs_ok σ1 17 q := bs_ok_fr hb (fun k _ => by rw [e3.1])
    have c0 : σ.1 3 0 = nI A.1 := hC.2.2.2.2.1.1
    have c1 : σ.1 3 1 = nI 0 := hC.2.2.2.2.1.2.1
    obtain ⟨σ2, g1, g2, g3, g4⟩ := explore_ok (K := 17) (al := am_al A.2.1) (mv := am_mv A.1 0) (s := 0) (Or.inl rfl) (mv_lt hA.2.1) (by omega) (fun τ ht s l hs hl => allows_ok (X := 18) (Or.inl rfl) (lk_fr e2 (by rw [ht]) (by rw [ht])) hs hl) hb1 hq
    have hfr : fr_cl σ (ja_si σ2 0 8 1) := fun k j h => by
      rw [si_at, if_neg (by omega), g4.1 k j (by omega) (by omega) (by omega), e3.1]
    have hhm : hm_ok A (ja_si σ2 0 8 1) := by
      refine ⟨bs_ok_fr g2 (fun k hk => si_row (by omega)), ?_, lk_fr e2 (by rw [si_l, g4.2]) (by rw [si_l, g4.2])⟩
      rw [si_row (by omega)]; exact g3
    refine ⟨ja_si σ2 0 8 1, ?_, am_C_cl hC hfr, ⟨⟨_, hhm.1, rl_ok⟩, ?_, Or.inr ⟨?_, hhm⟩, ?_, ?_⟩, hhm, hfr⟩
    · rw [if_pos h8, show ja_q 0 3 = 3 from rfl, show ja_q 0 7 = 17 from rfl, show ja_q 17 0 = 18 from rfl, allRules_ok hr.1 hr.2.2.1, Option.bind_some, e1, Option.bind_some, movable_ok (N := A.1) (g := 0) (by rw [e3.1]; exact c0) (by rw [e3.1]; exact c1) hA.2.1, Option.bind_some, am_z, g1, Option.bind_some, Option.bind_some]
    · obtain ⟨q2, hb2, hq2⟩ := k2
      refine ⟨q2, bs_ok_fr hb2 (fun k hk => ?_), hq2⟩
      funext j
      rw [si_at, if_neg (by omega), g4.1 k j (by omega) (by omega) (by omega), e3.1]
    · rw [si_at, if_pos ⟨rfl, rfl⟩]
    · have h29 : (ja_si σ2 0 8 1).1 29 = σ.1 29 := funext fun j => by
        rw [si_at, if_neg (by omega), g4.1 29 j (by omega) (by omega) (by omega), e3.1]
      have h33 : (ja_si σ2 0 8 1).1 33 = σ.1 33 := funext fun j => by
        rw [si_at, if_neg (by omega), g4.1 33 j (by omega) (by omega) (by omega), e3.1]
      unfold pl_ok
      rw [h29, h33]
      exact k4
    · have h12 : ∀ j, j ≠ 8 → (ja_si σ2 0 8 1).1 0 j = σ.1 0 j := fun j hj => by
        rw [si_at, if_neg (by omega), g4.1 0 j (by omega) (by omega) (by omega), e3.1]
      rw [h12 11 (by omega), h12 1 (by omega)]
      exact k5
  · rw [if_neg (by rw [h8]; decide)]
    exact ⟨σ, rfl, hC, hK, hh, fr_cl_rf⟩
section C21
variable {A : am_A} {a : Nat → Int32} {σ : ja_S}
theorem case_21 (hA : am_ok A) (hC : am_C A σ) (hM : am_M A σ) (hK : am_K A σ) : am_ask2 A 21 a σ := by
  obtain ⟨σ1, e1, e2, e3, e4, e5⟩ := searched_ok hA hC hK
  have hM1 := am_M_th (v := 0) (am_M_cl hM e5)
  obtain ⟨τ1, g1, g2, g3, g4⟩ := mstart hA hM1
  obtain ⟨τ2, k1, k2, k3⟩ := mlays g2
  refine am_asks (σ2 := τ2) ?_ hC hM e5 e3 (fr_md_tr md_th (fr_md_tr g4 (fr_m_md k3)))
  rw [jc_21]
  unfold f_Frame_reachableCount f_Model_reachableCount ja_pu
  rw [e1, Option.bind_some, Option.bind_some, Option.bind_some, g1, Option.bind_some, k1, Option.bind_some, Option.bind_some]
  exact if_pos (e4.1.1.trans k2.1.symm)
end C21
