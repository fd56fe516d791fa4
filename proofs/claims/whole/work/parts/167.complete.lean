/-! the completion -/
theorem row_app {f : Nat → Int32} {l : List Nat} {x : Nat} (h : ∀ i, i < l.length → f i = nI (l.getD i 0)) (hx : f l.length = nI x) : am_row f (l ++ [x]) := by
  intro i hi
  rw [List.length_append, List.length_singleton] at hi
  rw [List.getD_eq_getElem?_getD]
  by_cases h1 : i < l.length
  · rw [List.getElem?_append_left h1, h i h1, List.getD_eq_getElem?_getD]
  · rw [show i = l.length by omega, List.getElem?_append_right (Nat.le_refl _), Nat.sub_self, hx]
    rfl
def fr_p (σ σ' : ja_S) : Prop := (∀ k j, k ≠ 23 → k ≠ 27 → k ≠ 28 → k ≠ 29 → k ≠ 33 → σ'.1 k j = σ.1 k j) ∧ ∀ k, k ≠ 25 → k ≠ 26 → k ≠ 31 → k ≠ 32 → σ'.2 k = σ.2 k
theorem fr_p_rf {σ : ja_S} : fr_p σ σ := ⟨fun _ _ _ _ _ _ _ => rfl, fun _ _ _ _ _ => rfl⟩
theorem fr_p_tr {a b c : ja_S} (h1 : fr_p a b) (h2 : fr_p b c) : fr_p a c := ⟨fun k j x y z u v => (h2.1 k j x y z u v).trans (h1.1 k j x y z u v), fun k x y z u => (h2.2 k x y z u).trans (h1.2 k x y z u)⟩
theorem fr_t_p {a b : ja_S} (h : fr_t a b) : fr_p a b := ⟨fun k j x y z _ _ => h.1 k j x y z, fun k x y _ _ => h.2 k x y⟩
theorem fr_p_cl {a b : ja_S} (h : fr_p a b) : fr_cl a b := fun k j hk => h.1 k j (by omega) (by omega) (by omega) (by omega) (by omega)
theorem am_K_p {A : am_A} {σ σ' : ja_S} (h : am_K A σ) (hf : fr_p σ σ') (h4 : tq_ok σ') (h5 : σ'.1 29 0 = 1 ∧ pl_ok A σ') : am_K A σ' := by
  have hr : ∀ k, (k = 17 ∨ k = 21 ∨ k = 22) → σ'.1 k = σ.1 k := fun k h5 => funext fun j => hf.1 k j (by omega) (by omega) (by omega) (by omega) (by omega)
  have h0 : ∀ j, σ'.1 0 j = σ.1 0 j := fun j => hf.1 0 j (by omega) (by omega) (by omega) (by omega) (by omega)
  obtain ⟨a1, a2, a3, a4, a5⟩ := h
  refine ⟨?_, h4, ?_, Or.inr h5, ?_⟩
  · unfold bs_ok at a1 ⊢
    rw [hr 17 (by omega), hr (17 + 4) (by omega), hr (17 + 5) (by omega)]
    exact a1
  · unfold hm_ok bs_ok lk_ok at a3 ⊢
    rw [hr 17 (by omega), hr (17 + 4) (by omega), hr (17 + 5) (by omega), h0 8, hf.2 (18 + 1) (by omega) (by omega) (by omega) (by omega), hf.2 (18 + 2) (by omega) (by omega) (by omega) (by omega)]
    exact a3
  · rw [h0 11, h0 1]
    exact a5
theorem hm_p {A : am_A} {σ σ' : ja_S} (h : hm_ok A σ) (hf : fr_p σ σ') : hm_ok A σ' := hm_tr h (fun k j hk => hf.1 k j (by omega) (by omega) (by omega) (by omega) (by omega)) ⟨hf.2 19 (by omega) (by omega) (by omega) (by omega), hf.2 20 (by omega) (by omega) (by omega) (by omega)⟩
section CP
variable {A : am_A} {a : Nat → Int32} {σ : ja_S}
theorem prop_lt {mv : Nat} {L : List am_R} {ro : List Nat} {w1 w2 due i : Nat} (h : am_prop mv L ro w1 w2 due = some i) : i < 144 := by
  have := first_lt _ _ _ h
  omega
theorem lw_lt {i : Nat} (h : i < 144) : am_lw i < 1200 ∧ am_lw i / 100 = i / 12 ∧ am_lw i % 100 = i % 12 := by
  unfold am_lw
  omega
/-- the size that is kept, -1 where the completion fails -/
def am_zo (o : Option (List Nat)) : Int32 := match o with
  | none => -1
  | some ls => nI ls.length
def am_zr (o : Option (List Nat)) (σ : ja_S) : Prop := match o with
  | none => σ.1 29 3 = -1
  | some ls => σ.1 29 3 = nI ls.length ∧ ls.length ≤ 8 ∧ am_row (σ.1 33) ls
theorem cpl_L46 (hA : am_ok A) {due : Nat} (hdue : due < 256) : ∀ (m n c : Nat) (L : List am_R) (acc : List Nat) (σ : ja_S), c + m = A.2.2.2.1.length → m < n → acc.length ≤ c → am_C A σ → tq_ok σ → σ.1 29 3 = -1 → lk_ok σ 30 L → am_row (σ.1 33) acc → ∃ σ', f_LockPlanner_complete_L46 n 29 23 3 (nI acc.length) (nI due) (nI c) σ = some (am_zo (am_pl (am_mv A.1 0) A.2.2.1 A.2.2.2.1 due m c L acc), σ') ∧ am_zr (am_pl (am_mv A.1 0) A.2.2.1 A.2.2.2.1 due m c L acc) σ' ∧ σ'.1 29 0 = σ.1 29 0 ∧ tq_ok σ' ∧ fr_p σ σ' := by
  have hc8 : A.2.2.2.1.length ≤ 8 := hA.2.2.2.2.2.2.1
  intro m
  induction m with
  | zero =>
    intro n c L acc σ hc hn hac hC hK h29 hL h33
    obtain ⟨n, rfl⟩ : ∃ j, n = j + 1 := ⟨n - 1, by omega⟩
    have c0 : σ.1 3 8 = nI A.2.2.2.1.length := hC.2.2.2.2.1.2.2.2.2.1
    rw [f_LockPlanner_complete_L46, c0, if_pos (nI_le (by omega) (by omega))]
    unfold f_LockPlanner_complete_B163 ja_pu
    rw [Option.bind_some]
    have e : (ja_si σ 29 3 (nI acc.length)).1 29 3 = nI acc.length := by rw [si_at, if_pos ⟨rfl, rfl⟩]
    refine ⟨ja_si σ 29 3 (nI acc.length), ?_, ⟨e, by omega, ?_⟩, ?_, ?_, ?_⟩
    · rw [e]
      rfl
    · rw [si_row (by omega)]
      exact h33
    · rw [si_at, if_neg (by omega)]
    · exact tq_fr hK (fun k hk => si_row (by omega))
    · exact ⟨fun k j _ _ _ h4 _ => by rw [si_at, if_neg (by omega)], fun k _ _ _ _ => rfl⟩
  | succ m ih =>
    intro n c L acc σ hc hn hac hC hK h29 hL h33
    obtain ⟨n, rfl⟩ : ∃ j, n = j + 1 := ⟨n - 1, by omega⟩
    have c0 : σ.1 3 8 = nI A.2.2.2.1.length := hC.2.2.2.2.1.2.2.2.2.1
    obtain ⟨σ1, g1, g2, g3, g4⟩ := trial_from (mv := 0) (Or.inr rfl) hK hL (by omega)
    have d0 : σ1.1 3 0 = nI A.1 := by rw [g3.1]; exact hC.2.2.2.2.1.1
    have d1 : σ1.1 3 1 = nI 0 := by rw [g3.1]; exact hC.2.2.2.2.1.2.1
    obtain ⟨σ2, l1, l2, l3, l4, l5⟩ := trial_bt (s := 0) g4 g2 (mv_lt (g := 0) hA.2.1) (by omega)
    have l2' : bs_ok σ2 23 (am_q0 (am_mv A.1 0) L) := l2
    have l1' : f_Search_explore 23 (0 : Int32) (nI (am_mv A.1 0)) σ1 = some σ2 := by rw [am_z]; exact l1
    have hf2 : fr_t σ σ2 := by
      refine ⟨fun k j h1 h2 h3 => ?_, fun k h1 h2 => ?_⟩
      · rw [l5 k j h1 h2 h3, g3.1]
      · rw [l4, g3.2 k (by omega) (by omega)]
    have hC2 := am_C_cl hC (fr_t_cl hf2)
    have hokq : bq_ok (am_q0 (am_mv A.1 0) L) := bq_all_ok (by omega)
    have hop := op_lt (q := am_q0 (am_mv A.1 0) L) (ro := A.2.2.1) hc8
    have hL2 := lk_t (Or.inr rfl) hL hf2
    have k29 : ∀ j, σ2.1 29 j = σ.1 29 j := fun j => hf2.1 29 j (by omega) (by omega) (by omega)
    have k33 : ∀ j, σ2.1 33 j = σ.1 33 j := fun j => hf2.1 33 j (by omega) (by omega) (by omega)
    rw [f_LockPlanner_complete_L46, c0, if_neg (nI_ge (by omega) (by omega)), show (8 : Int32) = nI 8 by decide +kernel, if_neg (nI_ge (by omega) (by omega)), show ja_q 29 1 = 30 from rfl, show ja_q 29 2 = 33 from rfl, show ja_q 23 0 = 24 from rfl, g1, Option.bind_some, movable_ok d0 d1 hA.2.1, Option.bind_some, l1', Option.bind_some, open_ok (Or.inr rfl) (Or.inl rfl) l2' hokq (am_C_shw hA hC2), Option.bind_some, nI_bit (by omega) (by omega), nI_1, nI_1]
    unfold am_pl
    cases hb : (am_op (am_q0 (am_mv A.1 0) L) A.2.2.1 A.2.2.2.1).testBit c with
    | false =>
      rw [show nI (if false = true then 1 else 0) = 0 from am_z.symm, if_pos (show (0 : Int32) = 0 from rfl), if_neg (show ¬ (false = true) by decide)]
      obtain ⟨σ3, s1, s2, s3, s4, s5⟩ := ih n (c + 1) L acc σ2 (by omega) (by omega) (by omega) hC2 l3 ((k29 3).trans h29) hL2 (fun i hi => (k33 i).trans (h33 i hi))
      exact ⟨σ3, s1, s2, s3.trans (k29 0), s4, fr_p_tr (fr_t_p hf2) s5⟩
    | true =>
      obtain ⟨σ3, p1, p2, p3⟩ := propose_ok hA hC2 l3 (Or.inr rfl) hL2 (c := c) (by omega) hdue
      have hf3 : fr_t σ σ3 := fr_t_tr hf2 p3
      have q29 : ∀ j, σ3.1 29 j = σ.1 29 j := fun j => hf3.1 29 j (by omega) (by omega) (by omega)
      rw [show nI (if true = true then 1 else 0) = 1 by decide +kernel, if_neg i1n0, if_pos (show true = true from rfl), p1, Option.bind_some]
      cases hp : am_prop (am_mv A.1 0) L A.2.2.1 (A.2.2.1.getD (A.2.2.2.1.getD c (0, 0)).1 0) (A.2.2.1.getD (A.2.2.2.1.getD c (0, 0)).2 0) due with
      | none =>
        rw [Option.map_none, if_pos (show am_io none = -1 from rfl), q29 3, h29]
        exact ⟨σ3, rfl, (q29 3).trans h29, q29 0, p2, fr_t_p hf3⟩
      | some i =>
        have hi := prop_lt hp
        have hlw := lw_lt hi
        have hL3 := lk_t (Or.inr rfl) hL hf3
        obtain ⟨σ4, e1, e2, e3⟩ := enforce_ok (X := 30) (Or.inr (Or.inr rfl)) hL3 (lk_rb hi)
        rw [Option.map_some, show am_io (some (am_lw i)) = nI (am_lw i) from rfl, if_neg (nI_m1 (by omega)), show (100 : Int32) = nI 100 by decide +kernel, pk_rem (by omega) (by omega) (by omega), pk_div (by omega) (by omega) (by omega), hlw.2.1, hlw.2.2, lockOf_ok hi, Option.bind_some, e1, Option.bind_some, st0' (N := 8) rfl (by omega) (by omega), Option.bind_some]
        have w29 : ∀ j, (ja_si σ4 33 acc.length (nI (am_lw i))).1 29 j = σ.1 29 j := fun j => by rw [si_row (by omega), e3.1]; exact q29 j
        have hf5 : fr_p σ (ja_si σ4 33 acc.length (nI (am_lw i))) := by
          refine ⟨fun k j h1 h2 h3 h4 h5 => ?_, fun k h1 h2 h3 h4 => ?_⟩
          · rw [si_at, if_neg (by omega), e3.1, hf3.1 k j h1 h2 h3]
          · rw [si_l, e3.2 k (by omega) (by omega), hf3.2 k h1 h2]
        have hT5 : tq_ok (ja_si σ4 33 acc.length (nI (am_lw i))) := tq_fr p2 (fun k hk => by rw [si_row (by omega), e3.1])
        have hlen : (acc ++ [am_lw i]).length = acc.length + 1 := by rw [List.length_append, List.length_singleton]
        obtain ⟨σ5, s1, s2, s3, s4, s5⟩ := ih n (c + 1) (L ++ [am_lk i]) (acc ++ [am_lw i]) (ja_si σ4 33 acc.length (nI (am_lw i))) (by omega) (by omega) (by rw [hlen]; omega) (am_C_cl hC (fr_p_cl hf5)) hT5 ((w29 3).trans h29) (lk_fr e2 rfl rfl) (row_app (fun j hj => by rw [si_at, if_neg (by omega), e3.1, hf3.1 33 j (by omega) (by omega) (by omega)]; exact h33 j hj) (by rw [si_at, if_pos ⟨rfl, rfl⟩]))
        rw [hlen] at s1
        exact ⟨σ5, s1, s2, s3.trans (w29 0), s4, fr_p_tr hf5 s5⟩
def am_pz (A : am_A) : Int32 := match am_plan A with
  | none => -1
  | some ls => nI ls.length
theorem pz_zo : am_zo (am_plan A) = am_pz A := by
  unfold am_pz
  cases am_plan A <;> rfl
theorem zr_pl (h : am_zr (am_plan A) σ) : pl_ok A σ := by
  unfold pl_ok
  cases hp : am_plan A with
  | none => rw [hp] at h; exact h
  | some ls => rw [hp] at h; exact h
theorem comp_ok (hA : am_ok A) (hC : am_C A σ) (hK : am_K A σ) (hh : hm_ok A σ) : ∃ σ', f_LockPlanner_complete 29 23 3 17 σ = some (am_pz A, σ') ∧ am_K A σ' ∧ pl_ok A σ' ∧ fr_cl σ σ' := by
  have hc8 : A.2.2.2.1.length ≤ 8 := hA.2.2.2.2.2.2.1
  unfold f_LockPlanner_complete ja_pu
  rcases hK.2.2.2.1 with h11 | ⟨h11, hp⟩
  · obtain ⟨σ1, hσ1⟩ : ∃ τ : ja_S, τ = ja_si (ja_si σ 29 0 1) 29 3 (-1) := ⟨_, rfl⟩
    have hr1 : ∀ k, k ≠ 29 → σ1.1 k = σ.1 k := fun k hk => by rw [hσ1, si_row hk, si_row hk]
    have hs1 : σ1.2 = σ.2 := by rw [hσ1]; rfl
    have hf1 : fr_p σ σ1 := ⟨fun k j _ _ _ h4 _ => by rw [hr1 k h4], fun k _ _ _ _ => by rw [hs1]⟩
    have hC1 := am_C_cl hC (fr_p_cl hf1)
    have hb1 : bs_ok σ1 17 (am_rl A) := bs_ok_fr hh.1 (fun k hk => hr1 k (by omega))
    have hdue := st_lt (q := am_rl A) (ro := A.2.2.1) hA.2.2.2.2.1
    obtain ⟨σ2, g1, g2, g3⟩ := lkcopy_ok (σ := σ1) (X := 30) (Y := 18) (Or.inr (Or.inr rfl)) (Or.inl rfl) (by omega) (lk_fr hh.2.2 (by rw [hs1]) (by rw [hs1]))
    have hf2 : fr_p σ σ2 := by
      refine ⟨fun k j h1 h2 h3 h4 h5 => ?_, fun k h1 h2 h3 h4 => ?_⟩
      · rw [g3.1, hr1 k h4]
      · rw [g3.2 k (by omega) (by omega), hs1]
    have z3 : σ2.1 29 3 = -1 := by rw [g3.1, hσ1, si_at, if_pos ⟨rfl, rfl⟩]
    have z0 : σ2.1 29 0 = 1 := by rw [g3.1, hσ1, si_at, if_neg (by omega), si_at, if_pos ⟨rfl, rfl⟩]
    obtain ⟨σ3, k1, k2, k3, k4, k5⟩ := cpl_L46 hA hdue A.2.2.2.1.length ja_FU 0 A.2.1 [] σ2 (by omega) (by unfold ja_FU; omega) (by simp) (am_C_cl hC (fr_p_cl hf2)) (tq_fr hK.2.1 (fun k hk => by rw [g3.1, hr1 k (by omega)])) z3 g2 (fun i hi => by simp at hi)
    have k1' : f_LockPlanner_complete_L46 ja_FU 29 23 3 (0 : Int32) (nI (am_st (am_rl A) A.2.2.1)) (0 : Int32) σ2 = some (am_zo (am_plan A), σ3) := by
      rw [am_z]
      exact k1
    have hpl : pl_ok A σ3 := zr_pl k2
    have hf3 := fr_p_tr hf2 k5
    refine ⟨σ3, ?_, am_K_p hK hf3 k4 ⟨k3.trans z0, hpl⟩, hpl, fr_p_cl hf3⟩
    rw [if_pos h11, Option.bind_some, Option.bind_some, ← hσ1, settable_ok (Or.inl rfl) (Or.inl rfl) hb1 rl_ok (am_C_shw hA hC1), Option.bind_some, show ja_q 29 1 = 30 from rfl, show ja_q 17 0 = 18 from rfl, g1, Option.bind_some, k1', pz_zo]
  · rw [if_neg (by rw [h11]; decide)]
    refine ⟨σ, ?_, hK, hp, fr_cl_rf⟩
    congr 2
    unfold pl_ok at hp
    unfold am_pz
    cases hpl : am_plan A with
    | none => rw [hpl] at hp; exact hp
    | some ls => rw [hpl] at hp; exact hp.1
theorem csize_ok (hA : am_ok A) (hC : am_C A σ) (hK : am_K A σ) : ∃ σ1 σ', f_Frame_searchedHome 0 σ = some σ1 ∧ f_LockPlanner_complete 29 23 3 17 σ1 = some (am_pz A, σ') ∧ am_K A σ' ∧ pl_ok A σ' ∧ fr_cl σ σ' := by
  obtain ⟨σ1, e1, e2, e3, e4, e5⟩ := searched_ok hA hC hK
  obtain ⟨σ2, k1, k2, k3, k4⟩ := comp_ok hA e2 e3 e4
  exact ⟨σ1, σ2, e1, k1, k2, k3, fr_cl_tr e5 k4⟩
/-! the reference completes -/
theorem mcp_L11 (hA : am_ok A) {due : Nat} : ∀ (m n c : Nat) (L : List am_R) (acc : List Nat) (τ : ja_S), c + m = A.2.2.2.1.length → m < n → acc.length ≤ c → L.length = A.2.1.length + acc.length → am_st (am_q0 (am_mv A.1 0) L) A.2.2.1 = due → mq_ok τ A.1 L (2 ^ L.length - 1) 0 → mw_ok τ A.2.2.1 A.2.2.2.1 → τ.1 45 34 = nI acc.length → am_row (τ.1 60) acc → ∃ τ', f_Model_completes_L11 n 45 (nI c) τ = some (am_bz (am_pl (am_mv A.1 0) A.2.2.1 A.2.2.2.1 due m c L acc).isSome, τ') ∧ (∀ ls, am_pl (am_mv A.1 0) A.2.2.1 A.2.2.2.1 due m c L acc = some ls → τ'.1 45 34 = nI ls.length ∧ am_row (τ'.1 60) ls) ∧ fr_md τ τ' := by
  have hc8 : A.2.2.2.1.length ≤ 8 := hA.2.2.2.2.2.2.1
  have hl : A.2.1.length ≤ 24 := hA.2.2.1
  have hr8 : A.2.2.1.length ≤ 8 := hA.2.2.2.2.1
  intro m
  induction m with
  | zero =>
    intro n c L acc τ hc hn hac hLl hst hq hw h34 h60
    obtain ⟨n, rfl⟩ : ∃ j, n = j + 1 := ⟨n - 1, by omega⟩
    rw [f_Model_completes_L11, hw.2.2.2.2.1, if_pos (nI_le (by omega) (by omega))]
    refine ⟨τ, rfl, fun ls hls => ?_, fr_md_rf⟩
    cases hls
    exact ⟨h34, h60⟩
  | succ m ih =>
    intro n c L acc τ hc hn hac hLl hst hq hw h34 h60
    obtain ⟨n, rfl⟩ : ∃ j, n = j + 1 := ⟨n - 1, by omega⟩
    obtain ⟨τ1, l1, l2, l3⟩ := laysFrom_ok hq (s := 0) (by omega)
    rw [mq_cq hA.2.1, sel_ones] at l2
    have l2' : mf_ok τ1 (am_q0 (am_mv A.1 0) L) := l2
    have l1' : f_Model_laysFrom 45 (0 : Int32) τ = some τ1 := by rw [am_z]; exact l1
    have hokq : bq_ok (am_q0 (am_mv A.1 0) L) := bq_all_ok (by omega)
    have hq1 := mq_fr hq l3
    have hw1 := mw_fr hw l3
    have h34' : τ1.1 45 34 = nI acc.length := (l3.1 45 34 (by omega) (by omega) (by omega)).trans h34
    have h60' : am_row (τ1.1 60) acc := fun i hi => (l3.1 60 i (by omega) (by omega) (by omega)).trans (h60 i hi)
    rw [f_Model_completes_L11, hw.2.2.2.2.1, if_neg (nI_ge (by omega) (by omega)), l1', Option.bind_some, munprot_ok l2' hokq hw1, Option.bind_some, has32 (by omega), Option.bind_some, nI_1]
    unfold am_pl
    cases hb : (am_op (am_q0 (am_mv A.1 0) L) A.2.2.1 A.2.2.2.1).testBit c with
    | false =>
      rw [if_pos (am_bz0.mpr rfl), if_neg (show ¬ (false = true) by decide)]
      obtain ⟨τ2, s1, s2, s3⟩ := ih n (c + 1) L acc τ1 (by omega) (by omega) (by omega) hLl hst hq1 hw1 h34' h60'
      exact ⟨τ2, s1, s2, fr_md_tr (fr_m_md l3) s3⟩
    | true =>
      obtain ⟨τ2, p1, p2, p3⟩ := lockFor_ok hA.2.1 (fun w hw => (hA.2.2.2.2.2.1 w hw).2) (c := c) (by omega) (by omega) hq1 hw1
      rw [hst] at p1 p3
      have hv : ∀ v : Int32, (ja_si τ2 60 acc.length v).1 60 acc.length = v := fun v => by rw [si_at, if_pos ⟨rfl, rfl⟩]
      rw [if_neg bz1, if_pos (show true = true from rfl), p1, Option.bind_some, h34', show ja_q 45 33 = 60 from rfl, st0' (N := 8) rfl (by omega) (by omega), Option.bind_some, si_row (by omega), p2.1 45 34 (by omega) (by omega) (by omega) (by omega), h34', ld0 (N := 8) rfl (by omega) (by omega), Option.bind_some, hv]
      have hf3 : ∀ v : Int32, fr_md τ (ja_si τ2 60 acc.length v) := fun v => fr_md_tr (fr_m_md l3) (fr_md_tr (fr_k_md p2) ⟨fun k j h1 h2 => by rw [si_at, if_neg (by omega)], rfl⟩)
      cases hp : am_prop (am_mv A.1 0) L A.2.2.1 (A.2.2.1.getD (A.2.2.2.1.getD c (0, 0)).1 0) (A.2.2.1.getD (A.2.2.2.1.getD c (0, 0)).2 0) due with
      | none =>
        rw [Option.map_none, if_pos (show am_io none = -1 from rfl)]
        exact ⟨_, rfl, fun ls h => (by cases h), hf3 _⟩
      | some i =>
        rw [hp] at p3
        have hi := prop_lt hp
        have hlw := lw_lt hi
        unfold ja_pu
        rw [Option.map_some, show am_io (some (am_lw i)) = nI (am_lw i) from rfl, if_neg (nI_m1 (by omega)), Option.bind_some, nI_1]
        have hst2 : am_st (am_q0 (am_mv A.1 0) (L ++ [am_lk i])) A.2.2.1 = due := by
          have h1 : am_pp (am_mv A.1 0) L A.2.2.1 (A.2.2.1.getD (A.2.2.2.1.getD c (0, 0)).1 0) (A.2.2.1.getD (A.2.2.2.1.getD c (0, 0)).2 0) due i = true := by
            have : ∀ (p : Nat → Bool) (n j : Nat), am_first p n j = some i → p i = true := by
              intro p n
              induction n with
              | zero => intro j h; cases h
              | succ n ihn =>
                intro j h
                rw [first_succ] at h
                by_cases hj : p j = true
                · rw [if_pos hj] at h; cases h; exact hj
                · rw [if_neg hj] at h; exact ihn (j + 1) h
            exact this _ _ _ hp
          unfold am_pp at h1
          rw [Bool.and_eq_true, Bool.and_eq_true] at h1
          have h2 := of_decide_eq_true h1.2.2
          rw [← hst] at h2
          rw [← hst]
          exact (st_eq hr8).mpr h2
        have hlen2 : (L ++ [am_lk i]).length = L.length + 1 := by rw [List.length_append, List.length_singleton]
        have hq3 : mq_ok (ja_si (ja_si τ2 60 acc.length (nI (am_lw i))) 45 34 (nI (acc.length + 1))) A.1 (L ++ [am_lk i]) (2 ^ (L ++ [am_lk i]).length - 1) 0 := by
          rw [hlen2]
          exact mq_fr2 p3 (fun j => by rw [si_row (by omega), si_row (by omega)]) (fun j hj => by rw [si_at, if_neg (by omega), si_row (by omega)])
        have hw3 : mw_ok (ja_si (ja_si τ2 60 acc.length (nI (am_lw i))) 45 34 (nI (acc.length + 1))) A.2.2.1 A.2.2.2.1 := by
          have hw2 := mw_fk hw1 p2
          unfold mw_ok at hw2 ⊢
          rw [si_row (a := 57) (by omega), si_row (a := 57) (by omega), si_row (a := 49) (by omega), si_row (a := 49) (by omega), si_row (a := 50) (by omega), si_row (a := 50) (by omega), si_at, if_neg (by omega), si_row (a := 45) (by omega), si_at, if_neg (by omega), si_row (a := 45) (by omega)]
          exact hw2
        obtain ⟨τ4, s1, s2, s3⟩ := ih n (c + 1) (L ++ [am_lk i]) (acc ++ [am_lw i]) (ja_si (ja_si τ2 60 acc.length (nI (am_lw i))) 45 34 (nI (acc.length + 1))) (by omega) (by omega) (by rw [List.length_append, List.length_singleton]; omega) (by rw [List.length_append, List.length_append, List.length_singleton, List.length_singleton]; omega) hst2 hq3 hw3 (by rw [si_at, if_pos ⟨rfl, rfl⟩, List.length_append, List.length_singleton]) (row_app (fun j hj => by rw [si_row (by omega), si_at, if_neg (by omega), p2.1 60 j (by omega) (by omega) (by omega) (by omega)]; exact h60' j hj) (by rw [si_row (by omega), si_at, if_pos ⟨rfl, rfl⟩]))
        exact ⟨τ4, s1, s2, fr_md_tr (hf3 _) (fr_md_tr (md_si (by omega)) s3)⟩
theorem mcomplete_ok {τ : ja_S} (hA : am_ok A) (hM : am_M A τ) : ∃ τ', f_Model_completes 45 τ = some (am_bz (am_plan A).isSome, τ') ∧ (∀ ls, am_plan A = some ls → τ'.1 45 34 = nI ls.length ∧ am_row (τ'.1 60) ls) ∧ fr_md τ τ' := by
  have hc8 : A.2.2.2.1.length ≤ 8 := hA.2.2.2.2.2.2.1
  obtain ⟨τ1, g1, g2, g3, g4⟩ := mstart hA hM
  have hw := am_M_mw hA (am_M_md hM g4) g3
  have hq2 : mq_ok (ja_si τ1 45 34 0) A.1 A.2.1 (2 ^ A.2.1.length - 1) 0 := mq_fr2 g2 (fun j => by rw [si_row (by omega)]) (fun j hj => by rw [si_at, if_neg (by omega)])
  have hw2 : mw_ok (ja_si τ1 45 34 0) A.2.2.1 A.2.2.2.1 := by
    unfold mw_ok at hw ⊢
    rw [si_row (a := 57) (by omega), si_row (a := 49) (by omega), si_row (a := 50) (by omega), si_at, if_neg (by omega), si_at, if_neg (by omega)]
    exact hw
  obtain ⟨τ2, s1, s2, s3⟩ := mcp_L11 hA (due := am_st (am_rl A) A.2.2.1) A.2.2.2.1.length ja_FU 0 A.2.1 [] (ja_si τ1 45 34 0) (by omega) (by unfold ja_FU; omega) (by simp) (by simp) rfl hq2 hw2 (by rw [si_at, if_pos ⟨rfl, rfl⟩]; exact am_z) (fun i hi => by simp at hi)
  refine ⟨τ2, ?_, s2, fr_md_tr g4 (fr_md_tr (md_si (by omega)) s3)⟩
  unfold f_Model_completes ja_pu
  rw [g1, Option.bind_some, Option.bind_some]
  rw [← am_z] at s1
  exact s1
theorem case_30 (hA : am_ok A) (hC : am_C A σ) (hM : am_M A σ) (hK : am_K A σ) : am_ask2 A 30 a σ := by
  obtain ⟨σ0, σ1, e0, e1, e2, e3, e4⟩ := csize_ok hA hC hK
  have hM1 := am_M_cl hM e4
  obtain ⟨τ1, g1, g2, g3⟩ := mcomplete_ok hA (am_M_th (v := 0) hM1)
  refine am_asks (σ2 := τ1) ?_ hC hM e4 e2 (fr_md_tr md_th g3)
  rw [jc_30]
  unfold f_Frame_completionSize f_Model_completionSize ja_pu
  rw [show ja_q 0 3 = 3 from rfl, show ja_q 0 7 = 17 from rfl, show ja_q 0 9 = 23 from rfl, show ja_q 0 10 = 29 from rfl, e0, Option.bind_some, e1, Option.bind_some, Option.bind_some, Option.bind_some, g1, Option.bind_some]
  unfold am_pz
  cases hp : am_plan A with
  | none =>
    rw [Option.isSome_none, if_pos (am_bz0.mpr rfl), Option.bind_some]
    exact if_pos rfl
  | some ls =>
    rw [Option.isSome_some, if_neg bz1, Option.bind_some]
    exact if_pos (g2 ls hp).1.symm
theorem case_31 (hA : am_ok A) (hC : am_C A σ) (hM : am_M A σ) (hK : am_K A σ) : am_ask2 A 31 a σ := by
  by_cases h0 : a 1 < 0
  · refine am_asks1 hC hM hK ?_
    have h0' : ¬ 0 ≤ a 1 := by
      rw [Int32.le_iff_toInt_le, Int32.toInt_zero]
      have := i32_lt0.mp h0
      omega
    rw [jc_31]
    unfold f_Frame_completionLock f_Model_completionLock ja_pu
    rw [if_neg h0', Option.bind_some, Option.bind_some, if_neg h0', Option.bind_some, if_pos rfl]
  · obtain ⟨x, hx, ex⟩ := nI_of h0
    have h0' : 0 ≤ nI x := nI_pos' hx
    obtain ⟨σ0, σ1, e0, e1, e2, e3, e4⟩ := csize_ok hA hC hK
    have hM1 := am_M_cl hM e4
    obtain ⟨τ1, g1, g2, g3⟩ := mcomplete_ok hA (am_M_th (v := 0) hM1)
    refine am_asks (σ2 := τ1) ?_ hC hM e4 e2 (fr_md_tr md_th g3)
    rw [jc_31]
    unfold f_Frame_completionLock f_Model_completionLock ja_pu
    rw [ex, if_pos h0', show ja_q 0 3 = 3 from rfl, show ja_q 0 7 = 17 from rfl, show ja_q 0 9 = 23 from rfl, show ja_q 0 10 = 29 from rfl, e0, Option.bind_some, e1, Option.bind_some]
    unfold am_pz
    unfold pl_ok at e3
    cases hp : am_plan A with
    | none =>
      have hle : (-1 : Int32) ≤ nI x := by
        rw [Int32.le_iff_toInt_le, nI_toInt hx, show (-1 : Int32).toInt = -1 by decide +kernel]
        omega
      rw [hp] at g1
      dsimp only
      rw [if_pos hle, Option.bind_some, Option.bind_some, if_pos h0', g1, Option.bind_some, Option.isSome_none, if_pos (am_bz0.mpr rfl), Option.bind_some]
      exact if_pos rfl
    | some ls =>
      rw [hp] at g1 e3
      have g := g2 ls hp
      have hl8 := e3.2.1
      dsimp only
      by_cases hle : ls.length ≤ x
      · rw [if_pos ((nI_leI (by omega) hx).mpr hle), Option.bind_some, Option.bind_some, if_pos h0', g1, Option.bind_some, Option.isSome_some, if_neg bz1, g.1, if_pos ((nI_leI (by omega) hx).mpr hle), Option.bind_some]
        exact if_pos rfl
      · rw [if_neg (fun z => hle ((nI_leI (by omega) hx).mp z)), show (8 : Int32) = nI 8 by decide +kernel, if_neg (nI_ge (by omega) (by omega)), show ja_q 29 2 = 33 from rfl, ld0 (N := 8) rfl (by omega) (by omega), Option.bind_some, Option.bind_some, Option.bind_some, if_pos h0', g1, Option.bind_some, Option.isSome_some, if_neg bz1, g.1, if_neg (fun z => hle ((nI_leI (by omega) hx).mp z)), show ja_q 45 33 = 60 from rfl, ld0 (N := 8) rfl (by omega) (by omega), Option.bind_some, Option.bind_some, e3.2.2 x (by omega), g.2 x (by omega)]
        exact if_pos rfl
end CP
