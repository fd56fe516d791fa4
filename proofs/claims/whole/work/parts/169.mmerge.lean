/-! merging levers: the reference -/
def rw_4 (f : Nat → Int32) (k : Nat) (r : am_R) : Prop := f (4 * k) = nI r.1 ∧ f (4 * k + 1) = nI r.2.1 ∧ f (4 * k + 2) = nI r.2.2.1 ∧ f (4 * k + 3) = am_cd r.2.2.2
theorem r4_iff {f : Nat → Int32} {rs : List am_R} : am_r4 f 0 rs ↔ ∀ k, k < rs.length → rw_4 f k (am_rd rs k) := by
  unfold am_r4 rw_4 am_rd
  constructor
  · intro h k hk
    have := h k hk
    rw [Nat.zero_add] at this
    exact this
  · intro h k hk
    rw [Nat.zero_add]
    exact h k hk
theorem mlev_ok {a b x : Nat} {τ : ja_S} (hx : x < 2 ^ 31) (hb : b < 2 ^ 31) : f_Model_mergedLever (nI x) (nI a) (nI b) τ = some (nI (am_ml a b x), τ) := by
  unfold f_Model_mergedLever am_ml
  by_cases h : x = b
  · rw [if_pos (by rw [h]), if_pos h]
  · rw [if_neg (nI_ne h hx hb), if_neg h]
section MM
variable {a b : Nat} {rs : List am_R} {ro : List Nat}
theorem mm_L2 (ha : a < 12) (hb : b < 12) (h32 : rs.length ≤ 32) (hrb : ∀ r ∈ rs, am_rb r) : ∀ (n i : Nat) (τ : ja_S), i ≤ rs.length → rs.length - i < n → τ.1 45 27 = nI rs.length → (∀ k, i ≤ k → k < rs.length → rw_4 (τ.1 56) k (am_rd rs k)) → ∃ τ', f_Model_merges_L2 n 45 (nI a) (nI b) (nI i) τ = f_Model_merges_L116 ja_FU 45 (nI a) (nI b) 0 τ' ∧ (∀ c j, c ≠ 56 → τ'.1 c j = τ.1 c j) ∧ τ'.2 = τ.2 ∧ (∀ k, i ≤ k → k < rs.length → rw_4 (τ'.1 56) k (am_mr a b (am_rd rs k))) ∧ ∀ p, p < 4 * i → τ'.1 56 p = τ.1 56 p := by
  intro n
  induction n with
  | zero => intro i τ _ h; omega
  | succ n ih =>
    intro i τ hi hn h27 hrow
    rw [f_Model_merges_L2, h27]
    by_cases h : i = rs.length
    · rw [h, if_pos (nI_le (Nat.le_refl _) (by omega))]
      exact ⟨τ, rfl, fun _ _ _ => rfl, rfl, fun k h1 h2 => by omega, fun _ _ => rfl⟩
    · have hi2 : i < rs.length := by omega
      obtain ⟨q1, q2, q3, q4⟩ := hrow i (by omega) hi2
      have hr : am_rb (am_rd rs i) := hrb _ (getD_mem (l := rs) (i := i) (d := (0, 0, 0, 0)) hi2)
      obtain ⟨r1, r2, r3, r4⟩ := hr
      have key : ∀ (v : Int32), v = am_cd (am_mr a b (am_rd rs i)).2.2.2 → ∃ τ', f_Model_merges_B107 (f_Model_merges_L2 n) 45 (nI a) (nI b) (nI i) v (nI (4 * i + 3)) 56 (ja_si (ja_si τ 56 (4 * i + 1) (nI (am_ml a b (am_rd rs i).2.1))) 56 (4 * i + 2) (nI (am_ml a b (am_rd rs i).2.2.1))) = f_Model_merges_L116 ja_FU 45 (nI a) (nI b) 0 τ' ∧ (∀ c j, c ≠ 56 → τ'.1 c j = τ.1 c j) ∧ τ'.2 = τ.2 ∧ (∀ k, i ≤ k → k < rs.length → rw_4 (τ'.1 56) k (am_mr a b (am_rd rs k))) ∧ ∀ p, p < 4 * i → τ'.1 56 p = τ.1 56 p := by
        intro v hv
        unfold f_Model_merges_B107
        rw [st0' (N := 128) rfl (by omega) (by omega), Option.bind_some, nI_1]
        obtain ⟨τ', e1, e2, e3, e4, e5⟩ := ih (i + 1) (ja_si (ja_si (ja_si τ 56 (4 * i + 1) (nI (am_ml a b (am_rd rs i).2.1))) 56 (4 * i + 2) (nI (am_ml a b (am_rd rs i).2.2.1))) 56 (4 * i + 3) v) (by omega) (by omega) (by rw [si_row (by omega), si_row (by omega), si_row (by omega)]; exact h27) (fun k h1 h2 => by
          have := hrow k (by omega) h2
          unfold rw_4 at this ⊢
          rw [si_at, if_neg (by omega), si_at, if_neg (by omega), si_at, if_neg (by omega), si_at, if_neg (by omega), si_at, if_neg (by omega), si_at, if_neg (by omega), si_at, if_neg (by omega), si_at, if_neg (by omega), si_at, if_neg (by omega), si_at, if_neg (by omega), si_at, if_neg (by omega), si_at, if_neg (by omega)]
          exact this)
        refine ⟨τ', e1, fun c j hc => ?_, e3, fun k h1 h2 => ?_, fun p hp => ?_⟩
        · rw [e2 c j hc, si_row hc, si_row hc, si_row hc]
        · by_cases hk : k = i
          · subst hk
            refine ⟨?_, ?_, ?_, ?_⟩
            · rw [e5 _ (by omega), si_at, if_neg (by omega), si_at, if_neg (by omega), si_at, if_neg (by omega)]; exact q1
            · rw [e5 _ (by omega), si_at, if_neg (by omega), si_at, if_neg (by omega), si_at, if_pos ⟨rfl, rfl⟩]; rfl
            · rw [e5 _ (by omega), si_at, if_neg (by omega), si_at, if_pos ⟨rfl, rfl⟩]; rfl
            · rw [e5 _ (by omega), si_at, if_pos ⟨rfl, rfl⟩, hv]
          · exact e4 k (by omega) h2
        · rw [e5 p (by omega), si_at, if_neg (by omega), si_at, if_neg (by omega), si_at, if_neg (by omega)]
      have hA2 : ∀ v : Int32, (ja_si τ 56 (4 * i + 1) v).1 56 (4 * i + 2) = nI (am_rd rs i).2.2.1 := fun v => by rw [si_at, if_neg (by omega), q3]
      have hA3 : ∀ v w : Int32, (ja_si (ja_si τ 56 (4 * i + 1) v) 56 (4 * i + 2) w).1 56 (4 * i + 3) = am_cd (am_rd rs i).2.2.2 := fun v w => by rw [si_at, if_neg (by omega), si_at, if_neg (by omega), q4]
      rw [if_neg (nI_ge (by omega) (by omega)), show ja_q 45 25 = 56 from rfl, nI_4k 1 1 (by decide +kernel), nI_4k 2 2 (by decide +kernel), nI_4k 3 3 (by decide +kernel), ld0 (N := 128) rfl (by omega) (by omega), Option.bind_some, q2, mlev_ok (by omega) (by omega), Option.bind_some, st0' (N := 128) rfl (by omega) (by omega), Option.bind_some, ld0 (N := 128) rfl (by omega) (by omega), Option.bind_some, hA2, mlev_ok (by omega) (by omega), Option.bind_some, st0' (N := 128) rfl (by omega) (by omega), Option.bind_some, ld0 (N := 128) rfl (by omega) (by omega), Option.bind_some, hA3]
      have ec : (am_mr a b (am_rd rs i)).2.2.2 = if (am_rd rs i).2.2.2 = 0 then 0 else 2 * am_ml a b (((am_rd rs i).2.2.2 - 1) / 2) + ((am_rd rs i).2.2.2 - 1) % 2 + 1 := rfl
      by_cases hc : (am_rd rs i).2.2.2 = 0
      · rw [if_pos (show am_cd (am_rd rs i).2.2.2 = -1 by rw [hc]; decide +kernel)]
        exact key _ (by rw [ec, if_pos hc]; decide +kernel)
      · rw [cd_pos hc, if_neg (nI_m1 (by omega)), show (2 : Int32) = nI 2 by decide +kernel, pk_rem (by omega) (by omega) (by omega), pk_div (by omega) (by omega) (by omega), mlev_ok (by omega) (by omega), Option.bind_some, pk_mul, nI_add]
        exact key _ (by rw [ec, if_neg hc, cd_pos (by omega)]; rfl)
theorem mm_L116 (ha : a < 12) (hb : b < 12) (h8 : ro.length ≤ 8) (hro : ∀ w ∈ ro, w < 4096) {g : Nat} : ∀ (n i : Nat) (τ : ja_S), i ≤ ro.length → ro.length - i < n → τ.1 45 1 = nI ro.length → τ.1 45 29 = nI g → (∀ j, i ≤ j → j < ro.length → τ.1 57 j = nI (ro.getD j 0)) → ∃ τ', f_Model_merges_L116 n 45 (nI a) (nI b) (nI i) τ = some τ' ∧ (∀ c j, c ≠ 57 → (c ≠ 45 ∨ j ≠ 29) → τ'.1 c j = τ.1 c j) ∧ τ'.2 = τ.2 ∧ τ'.1 45 29 = nI (g ||| 2 ^ b) ∧ ∀ j, τ'.1 57 j = if i ≤ j ∧ j < ro.length then nI (am_mw a b (ro.getD j 0)) else τ.1 57 j := by
  intro n
  induction n with
  | zero => intro i τ _ h; omega
  | succ n ih =>
    intro i τ hi hn h1 hg hrow
    rw [f_Model_merges_L116, h1, show ja_q 45 26 = 57 from rfl]
    by_cases h : i = ro.length
    · unfold ja_pu
      rw [h, if_pos (nI_le (Nat.le_refl _) (by omega)), Option.bind_some, hg, nI_pow (by omega), nI_or]
      refine ⟨_, rfl, fun c j h2 h3 => ?_, rfl, ?_, fun j => ?_⟩
      · rw [si_at, if_neg (by omega)]
      · rw [si_at, if_pos ⟨rfl, rfl⟩]
      · rw [si_row (by omega), if_neg (by omega)]
    · have hlt := getD_lt hro (i := i) (by omega)
      rw [if_neg (nI_ge (by omega) (by omega)), ld0 (N := 8) rfl (by omega) (by omega), Option.bind_some, hrow i (by omega) (by omega), has32 (by omega), Option.bind_some, nI_1]
      have em : am_mw a b (ro.getD i 0) = if (ro.getD i 0).testBit b = true then an_not (ro.getD i 0) (2 ^ b) ||| 2 ^ a else ro.getD i 0 := rfl
      cases hc : (ro.getD i 0).testBit b with
      | true =>
        rw [hc, if_pos rfl] at em
        rw [if_neg bz1, ld0 (N := 8) rfl (by omega) (by omega), Option.bind_some, hrow i (by omega) (by omega), nI_pow (by omega), nI_pow (by omega), nI_an, nI_or, st0' (N := 8) rfl (by omega) (by omega), Option.bind_some]
        obtain ⟨τ', e1, e2, e3, e4, e5⟩ := ih (i + 1) (ja_si τ 57 i (nI (an_not (ro.getD i 0) (2 ^ b) ||| 2 ^ a))) (by omega) (by omega) (by rw [si_row (by omega)]; exact h1) (by rw [si_row (by omega)]; exact hg) (fun j h2 h3 => by rw [si_at, if_neg (by omega)]; exact hrow j (by omega) h3)
        refine ⟨τ', e1, fun c j h2 h3 => ?_, e3, e4, fun j => ?_⟩
        · rw [e2 c j h2 h3, si_row h2]
        · rw [e5 j, si_at]
          by_cases hj : j = i
          · rw [if_neg (by omega), if_pos ⟨rfl, hj⟩, if_pos (by omega), hj, em]
          · have hj2 : ¬ (57 = 57 ∧ j = i) := fun z => hj z.2
            by_cases hc3 : i + 1 ≤ j ∧ j < ro.length
            · rw [if_pos hc3, if_pos (by omega)]
            · rw [if_neg hc3, if_neg hj2, if_neg (by omega)]
      | false =>
        rw [hc, if_neg (show ¬ (false = true) by decide)] at em
        rw [if_pos (am_bz0.mpr rfl)]
        obtain ⟨τ', e1, e2, e3, e4, e5⟩ := ih (i + 1) τ (by omega) (by omega) h1 hg (fun j h2 h3 => hrow j (by omega) h3)
        refine ⟨τ', e1, e2, e3, e4, fun j => ?_⟩
        rw [e5 j]
        by_cases hj : j = i
        · rw [if_neg (by omega), if_pos (by omega), hj, em]
          exact hrow i (by omega) (by omega)
        · by_cases hc3 : i + 1 ≤ j ∧ j < ro.length
          · rw [if_pos hc3, if_pos (by omega)]
          · rw [if_neg hc3, if_neg (by omega)]
end MM
/-- what the reference's merging may change -/
def fr_e (σ σ' : ja_S) : Prop := (∀ k j, (k < 56 ∨ k = 60 ∨ k = 61 ∨ 63 < k) → (k ≠ 45 ∨ (j ≠ 29 ∧ j ≠ 32 ∧ j ≠ 41)) → σ'.1 k j = σ.1 k j) ∧ σ'.2 = σ.2
theorem fr_e_rf {σ : ja_S} : fr_e σ σ := ⟨fun _ _ _ _ => rfl, rfl⟩
theorem fr_e_tr {a b c : ja_S} (h1 : fr_e a b) (h2 : fr_e b c) : fr_e a c := ⟨fun k j x y => (h2.1 k j x y).trans (h1.1 k j x y), h2.2.trans h1.2⟩
theorem fr_m_e {a b : ja_S} (h : fr_m a b) : fr_e a b := ⟨fun k j x y => h.1 k j (by omega) (by omega) (by omega), h.2⟩
theorem fr_e_md {a b : ja_S} (h : fr_e a b) : fr_md a b := ⟨fun k j x y => h.1 k j (by omega) (by omega), h.2⟩
section MG
variable {N : Nat} {G : am_G} {cf : List (Nat × Nat)} {τ : ja_S}
/-- what is asked after some merges -/
def mg_ok (τ : ja_S) (N : Nat) (G : am_G) (cf : List (Nat × Nat)) : Prop := mq_ok τ N G.1 (2 ^ G.1.length - 1) G.2.2 ∧ mw_ok τ G.2.1 cf
theorem merges_ok {a b : Nat} (ha : a < 12) (hb : b < 12) (h : mg_ok τ N G cf) : ∃ τ', f_Model_merges 45 (nI a) (nI b) τ = some τ' ∧ mg_ok τ' N (am_mg a b G) cf ∧ (∀ k j, k ≠ 56 → k ≠ 57 → (k ≠ 45 ∨ j ≠ 29) → τ'.1 k j = τ.1 k j) ∧ τ'.2 = τ.2 := by
  obtain ⟨⟨⟨q1, q2, q3⟩, h0, h27, h28, h29, hN⟩, w1, w2, w3, w4, w5, w6, w7, w8, w9⟩ := h
  obtain ⟨τ1, e1, e2, e3, e4, e5⟩ := mm_L2 (a := a) (b := b) ha hb q2 q3 ja_FU 0 τ (by omega) (by unfold ja_FU; omega) h27 (fun k _ hk => r4_iff.mp q1 k hk)
  obtain ⟨τ2, g1, g2, g3, g4, g5⟩ := mm_L116 (a := a) (b := b) ha hb w3 w4 ja_FU 0 τ1 (by omega) (by unfold ja_FU; omega) ((e2 45 1 (by omega)).trans w1) ((e2 45 29 (by omega)).trans h29) (fun j _ hj => (e2 57 j (by omega)).trans (w2 j hj))
  have hf : ∀ k j, k ≠ 56 → k ≠ 57 → (k ≠ 45 ∨ j ≠ 29) → τ2.1 k j = τ.1 k j := fun k j x y z => (g2 k j y z).trans (e2 k j x)
  have hfr : ∀ k, k ≠ 45 → k ≠ 56 → k ≠ 57 → τ2.1 k = τ.1 k := fun k x y z => funext fun j => hf k j y z (by omega)
  have h56 : τ2.1 56 = τ1.1 56 := funext fun j => g2 56 j (by omega) (by omega)
  refine ⟨τ2, ?_, ⟨⟨⟨?_, ?_, ?_⟩, ?_, ?_, ?_, g4, hN⟩, ?_, ?_, ?_, ?_, ?_, ?_, ?_, w8, ?_⟩, hf, g3.trans e3⟩
  · unfold f_Model_merges
    rw [← am_z] at e1 g1
    rw [e1, g1]
  · show am_r4 (τ2.1 56) 0 (G.1.map (am_mr a b))
    rw [r4_iff, h56]
    intro k hk
    rw [List.length_map] at hk
    rw [rd_map hk]
    exact e4 k (by omega) hk
  · show (G.1.map (am_mr a b)).length ≤ 32
    rw [List.length_map]; exact q2
  · intro r hr
    obtain ⟨r', hr', rfl⟩ := List.mem_map.mp hr
    exact mr_rb (q3 r' hr') ha
  · rw [hf 45 0 (by omega) (by omega) (by omega)]; exact h0
  · show τ2.1 45 27 = nI (G.1.map (am_mr a b)).length
    rw [hf 45 27 (by omega) (by omega) (by omega), List.length_map]; exact h27
  · show τ2.1 45 28 = nI (2 ^ (G.1.map (am_mr a b)).length - 1)
    rw [hf 45 28 (by omega) (by omega) (by omega), List.length_map]; exact h28
  · show τ2.1 45 1 = nI (G.2.1.map (am_mw a b)).length
    rw [hf 45 1 (by omega) (by omega) (by omega), List.length_map]; exact w1
  · intro i hi
    have hi' : i < G.2.1.length := by
      have hi2 : i < (G.2.1.map (am_mw a b)).length := hi
      rw [List.length_map] at hi2
      exact hi2
    show τ2.1 57 i = nI ((G.2.1.map (am_mw a b)).getD i 0)
    rw [g5 i, if_pos (by omega), getD_map (d := 0) hi']
  · show (G.2.1.map (am_mw a b)).length ≤ 8
    rw [List.length_map]; exact w3
  · intro w hw
    obtain ⟨w', hw', rfl⟩ := List.mem_map.mp hw
    exact mw_lt (w4 w' hw') ha
  · rw [hf 45 2 (by omega) (by omega) (by omega)]; exact w5
  · rw [hfr 49 (by omega) (by omega) (by omega)]; exact w6
  · rw [hfr 50 (by omega) (by omega) (by omega)]; exact w7
  · intro c hc
    show c.1 < (G.2.1.map (am_mw a b)).length ∧ c.2 < (G.2.1.map (am_mw a b)).length
    rw [List.length_map]; exact w9 c hc
theorem due_c {c op op' : Nat} (hc : c ≤ 8) (h : ∀ i, op'.testBit i = true → i < c) (h' : op' < 256) : an_not (2 ^ c - 1) op &&& op' = 0 ↔ an_not op' op = 0 := by
  rw [dis_bits, an_not0 (by omega), sub_bits]
  constructor
  · intro h1 i hi
    have h2 := h1 i hi
    have hic := h i hi
    rw [an_not_bit (by omega), tb_ones, decide_eq_true hic, Bool.true_and] at h2
    simpa using h2
  · intro h1 i hi
    have hic := h i hi
    rw [an_not_bit (by omega), h1 i hi, Bool.not_true, Bool.and_false]
theorem op_bit {q : List bq_E} {ro : List Nat} : ∀ i, (am_op q ro cf).testBit i = true → i < cf.length := by
  intro i hi
  unfold am_op at hi
  rw [bits_bit, Nat.zero_testBit, Bool.false_or, Bool.and_eq_true] at hi
  have := of_decide_eq_true hi.1
  omega
theorem isDue_ok {st op : Nat} (hst : st < 256) (h : mg_ok τ N G cf) (h37 : τ.1 45 37 = nI st) (h38 : τ.1 45 38 = nI (an_not (2 ^ cf.length - 1) op)) : ∃ τ', f_Model_isDue 45 τ = some (am_bz (am_due N cf st op G), τ') ∧ fr_m τ τ' := by
  have hN := h.1.2.2.2.2.2
  obtain ⟨τ1, l1, l2, l3⟩ := laysFrom_ok h.1 (s := 0) (by omega)
  rw [mq_cq hN, sel_ones] at l2
  have l2' : mf_ok τ1 (am_gq N G) := l2
  have l1' : f_Model_laysFrom 45 (0 : Int32) τ = some τ1 := by rw [am_z]; exact l1
  have hokq : bq_ok (am_gq N G) := bq_all_ok (by omega)
  have hw1 := mw_fr h.2 l3
  have hc8 := hw1.2.2.2.2.2.2.2.1
  have hle1 := an_not_le (a := st) (b := am_st (am_gq N G) G.2.1)
  have hle2 := an_not_le (a := 2 ^ cf.length - 1) (b := op)
  have ho := op_lt (q := am_gq N G) (ro := G.2.1) hc8
  have hdc := due_c (op := op) hc8 (op_bit (q := am_gq N G) (ro := G.2.1) (cf := cf)) ho
  have hal : an_not (2 ^ cf.length - 1) op &&& am_op (am_gq N G) G.2.1 cf < 256 := Nat.lt_of_le_of_lt Nat.and_le_right ho
  refine ⟨τ1, ?_, l3⟩
  unfold f_Model_isDue am_due
  rw [l1', Option.bind_some, msettable_ok l2' hokq hw1, Option.bind_some, (l3.1 45 37 (by omega) (by omega) (by omega)).trans h37, nI_an]
  by_cases hc : an_not st (am_st (am_gq N G) G.2.1) = 0
  · rw [if_pos (by rw [hc]; exact am_z.symm), munprot_ok l2' hokq hw1, Option.bind_some, (l3.1 45 38 (by omega) (by omega) (by omega)).trans h38, nI_and, decide_eq_true hc, Bool.true_and]
    by_cases hc2 : an_not (am_op (am_gq N G) G.2.1 cf) op = 0
    · rw [if_pos (by rw [hdc.mpr hc2]; exact am_z.symm), decide_eq_true hc2]
      rfl
    · rw [if_neg (nI_ne0' (fun z => hc2 (hdc.mp z)) (by omega)), decide_eq_false hc2]
      rfl
  · rw [if_neg (nI_ne0' hc (by omega)), decide_eq_false hc]
    rfl
end MG
/-! saving and restoring -/
theorem sv_L2 : ∀ (n i : Nat) (τ : ja_S), i ≤ 128 → 128 - i < n → ∃ τ', f_Model_copies_L2 n 45 0 (nI i) τ = f_Model_copies_L48 ja_FU 45 0 0 τ' ∧ (∀ c j, c ≠ 62 → τ'.1 c j = τ.1 c j) ∧ τ'.2 = τ.2 ∧ (∀ j, i ≤ j → j < 128 → τ'.1 62 j = τ.1 56 j) ∧ ∀ j, j < i → τ'.1 62 j = τ.1 62 j := by
  intro n
  induction n with
  | zero => intro i τ _ h; omega
  | succ n ih =>
    intro i τ hi hn
    rw [f_Model_copies_L2, show (128 : Int32) = nI 128 by decide +kernel]
    by_cases h : i = 128
    · rw [h, if_pos (nI_le (Nat.le_refl _) (by omega))]
      exact ⟨τ, rfl, fun _ _ _ => rfl, rfl, fun j h1 h2 => by omega, fun _ _ => rfl⟩
    · rw [if_neg (nI_ge (by omega) (by omega)), if_pos (show (0 : Int32) = 0 from rfl), show ja_q 45 25 = 56 from rfl, show ja_q 45 39 = 62 from rfl, ld0 (N := 128) rfl (by omega) (by omega), Option.bind_some, st0' (N := 128) rfl (by omega) (by omega), Option.bind_some, nI_1]
      obtain ⟨τ', e1, e2, e3, e4, e5⟩ := ih (i + 1) (ja_si τ 62 i (τ.1 56 i)) (by omega) (by omega)
      refine ⟨τ', e1, fun c j hc => (e2 c j hc).trans (by rw [si_row hc]), e3, fun j h1 h2 => ?_, fun j h1 => ?_⟩
      · by_cases hj : j = i
        · rw [hj, e5 i (by omega), si_at, if_pos ⟨rfl, rfl⟩]
        · rw [e4 j (by omega) h2, si_row (by omega)]
      · rw [e5 j (by omega), si_at, if_neg (by omega)]
theorem sv_L48 : ∀ (n i : Nat) (τ : ja_S), i ≤ 8 → 8 - i < n → ∃ τ', f_Model_copies_L48 n 45 0 (nI i) τ = some τ' ∧ (∀ c j, c ≠ 63 → (c ≠ 45 ∨ j ≠ 41) → τ'.1 c j = τ.1 c j) ∧ τ'.2 = τ.2 ∧ τ'.1 45 41 = τ.1 45 29 ∧ (∀ j, i ≤ j → j < 8 → τ'.1 63 j = τ.1 57 j) ∧ ∀ j, j < i → τ'.1 63 j = τ.1 63 j := by
  intro n
  induction n with
  | zero => intro i τ _ h; omega
  | succ n ih =>
    intro i τ hi hn
    rw [f_Model_copies_L48, show (8 : Int32) = nI 8 by decide +kernel]
    by_cases h : i = 8
    · unfold ja_pu
      rw [h, if_pos (nI_le (Nat.le_refl _) (by omega)), if_pos (show (0 : Int32) = 0 from rfl), Option.bind_some]
      refine ⟨_, rfl, fun c j h1 h2 => ?_, rfl, ?_, fun j h1 h2 => by omega, fun j h1 => ?_⟩
      · rw [si_at, if_neg (by omega)]
      · rw [si_at, if_pos ⟨rfl, rfl⟩]
      · rw [si_row (by omega)]
    · rw [if_neg (nI_ge (by omega) (by omega)), if_pos (show (0 : Int32) = 0 from rfl), show ja_q 45 26 = 57 from rfl, show ja_q 45 40 = 63 from rfl, ld0 (N := 8) rfl (by omega) (by omega), Option.bind_some, st0' (N := 8) rfl (by omega) (by omega), Option.bind_some, nI_1]
      obtain ⟨τ', e1, e2, e3, e4, e5, e6⟩ := ih (i + 1) (ja_si τ 63 i (τ.1 57 i)) (by omega) (by omega)
      refine ⟨τ', e1, fun c j h1 h2 => (e2 c j h1 h2).trans (by rw [si_row h1]), e3, by rw [e4, si_row (by omega)], fun j h1 h2 => ?_, fun j h1 => ?_⟩
      · by_cases hj : j = i
        · rw [hj, e6 i (by omega), si_at, if_pos ⟨rfl, rfl⟩]
        · rw [e5 j (by omega) h2, si_row (by omega)]
      · rw [e6 j (by omega), si_at, if_neg (by omega)]
theorem rs_L2 : ∀ (n i : Nat) (τ : ja_S), i ≤ 128 → 128 - i < n → ∃ τ', f_Model_copies_L2 n 45 1 (nI i) τ = f_Model_copies_L48 ja_FU 45 1 0 τ' ∧ (∀ c j, c ≠ 56 → τ'.1 c j = τ.1 c j) ∧ τ'.2 = τ.2 ∧ (∀ j, i ≤ j → j < 128 → τ'.1 56 j = τ.1 62 j) ∧ ∀ j, j < i → τ'.1 56 j = τ.1 56 j := by
  intro n
  induction n with
  | zero => intro i τ _ h; omega
  | succ n ih =>
    intro i τ hi hn
    rw [f_Model_copies_L2, show (128 : Int32) = nI 128 by decide +kernel]
    by_cases h : i = 128
    · rw [h, if_pos (nI_le (Nat.le_refl _) (by omega))]
      exact ⟨τ, rfl, fun _ _ _ => rfl, rfl, fun j h1 h2 => by omega, fun _ _ => rfl⟩
    · rw [if_neg (nI_ge (by omega) (by omega)), if_neg i1n0, show ja_q 45 25 = 56 from rfl, show ja_q 45 39 = 62 from rfl, ld0 (N := 128) rfl (by omega) (by omega), Option.bind_some, st0' (N := 128) rfl (by omega) (by omega), Option.bind_some, nI_1]
      obtain ⟨τ', e1, e2, e3, e4, e5⟩ := ih (i + 1) (ja_si τ 56 i (τ.1 62 i)) (by omega) (by omega)
      refine ⟨τ', e1, fun c j hc => (e2 c j hc).trans (by rw [si_row hc]), e3, fun j h1 h2 => ?_, fun j h1 => ?_⟩
      · by_cases hj : j = i
        · rw [hj, e5 i (by omega), si_at, if_pos ⟨rfl, rfl⟩]
        · rw [e4 j (by omega) h2, si_row (by omega)]
      · rw [e5 j (by omega), si_at, if_neg (by omega)]
theorem rs_L48 : ∀ (n i : Nat) (τ : ja_S), i ≤ 8 → 8 - i < n → ∃ τ', f_Model_copies_L48 n 45 1 (nI i) τ = some τ' ∧ (∀ c j, c ≠ 57 → (c ≠ 45 ∨ j ≠ 29) → τ'.1 c j = τ.1 c j) ∧ τ'.2 = τ.2 ∧ τ'.1 45 29 = τ.1 45 41 ∧ (∀ j, i ≤ j → j < 8 → τ'.1 57 j = τ.1 63 j) ∧ ∀ j, j < i → τ'.1 57 j = τ.1 57 j := by
  intro n
  induction n with
  | zero => intro i τ _ h; omega
  | succ n ih =>
    intro i τ hi hn
    rw [f_Model_copies_L48, show (8 : Int32) = nI 8 by decide +kernel]
    by_cases h : i = 8
    · unfold ja_pu
      rw [h, if_pos (nI_le (Nat.le_refl _) (by omega)), if_neg i1n0, Option.bind_some]
      refine ⟨_, rfl, fun c j h1 h2 => ?_, rfl, ?_, fun j h1 h2 => by omega, fun j h1 => ?_⟩
      · rw [si_at, if_neg (by omega)]
      · rw [si_at, if_pos ⟨rfl, rfl⟩]
      · rw [si_row (by omega)]
    · rw [if_neg (nI_ge (by omega) (by omega)), if_neg i1n0, show ja_q 45 26 = 57 from rfl, show ja_q 45 40 = 63 from rfl, ld0 (N := 8) rfl (by omega) (by omega), Option.bind_some, st0' (N := 8) rfl (by omega) (by omega), Option.bind_some, nI_1]
      obtain ⟨τ', e1, e2, e3, e4, e5, e6⟩ := ih (i + 1) (ja_si τ 57 i (τ.1 63 i)) (by omega) (by omega)
      refine ⟨τ', e1, fun c j h1 h2 => (e2 c j h1 h2).trans (by rw [si_row h1]), e3, by rw [e4, si_row (by omega)], fun j h1 h2 => ?_, fun j h1 => ?_⟩
      · by_cases hj : j = i
        · rw [hj, e6 i (by omega), si_at, if_pos ⟨rfl, rfl⟩]
        · rw [e5 j (by omega) h2, si_row (by omega)]
      · rw [e6 j (by omega), si_at, if_neg (by omega)]
theorem save_ok {τ : ja_S} : ∃ τ', f_Model_copies 45 0 τ = some τ' ∧ (∀ j, j < 128 → τ'.1 62 j = τ.1 56 j) ∧ (∀ j, j < 8 → τ'.1 63 j = τ.1 57 j) ∧ τ'.1 45 41 = τ.1 45 29 ∧ (∀ c j, c ≠ 62 → c ≠ 63 → (c ≠ 45 ∨ j ≠ 41) → τ'.1 c j = τ.1 c j) ∧ τ'.2 = τ.2 := by
  obtain ⟨τ1, a1, a2, a3, a4, a5⟩ := sv_L2 ja_FU 0 τ (by omega) (by unfold ja_FU; omega)
  obtain ⟨τ2, b1, b2, b3, b4, b5, b6⟩ := sv_L48 ja_FU 0 τ1 (by omega) (by unfold ja_FU; omega)
  refine ⟨τ2, ?_, fun j hj => ?_, fun j hj => ?_, ?_, fun c j x y z => ?_, b3.trans a3⟩
  · unfold f_Model_copies
    rw [← am_z] at a1 b1
    rw [a1, b1]
  · rw [b2 62 j (by omega) (by omega), a4 j (by omega) hj]
  · rw [b5 j (by omega) hj, a2 57 j (by omega)]
  · rw [b4, a2 45 29 (by omega)]
  · rw [b2 c j y z, a2 c j x]
theorem rest_ok {τ : ja_S} : ∃ τ', f_Model_copies 45 1 τ = some τ' ∧ (∀ j, j < 128 → τ'.1 56 j = τ.1 62 j) ∧ (∀ j, j < 8 → τ'.1 57 j = τ.1 63 j) ∧ τ'.1 45 29 = τ.1 45 41 ∧ (∀ c j, c ≠ 56 → c ≠ 57 → (c ≠ 45 ∨ j ≠ 29) → τ'.1 c j = τ.1 c j) ∧ τ'.2 = τ.2 := by
  obtain ⟨τ1, a1, a2, a3, a4, a5⟩ := rs_L2 ja_FU 0 τ (by omega) (by unfold ja_FU; omega)
  obtain ⟨τ2, b1, b2, b3, b4, b5, b6⟩ := rs_L48 ja_FU 0 τ1 (by omega) (by unfold ja_FU; omega)
  refine ⟨τ2, ?_, fun j hj => ?_, fun j hj => ?_, ?_, fun c j x y z => ?_, b3.trans a3⟩
  · unfold f_Model_copies
    rw [← am_z] at a1 b1
    rw [a1, b1]
  · rw [b2 56 j (by omega) (by omega), a4 j (by omega) hj]
  · rw [b5 j (by omega) hj, a2 63 j (by omega)]
  · rw [b4, a2 45 41 (by omega)]
  · rw [b2 c j y z, a2 c j x]
