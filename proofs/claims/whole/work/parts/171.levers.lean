/-! leversAfterMerging -/
def am_cn (p : Nat → Bool) : Nat → Nat
  | 0 => 0
  | n + 1 => am_cn p n + (if p n = true then 1 else 0)
theorem cn_congr {p p' : Nat → Bool} : ∀ (n : Nat), (∀ i, i < n → p i = p' i) → am_cn p n = am_cn p' n
  | 0, _ => rfl
  | n + 1, h => by
    unfold am_cn
    rw [cn_congr n (fun i hi => h i (by omega)), h n (by omega)]
theorem cn_step {p p' : Nat → Bool} {b : Nat} : ∀ (n : Nat), b < n → p b = true → p' b = false → (∀ i, i < n → i ≠ b → p' i = p i) → am_cn p' n + 1 = am_cn p n
  | 0, h, _, _, _ => by omega
  | n + 1, h, h1, h2, h3 => by
    unfold am_cn
    by_cases hb : b = n
    · subst hb
      rw [cn_congr b (p := p') (p' := p) (fun i hi => h3 i (by omega) (by omega)), if_pos h1, if_neg (by rw [h2]; decide)]
    · have := cn_step n (by omega) h1 h2 (fun i hi hne => h3 i (by omega) hne)
      rw [h3 n (by omega) (by omega)]
      omega
theorem cn_pos {p : Nat → Bool} {b : Nat} : ∀ (n : Nat), b < n → p b = true → 1 ≤ am_cn p n
  | 0, h, _ => by omega
  | n + 1, h, h1 => by
    unfold am_cn
    by_cases hb : b = n
    · subst hb
      rw [if_pos h1]
      omega
    · have := cn_pos n (by omega) h1
      omega
/-- levers that are left -/
def am_lf (N : Nat) (G : am_G) : Nat := am_cn (fun i => !G.2.2.testBit i) N
theorem lf0 {N : Nat} {rs : List am_R} {ro : List Nat} : am_lf N (rs, ro, 0) = N := by
  unfold am_lf
  have : ∀ n, am_cn (fun i => !(0 : Nat).testBit i) n = n := by
    intro n
    induction n with
    | zero => rfl
    | succ n ih =>
      unfold am_cn
      rw [ih, Nat.zero_testBit, if_pos (by rfl)]
  exact this N
section LV
variable {N : Nat} {cf : List (Nat × Nat)} {st op : Nat} {G : am_G}
def am_mp (N : Nat) (cf : List (Nat × Nat)) (st op : Nat) (G : am_G) (i : Nat) : Bool := decide (i / 12 < i % 12 ∧ i % 12 < N) && ((!G.2.2.testBit (i / 12) && !G.2.2.testBit (i % 12)) && am_due N cf st op (am_mg (i / 12) (i % 12) G))
theorem first_true {p : Nat → Bool} {i : Nat} : ∀ (n j : Nat), am_first p n j = some i → p i = true
  | 0, _, h => by cases h
  | n + 1, j, h => by
    rw [first_succ] at h
    by_cases hj : p j = true
    · rw [if_pos hj] at h; cases h; exact hj
    · rw [if_neg hj] at h; exact first_true n (j + 1) h
theorem m1_some {i : Nat} (h : am_m1 N cf st op G = some i) : i / 12 < i % 12 ∧ i % 12 < N ∧ G.2.2.testBit (i / 12) = false ∧ G.2.2.testBit (i % 12) = false := by
  have h1 : am_mp N cf st op G i = true := first_true _ _ h
  unfold am_mp at h1
  rw [Bool.and_eq_true, Bool.and_eq_true, Bool.and_eq_true, Bool.not_eq_true', Bool.not_eq_true'] at h1
  have := of_decide_eq_true h1.1
  exact ⟨this.1, this.2, h1.2.1.1, h1.2.1.2⟩
theorem lf_step {i : Nat} (h : am_m1 N cf st op G = some i) : am_lf N (am_mg (i / 12) (i % 12) G) + 1 = am_lf N G := by
  obtain ⟨h1, h2, h3, h4⟩ := m1_some h
  unfold am_lf
  refine cn_step (b := i % 12) N h2 (by rw [h4]; rfl) ?_ ?_
  · show (!(G.2.2 ||| 2 ^ (i % 12)).testBit (i % 12)) = false
    rw [Nat.testBit_or, Nat.testBit_two_pow_self, Bool.or_true]
    rfl
  · intro j _ hj
    show (!(G.2.2 ||| 2 ^ (i % 12)).testBit j) = !G.2.2.testBit j
    rw [Nat.testBit_or, Nat.testBit_two_pow, decide_eq_false (fun z => hj z.symm), Bool.or_false]
theorem m1_lf {i : Nat} (h : am_m1 N cf st op G = some i) : 2 ≤ am_lf N G := by
  obtain ⟨h1, h2, h3, h4⟩ := m1_some h
  have h5 := lf_step h
  have h6 : 1 ≤ am_lf N (am_mg (i / 12) (i % 12) G) := by
    refine cn_pos (b := i / 12) N (by omega) ?_
    show (!(G.2.2 ||| 2 ^ (i % 12)).testBit (i / 12)) = true
    rw [Nat.testBit_or, Nat.testBit_two_pow, decide_eq_false (by omega), h3]
    rfl
  omega
theorem lv_le : ∀ (m : Nat) (G : am_G), am_lv N cf st op m G ≤ am_lf N G
  | 0, _ => Nat.zero_le _
  | m + 1, G => by
    unfold am_lv
    cases h : am_m1 N cf st op G with
    | none => exact Nat.zero_le _
    | some i =>
      have h1 := lv_le m (am_mg (i / 12) (i % 12) G)
      have h2 := lf_step h
      dsimp only
      omega
/-- rows of the pairs: nothing below the diagonal -/
theorem mp_row {x : Nat} (hx : x < 12) : am_first (am_mp N cf st op G) 12 (12 * x) = am_first (am_mp N cf st op G) (12 - (x + 1)) (12 * x + (x + 1)) := by
  have h := first_add (p := am_mp N cf st op G) (x + 1) (12 - (x + 1)) (12 * x)
  rw [show x + 1 + (12 - (x + 1)) = 12 by omega] at h
  have hn : am_first (am_mp N cf st op G) (x + 1) (12 * x) = none := by
    rw [first_none]
    intro k h1 h2
    unfold am_mp
    rw [decide_eq_false (by omega), Bool.false_and]
  rw [h, hn]
end LV
section MF
variable {A : am_A} {N : Nat} {cf : List (Nat × Nat)} {st op : Nat} {G : am_G}
/-- the class's merger, measured against the frame -/
def mc_ok (A : am_A) (σ : ja_S) (N : Nat) (G : am_G) (cf : List (Nat × Nat)) (st op : Nat) : Prop := am_K A σ ∧ sh_ok σ 35 N G.2.2 G.1 G.2.1 cf ∧ σ.1 34 3 = nI st ∧ σ.1 34 0 = nI op
theorem canMove_ok {σ : ja_S} (hN : N ≤ 12) (h : sh_ok σ 35 N G.2.2 G.1 G.2.1 cf) {x : Nat} (hx : x < 12) : f_Sheet_canMove 35 (nI x) σ = some (am_bz (decide (x < N) && !G.2.2.testBit x), σ) := by
  unfold f_Sheet_canMove
  rw [movable_ok h.1 h.2.1 hN, Option.bind_some, ← mv_bit hN]
  have := mv_lt (g := G.2.2) hN
  by_cases hb : (am_mv N G.2.2).testBit x = true
  · rw [if_pos ((nI_bit32 (by omega)).mpr hb), hb]
    rfl
  · rw [if_neg (fun z => hb ((nI_bit32 (by omega)).mp z)), show (am_mv N G.2.2).testBit x = false by simpa using hb]
    rfl
theorem mfp_L17 (hN : N ≤ 12) (hst : st < 256) (hop : op < 256) {x : Nat} (hx : x < N) (k2 : Nat → Nat → Int32 → ja_S → Option (Int32 × ja_S)) : ∀ (d n y : Nat) (σ : ja_S), y + d = 12 → x < y → d < n → mc_ok A σ N G cf st op → ∃ σ', f_Merger_mergeFirstPair_L17 k2 n 34 23 (nI x) (nI y) σ = (match am_first (am_mp N cf st op G) d (12 * x + y) with
    | some _ => some (1, σ')
    | none => k2 34 23 (nI (x + 1)) σ') ∧ fr_g σ σ' ∧ (match am_first (am_mp N cf st op G) d (12 * x + y) with
    | some i => mc_ok A σ' N (am_mg (i / 12) (i % 12) G) cf st op
    | none => mc_ok A σ' N G cf st op) := by
  intro d
  induction d with
  | zero =>
    intro n y σ hy hxy hn h
    obtain ⟨n, rfl⟩ : ∃ j, n = j + 1 := ⟨n - 1, by omega⟩
    refine ⟨σ, ?_, fr_g_rf, h⟩
    rw [f_Merger_mergeFirstPair_L17, show ja_q 34 1 = 35 from rfl, h.2.1.1, if_pos (nI_le (by omega) (by omega)), nI_1]
    rfl
  | succ d ih =>
    intro n y σ hy hxy hn h
    obtain ⟨n, rfl⟩ : ∃ j, n = j + 1 := ⟨n - 1, by omega⟩
    rw [f_Merger_mergeFirstPair_L17, show ja_q 34 1 = 35 from rfl, show ja_q 34 2 = 40 from rfl, h.2.1.1]
    by_cases hyN : N ≤ y
    · have hnone : am_first (am_mp N cf st op G) (d + 1) (12 * x + y) = none := by
        rw [first_none]
        intro k h1 h2
        unfold am_mp
        rw [decide_eq_false (by omega), Bool.false_and]
      rw [hnone, if_pos (nI_le (by omega) (by omega)), nI_1]
      exact ⟨σ, rfl, fr_g_rf, h⟩
    · have hd1 : (12 * x + y) / 12 = x := by omega
      have hd2 : (12 * x + y) % 12 = y := by omega
      have e : am_mp N cf st op G (12 * x + y) = ((!G.2.2.testBit x && !G.2.2.testBit y) && am_due N cf st op (am_mg x y G)) := by
        unfold am_mp
        rw [hd1, hd2, decide_eq_true (by omega), Bool.true_and]
      rw [if_neg (nI_ge (by omega) (by omega)), canMove_ok hN h.2.1 (by omega), Option.bind_some, decide_eq_true hx, Bool.true_and, first_succ, e, nI_1]
      cases hb1 : G.2.2.testBit x with
      | true =>
        rw [Bool.not_true, if_pos (am_bz0.mpr rfl), Bool.false_and, Bool.false_and, if_neg (show ¬ (false = true) by decide)]
        exact ih n (y + 1) σ (by omega) (by omega) (by omega) h
      | false =>
        rw [Bool.not_false, if_neg bz1, canMove_ok hN h.2.1 (by omega), Option.bind_some, decide_eq_true (by omega), Bool.true_and]
        cases hb2 : G.2.2.testBit y with
        | true =>
          rw [Bool.not_true, if_pos (am_bz0.mpr rfl), Bool.false_and, if_neg (show ¬ (false = true) by decide)]
          exact ih n (y + 1) σ (by omega) (by omega) (by omega) h
        | false =>
          obtain ⟨σ1, t1, t2, t3, t4, t5, t6, t7⟩ := attempt_ok h.1 hN (a := x) (b := y) (by omega) (by omega) h.2.1
          have hk := keepsRC_ok hst hop t2 t4 ((t7 3).trans h.2.2.1) ((t7 0).trans h.2.2.2)
          rw [Bool.not_false, if_neg bz1, t1, Option.bind_some, hk, Option.bind_some, Bool.true_and]
          cases hd : am_due N cf st op (am_mg x y G) with
          | false =>
            rw [if_pos (am_bz0.mpr rfl), if_neg (show ¬ (false = true) by decide)]
            obtain ⟨σ2, s1, s2, s3⟩ := ih n (y + 1) σ1 (by omega) (by omega) (by omega) ⟨t5, t3, (t7 3).trans h.2.2.1, (t7 0).trans h.2.2.2⟩
            exact ⟨σ2, s1, fr_g_tr t6 s2, s3⟩
          | true =>
            obtain ⟨σ2, c1, c2, c3⟩ := shcopy_ok (x := 35) (y := 40) (Or.inr (Or.inr (Or.inl rfl))) (Or.inr (Or.inr (Or.inr rfl))) (by omega) t2
            rw [if_neg bz1, if_pos (show true = true from rfl), c1, Option.bind_some]
            have hf2 : fr_g σ1 σ2 := ⟨fun k j h1 h2 h3 h4 => c3.1 k j (by omega), fun k _ _ => by rw [c3.2]⟩
            refine ⟨σ2, rfl, fr_g_tr t6 hf2, ?_⟩
            show mc_ok A σ2 N (am_mg ((12 * x + y) / 12) ((12 * x + y) % 12) G) cf st op
            rw [hd1, hd2]
            refine ⟨am_K_g t5 hf2 ?_, c2, ?_, ?_⟩
            · obtain ⟨q, hb, hq⟩ := t5.2.1
              exact ⟨q, bs_ok_fr hb (fun k hk => funext fun j => c3.1 k j (by omega)), hq⟩
            · rw [c3.1 34 3 (by omega), t7 3]; exact h.2.2.1
            · rw [c3.1 34 0 (by omega), t7 0]; exact h.2.2.2
theorem mfp_L2 (hN : N ≤ 12) (hst : st < 256) (hop : op < 256) : ∀ (d n x : Nat) (σ : ja_S), x + d = 12 → d < n → mc_ok A σ N G cf st op → ∃ σ', f_Merger_mergeFirstPair_L2 n 34 23 (nI x) σ = some (am_bz (am_first (am_mp N cf st op G) (12 * d) (12 * x)).isSome, σ') ∧ fr_g σ σ' ∧ (match am_first (am_mp N cf st op G) (12 * d) (12 * x) with
    | some i => mc_ok A σ' N (am_mg (i / 12) (i % 12) G) cf st op
    | none => mc_ok A σ' N G cf st op) := by
  intro d
  induction d with
  | zero =>
    intro n x σ hx hn h
    obtain ⟨n, rfl⟩ : ∃ j, n = j + 1 := ⟨n - 1, by omega⟩
    refine ⟨σ, ?_, fr_g_rf, h⟩
    rw [f_Merger_mergeFirstPair_L2, show ja_q 34 1 = 35 from rfl, h.2.1.1, if_pos (nI_le (by omega) (by omega))]
    rfl
  | succ d ih =>
    intro n x σ hx hn h
    obtain ⟨n, rfl⟩ : ∃ j, n = j + 1 := ⟨n - 1, by omega⟩
    rw [f_Merger_mergeFirstPair_L2, show ja_q 34 1 = 35 from rfl, h.2.1.1]
    by_cases hxN : N ≤ x
    · have hnone : am_first (am_mp N cf st op G) (12 * (d + 1)) (12 * x) = none := by
        rw [first_none]
        intro k h1 h2
        unfold am_mp
        rw [decide_eq_false (by omega), Bool.false_and]
      rw [hnone, if_pos (nI_le (by omega) (by omega))]
      exact ⟨σ, rfl, fr_g_rf, h⟩
    · rw [if_neg (nI_ge (by omega) (by omega)), nI_1, show 12 * (d + 1) = 12 + 12 * d by omega, first_add, mp_row (by omega)]
      obtain ⟨σ1, s1, s2, s3⟩ := mfp_L17 (A := A) (G := G) (cf := cf) hN hst hop (x := x) (by omega) (f_Merger_mergeFirstPair_L2 n) (12 - (x + 1)) ja_FU (x + 1) σ (by omega) (by omega) (by unfold ja_FU; omega) h
      rw [s1]
      cases hf : am_first (am_mp N cf st op G) (12 - (x + 1)) (12 * x + (x + 1)) with
      | some i =>
        rw [hf] at s3
        exact ⟨σ1, rfl, s2, s3⟩
      | none =>
        rw [hf] at s3
        obtain ⟨σ2, u1, u2, u3⟩ := ih n (x + 1) σ1 (by omega) (by omega) s3
        rw [show 12 * (x + 1) = 12 * x + 12 by omega] at u1 u3
        exact ⟨σ2, u1, fr_g_tr s2 u2, u3⟩
theorem mfp_ok {σ : ja_S} (hN : N ≤ 12) (hst : st < 256) (hop : op < 256) (h : mc_ok A σ N G cf st op) : ∃ σ', f_Merger_mergeFirstPair 34 23 σ = some (am_bz (am_m1 N cf st op G).isSome, σ') ∧ fr_g σ σ' ∧ (match am_m1 N cf st op G with
    | some i => mc_ok A σ' N (am_mg (i / 12) (i % 12) G) cf st op
    | none => mc_ok A σ' N G cf st op) := by
  have := mfp_L2 (A := A) (G := G) (cf := cf) hN hst hop 12 ja_FU 0 σ (by omega) (by unfold ja_FU; omega) h
  rw [← am_z] at this
  exact this
/-- the class's steps -/
theorem lam_L35 (hN : N ≤ 12) (hst : st < 256) (hop : op < 256) : ∀ (m n : Nat) (G : am_G) (σ : ja_S), m ≤ 12 → m < n → mc_ok A σ N G cf st op → σ.1 0 11 = 0 → σ.1 0 1 = nI (am_lf N G) → ∃ σ', f_Frame_leversAfterMerging_L35 n 0 (nI (12 - m)) σ = some (nI (am_lf N G - am_lv N cf st op m G), ja_si σ' 0 11 1) ∧ am_K A σ' ∧ σ'.1 0 11 = 0 ∧ σ'.1 0 1 = nI (am_lf N G - am_lv N cf st op m G) ∧ fr_cl σ σ' := by
  intro m
  induction m with
  | zero =>
    intro n G σ hm hn h h14 h15
    obtain ⟨n, rfl⟩ : ∃ j, n = j + 1 := ⟨n - 1, by omega⟩
    refine ⟨σ, ?_, h.1, h14, h15, fr_cl_rf⟩
    rw [f_Frame_leversAfterMerging_L35, show (12 : Int32) = nI 12 by decide +kernel, if_pos (nI_le (by omega) (by omega))]
    unfold f_Frame_leversAfterMerging_B71 ja_pu
    rw [Option.bind_some, si_at, if_neg (by omega), h15]
    rfl
  | succ m ih =>
    intro n G σ hm hn h h14 h15
    obtain ⟨n, rfl⟩ : ∃ j, n = j + 1 := ⟨n - 1, by omega⟩
    obtain ⟨σ1, s1, s2, s3⟩ := mfp_ok hN hst hop h
    have k0 : ∀ j, σ1.1 0 j = σ.1 0 j := fun j => s2.1 0 j (by omega) (by omega) (by omega) (by omega)
    rw [f_Frame_leversAfterMerging_L35, show (12 : Int32) = nI 12 by decide +kernel, if_neg (nI_ge (by omega) (by omega)), show ja_q 0 0 = 34 from rfl, show ja_q 0 9 = 23 from rfl, s1, Option.bind_some]
    unfold am_lv
    cases hp : am_m1 N cf st op G with
    | none =>
      rw [hp] at s3
      rw [Option.isSome_none, if_pos (am_bz0.mpr rfl)]
      refine ⟨σ1, ?_, s3.1, (k0 11).trans h14, (k0 1).trans h15, fr_g_cl s2⟩
      unfold f_Frame_leversAfterMerging_B71 ja_pu
      rw [Option.bind_some, si_at, if_neg (by omega), k0 1, h15]
      rfl
    | some i =>
      rw [hp] at s3
      have hl1 := lf_step hp
      have hl2 := m1_lf hp
      have hle := lv_le (N := N) (cf := cf) (st := st) (op := op) m (am_mg (i / 12) (i % 12) G)
      unfold ja_pu
      have hsub : nI (am_lf N G) - 1 = nI (am_lf N (am_mg (i / 12) (i % 12) G)) := by
        rw [← hl1, nI_pred]
      have hstp : nI (12 - (m + 1)) + 1 = nI (12 - m) := by
        rw [nI_1, show 12 - (m + 1) + 1 = 12 - m by omega]
      rw [Option.isSome_some, if_neg bz1, Option.bind_some, k0 1, h15, hsub, hstp]
      have hf2 : fr_cl σ1 (ja_si σ1 0 1 (nI (am_lf N (am_mg (i / 12) (i % 12) G)))) := fun k j hk => by rw [si_at, if_neg (by omega)]
      have h14' : σ1.1 0 11 = 0 := (k0 11).trans h14
      have hmc : mc_ok A (ja_si σ1 0 1 (nI (am_lf N (am_mg (i / 12) (i % 12) G)))) N (am_mg (i / 12) (i % 12) G) cf st op := by
        refine ⟨?_, sh_ok_fr s3.2.1 (fun c h1 h2 => si_row (by omega)), by rw [si_row (by omega)]; exact s3.2.2.1, by rw [si_row (by omega)]; exact s3.2.2.2⟩
        obtain ⟨a1, a2, a3, a4, a5⟩ := s3.1
        have hr : ∀ k, k ≠ 0 → (ja_si σ1 0 1 (nI (am_lf N (am_mg (i / 12) (i % 12) G)))).1 k = σ1.1 k := fun k hk => si_row hk
        refine ⟨?_, ?_, ?_, ?_, Or.inl (by rw [si_at, if_neg (by omega)]; exact h14')⟩
        · unfold bs_ok at a1 ⊢
          rw [hr 17 (by omega), hr (17 + 4) (by omega), hr (17 + 5) (by omega)]
          exact a1
        · unfold bs_ok at a2 ⊢
          rw [hr 23 (by omega), hr (23 + 4) (by omega), hr (23 + 5) (by omega)]
          exact a2
        · unfold hm_ok bs_ok lk_ok at a3 ⊢
          rw [hr 17 (by omega), hr (17 + 4) (by omega), hr (17 + 5) (by omega), si_at, if_neg (by omega)]
          exact a3
        · unfold pl_ok at a4 ⊢
          rw [hr 29 (by omega), hr 33 (by omega)]
          exact a4
      obtain ⟨σ2, u1, u2, u3, u4, u5⟩ := ih n (am_mg (i / 12) (i % 12) G) _ (by omega) (by omega) hmc (by rw [si_at, if_neg (by omega)]; exact h14') (by rw [si_at, if_pos ⟨rfl, rfl⟩])
      have hx : am_lf N (am_mg (i / 12) (i % 12) G) - am_lv N cf st op m (am_mg (i / 12) (i % 12) G) = am_lf N G - (1 + am_lv N cf st op m (am_mg (i / 12) (i % 12) G)) := by omega
      rw [hx] at u1 u4
      exact ⟨σ2, u1, u2, u3, u4, fr_cl_tr (fr_g_cl s2) (fr_cl_tr hf2 u5)⟩
end MF
section MR
variable {N : Nat} {cf : List (Nat × Nat)} {st op : Nat} {G : am_G}
def mr_ok (τ : ja_S) (N : Nat) (G : am_G) (cf : List (Nat × Nat)) (st op : Nat) : Prop := mg_ok τ N G cf ∧ τ.1 45 37 = nI st ∧ τ.1 45 38 = nI (an_not (2 ^ cf.length - 1) op)
theorem mo_L14 (hN : N ≤ 12) (hst : st < 256) {x : Nat} (hx : x < N) (k2 : Nat → Int32 → ja_S → Option (Int32 × ja_S)) : ∀ (d n y : Nat) (τ : ja_S), y + d = 12 → x < y → d < n → mr_ok τ N G cf st op → ∃ τ', f_Model_mergesOne_L14 k2 n 45 (nI x) (nI y) τ = (match am_first (am_mp N cf st op G) d (12 * x + y) with
    | some _ => some (1, τ')
    | none => k2 45 (nI (x + 1)) τ') ∧ fr_e τ τ' ∧ (match am_first (am_mp N cf st op G) d (12 * x + y) with
    | some i => mr_ok τ' N (am_mg (i / 12) (i % 12) G) cf st op
    | none => mr_ok τ' N G cf st op) := by
  intro d
  induction d with
  | zero =>
    intro n y τ hy hxy hn h
    obtain ⟨n, rfl⟩ : ∃ j, n = j + 1 := ⟨n - 1, by omega⟩
    refine ⟨τ, ?_, fr_e_rf, h⟩
    rw [f_Model_mergesOne_L14, h.1.1.2.1, if_pos (nI_le (by omega) (by omega)), nI_1]
    rfl
  | succ d ih =>
    intro n y τ hy hxy hn h
    obtain ⟨n, rfl⟩ : ∃ j, n = j + 1 := ⟨n - 1, by omega⟩
    rw [f_Model_mergesOne_L14, h.1.1.2.1]
    by_cases hyN : N ≤ y
    · have hnone : am_first (am_mp N cf st op G) (d + 1) (12 * x + y) = none := by
        rw [first_none]
        intro k h1 h2
        unfold am_mp
        rw [decide_eq_false (by omega), Bool.false_and]
      rw [hnone, if_pos (nI_le (by omega) (by omega)), nI_1]
      exact ⟨τ, rfl, fr_e_rf, h⟩
    · have hd1 : (12 * x + y) / 12 = x := by omega
      have hd2 : (12 * x + y) % 12 = y := by omega
      have e : am_mp N cf st op G (12 * x + y) = ((!G.2.2.testBit x && !G.2.2.testBit y) && am_due N cf st op (am_mg x y G)) := by
        unfold am_mp
        rw [hd1, hd2, decide_eq_true (by omega), Bool.true_and]
      have h29 := h.1.1.2.2.2.2.1
      rw [if_neg (nI_ge (by omega) (by omega)), h29, has32 (by omega), Option.bind_some, first_succ, e, nI_1]
      cases hb1 : G.2.2.testBit x with
      | true =>
        rw [if_neg bz1, Bool.not_true, Bool.false_and, Bool.false_and, if_neg (show ¬ (false = true) by decide)]
        exact ih n (y + 1) τ (by omega) (by omega) (by omega) h
      | false =>
        rw [if_pos (am_bz0.mpr rfl), h29, has32 (by omega), Option.bind_some, Bool.not_false, Bool.true_and]
        cases hb2 : G.2.2.testBit y with
        | true =>
          rw [if_neg bz1, Bool.not_true, Bool.false_and, if_neg (show ¬ (false = true) by decide)]
          exact ih n (y + 1) τ (by omega) (by omega) (by omega) h
        | false =>
          obtain ⟨τ1, v1, v2, v3, v4, v5, v6⟩ := save_ok (τ := τ)
          have hq1 : mq_ok τ1 N G.1 (2 ^ G.1.length - 1) G.2.2 := mq_fr2 h.1.1 (fun j => v5 56 j (by omega) (by omega) (by omega)) (fun j hj => v5 45 j (by omega) (by omega) (by omega))
          have hw1 : mw_ok τ1 G.2.1 cf := by
            have hw := h.1.2
            have hr : ∀ k, k ≠ 45 → k ≠ 62 → k ≠ 63 → τ1.1 k = τ.1 k := fun k a b c => funext fun j => v5 k j b c (by omega)
            unfold mw_ok at hw ⊢
            rw [hr 57 (by omega) (by omega) (by omega), hr 49 (by omega) (by omega) (by omega), hr 50 (by omega) (by omega) (by omega), v5 45 1 (by omega) (by omega) (by omega), v5 45 2 (by omega) (by omega) (by omega)]
            exact hw
          obtain ⟨τ2, m1, m2, m3, m4⟩ := merges_ok (a := x) (b := y) (by omega) (by omega) ⟨hq1, hw1⟩
          have h37 : τ2.1 45 37 = nI st := by rw [m3 45 37 (by omega) (by omega) (by omega), v5 45 37 (by omega) (by omega) (by omega)]; exact h.2.1
          have h38 : τ2.1 45 38 = nI (an_not (2 ^ cf.length - 1) op) := by rw [m3 45 38 (by omega) (by omega) (by omega), v5 45 38 (by omega) (by omega) (by omega)]; exact h.2.2
          obtain ⟨τ3, u1, u2⟩ := isDue_ok hst m2 h37 h38
          have hf3 : fr_e τ τ3 := by
            refine ⟨fun k j h1 h2 => ?_, ?_⟩
            · rw [u2.1 k j (by omega) (by omega) (by omega), m3 k j (by omega) (by omega) (by omega), v5 k j (by omega) (by omega) (by omega)]
            · rw [u2.2, m4, v6]
          rw [if_pos (am_bz0.mpr rfl), v1, Option.bind_some, m1, Option.bind_some, u1, Option.bind_some, Bool.not_false, Bool.true_and]
          cases hd : am_due N cf st op (am_mg x y G) with
          | true =>
            rw [if_neg bz1, if_pos (show true = true from rfl)]
            refine ⟨τ3, rfl, hf3, ?_⟩
            show mr_ok τ3 N (am_mg ((12 * x + y) / 12) ((12 * x + y) % 12) G) cf st op
            rw [hd1, hd2]
            exact ⟨⟨mq_fr m2.1 u2, mw_fr m2.2 u2⟩, (u2.1 45 37 (by omega) (by omega) (by omega)).trans h37, (u2.1 45 38 (by omega) (by omega) (by omega)).trans h38⟩
          | false =>
            obtain ⟨τ4, w1, w2, w3, w4, w5, w6⟩ := rest_ok (τ := τ3)
            rw [if_pos (am_bz0.mpr rfl), if_neg (show ¬ (false = true) by decide), w1, Option.bind_some]
            have hlen := h.1.1.1.2.1
            have hr8 := h.1.2.2.2.1
            have k56 : ∀ j, j < 128 → τ4.1 56 j = τ.1 56 j := fun j hj => by
              rw [w2 j hj, u2.1 62 j (by omega) (by omega) (by omega), m3 62 j (by omega) (by omega) (by omega), v2 j hj]
            have k57 : ∀ j, j < 8 → τ4.1 57 j = τ.1 57 j := fun j hj => by
              rw [w3 j hj, u2.1 63 j (by omega) (by omega) (by omega), m3 63 j (by omega) (by omega) (by omega), v3 j hj]
            have k29 : τ4.1 45 29 = τ.1 45 29 := by
              rw [w4, u2.1 45 41 (by omega) (by omega) (by omega), m3 45 41 (by omega) (by omega) (by omega), v4]
            have hf4 : fr_e τ τ4 := fr_e_tr hf3 ⟨fun k j h1 h2 => w5 k j (by omega) (by omega) (by omega), w6⟩
            have k45 : ∀ j, j ≠ 29 → j ≠ 32 → j ≠ 41 → τ4.1 45 j = τ.1 45 j := fun j a b c => hf4.1 45 j (by omega) (by omega)
            have hmr : mr_ok τ4 N G cf st op := by
              obtain ⟨⟨⟨⟨q1, q2, q3⟩, b0, b27, b28, b29, bN⟩, c1, c2, c3, c4, c5, c6, c7, c8, c9⟩, b37, b38⟩ := h
              refine ⟨⟨⟨⟨?_, q2, q3⟩, ?_, ?_, ?_, ?_, bN⟩, ?_, ?_, c3, c4, ?_, ?_, ?_, c8, c9⟩, ?_, ?_⟩
              · intro i hi
                have := q1 i hi
                rw [k56 _ (by omega), k56 _ (by omega), k56 _ (by omega), k56 _ (by omega)]
                exact this
              · rw [k45 0 (by omega) (by omega) (by omega)]; exact b0
              · rw [k45 27 (by omega) (by omega) (by omega)]; exact b27
              · rw [k45 28 (by omega) (by omega) (by omega)]; exact b28
              · rw [k29]; exact b29
              · rw [k45 1 (by omega) (by omega) (by omega)]; exact c1
              · intro i hi
                rw [k57 i (by omega)]; exact c2 i hi
              · rw [k45 2 (by omega) (by omega) (by omega)]; exact c5
              · intro i hi
                rw [hf4.1 49 i (by omega) (by omega)]; exact c6 i hi
              · intro i hi
                rw [hf4.1 50 i (by omega) (by omega)]; exact c7 i hi
              · rw [k45 37 (by omega) (by omega) (by omega)]; exact b37
              · rw [k45 38 (by omega) (by omega) (by omega)]; exact b38
            obtain ⟨τ5, s1, s2, s3⟩ := ih n (y + 1) τ4 (by omega) (by omega) (by omega) hmr
            exact ⟨τ5, s1, fr_e_tr hf4 s2, s3⟩
theorem mo_L2 (hN : N ≤ 12) (hst : st < 256) : ∀ (d n x : Nat) (τ : ja_S), x + d = 12 → d < n → mr_ok τ N G cf st op → ∃ τ', f_Model_mergesOne_L2 n 45 (nI x) τ = some (am_bz (am_first (am_mp N cf st op G) (12 * d) (12 * x)).isSome, τ') ∧ fr_e τ τ' ∧ (match am_first (am_mp N cf st op G) (12 * d) (12 * x) with
    | some i => mr_ok τ' N (am_mg (i / 12) (i % 12) G) cf st op
    | none => mr_ok τ' N G cf st op) := by
  intro d
  induction d with
  | zero =>
    intro n x τ hx hn h
    obtain ⟨n, rfl⟩ : ∃ j, n = j + 1 := ⟨n - 1, by omega⟩
    refine ⟨τ, ?_, fr_e_rf, h⟩
    rw [f_Model_mergesOne_L2, h.1.1.2.1, if_pos (nI_le (by omega) (by omega))]
    rfl
  | succ d ih =>
    intro n x τ hx hn h
    obtain ⟨n, rfl⟩ : ∃ j, n = j + 1 := ⟨n - 1, by omega⟩
    rw [f_Model_mergesOne_L2, h.1.1.2.1]
    by_cases hxN : N ≤ x
    · have hnone : am_first (am_mp N cf st op G) (12 * (d + 1)) (12 * x) = none := by
        rw [first_none]
        intro k h1 h2
        unfold am_mp
        rw [decide_eq_false (by omega), Bool.false_and]
      rw [hnone, if_pos (nI_le (by omega) (by omega))]
      exact ⟨τ, rfl, fr_e_rf, h⟩
    · rw [if_neg (nI_ge (by omega) (by omega)), nI_1, show 12 * (d + 1) = 12 + 12 * d by omega, first_add, mp_row (by omega)]
      obtain ⟨τ1, s1, s2, s3⟩ := mo_L14 (G := G) (cf := cf) (op := op) hN hst (x := x) (by omega) (f_Model_mergesOne_L2 n) (12 - (x + 1)) ja_FU (x + 1) τ (by omega) (by omega) (by unfold ja_FU; omega) h
      rw [s1]
      cases hf : am_first (am_mp N cf st op G) (12 - (x + 1)) (12 * x + (x + 1)) with
      | some i =>
        rw [hf] at s3
        exact ⟨τ1, rfl, s2, s3⟩
      | none =>
        rw [hf] at s3
        obtain ⟨τ2, u1, u2, u3⟩ := ih n (x + 1) τ1 (by omega) (by omega) s3
        rw [show 12 * (x + 1) = 12 * x + 12 by omega] at u1 u3
        exact ⟨τ2, u1, fr_e_tr s2 u2, u3⟩
theorem mo_ok {τ : ja_S} (hN : N ≤ 12) (hst : st < 256) (h : mr_ok τ N G cf st op) : ∃ τ', f_Model_mergesOne 45 τ = some (am_bz (am_m1 N cf st op G).isSome, τ') ∧ fr_e τ τ' ∧ (match am_m1 N cf st op G with
    | some i => mr_ok τ' N (am_mg (i / 12) (i % 12) G) cf st op
    | none => mr_ok τ' N G cf st op) := by
  have := mo_L2 (G := G) (cf := cf) (op := op) hN hst 12 ja_FU 0 τ (by omega) (by unfold ja_FU; omega) h
  rw [← am_z] at this
  exact this
theorem mlam_L14 (hN : N ≤ 12) (hst : st < 256) : ∀ (m n : Nat) (G : am_G) (τ : ja_S), am_lf N G ≤ m → m < n → mr_ok τ N G cf st op → ∃ τ', f_Model_leversAfterMerging_L14 n 45 (nI (am_lf N G)) τ = some (nI (am_lf N G - am_lv N cf st op m G), τ') ∧ fr_e τ τ' := by
  intro m
  induction m with
  | zero =>
    intro n G τ hm hn h
    obtain ⟨n, rfl⟩ : ∃ j, n = j + 1 := ⟨n - 1, by omega⟩
    obtain ⟨τ1, s1, s2, s3⟩ := mo_ok hN hst h
    rw [f_Model_leversAfterMerging_L14, s1, Option.bind_some]
    cases hp : am_m1 N cf st op G with
    | none =>
      rw [Option.isSome_none, if_pos (am_bz0.mpr rfl)]
      exact ⟨τ1, rfl, s2⟩
    | some i =>
      have := m1_lf hp
      omega
  | succ m ih =>
    intro n G τ hm hn h
    obtain ⟨n, rfl⟩ : ∃ j, n = j + 1 := ⟨n - 1, by omega⟩
    obtain ⟨τ1, s1, s2, s3⟩ := mo_ok hN hst h
    rw [f_Model_leversAfterMerging_L14, s1, Option.bind_some]
    unfold am_lv
    cases hp : am_m1 N cf st op G with
    | none =>
      rw [Option.isSome_none, if_pos (am_bz0.mpr rfl)]
      exact ⟨τ1, rfl, s2⟩
    | some i =>
      rw [hp] at s3
      have hl1 := lf_step hp
      have hl2 := m1_lf hp
      have hdec : nI (am_lf N G) + (-1) = nI (am_lf N (am_mg (i / 12) (i % 12) G)) := by
        rw [← hl1, pk_m1]
      rw [Option.isSome_some, if_neg bz1, hdec]
      obtain ⟨τ2, u1, u2⟩ := ih n (am_mg (i / 12) (i % 12) G) τ1 (by omega) (by omega) s3
      have hx : am_lf N (am_mg (i / 12) (i % 12) G) - am_lv N cf st op m (am_mg (i / 12) (i % 12) G) = am_lf N G - (1 + am_lv N cf st op m (am_mg (i / 12) (i % 12) G)) := by omega
      rw [hx] at u1
      exact ⟨τ2, u1, fr_e_tr s2 u2⟩
end MR
section C40
variable {A : am_A} {a : Nat → Int32} {σ : ja_S}
theorem case_40 (hA : am_ok A) (hC : am_C A σ) (hM : am_M A σ) (hK : am_K A σ) : am_ask2 A 40 a σ := by
  have hN : A.1 ≤ 12 := hA.2.1
  have hst := st_lt (q := am_rl A) (ro := A.2.2.1) hA.2.2.2.2.1
  have hop := op_lt (q := am_rl A) (ro := A.2.2.1) hA.2.2.2.2.2.2.1
  -- the reference
  have mref : ∀ σ1 : ja_S, am_M A σ1 → ∃ τ, f_Model_leversAfterMerging 45 σ1 = some (nI (am_lam A), τ) ∧ fr_md σ1 τ := by
    intro σ1 hM1
    obtain ⟨τ1, d1, d2, d3, d4, d5⟩ := laysDue_ok hA (am_M_th (v := 0) hM1)
    obtain ⟨τ2, u1, u2⟩ := mlam_L14 (op := am_op (am_rl A) A.2.2.1 A.2.2.2.1) hN hst 12 ja_FU (A.2.1, A.2.2.1, 0) τ1 (by rw [lf0]; exact hN) (by unfold ja_FU; omega) ⟨d2, d3, d4⟩
    rw [lf0] at u1
    refine ⟨τ2, ?_, fr_md_tr md_th (fr_md_tr d5 (fr_e_md u2))⟩
    unfold f_Model_leversAfterMerging ja_pu
    rw [Option.bind_some, d1, Option.bind_some, d2.1.2.1]
    exact u1
  -- the class
  have cls : ∃ σ1, f_Frame_leversAfterMerging 0 σ = some (nI (am_lam A), σ1) ∧ am_K A σ1 ∧ fr_cl σ σ1 := by
    unfold f_Frame_leversAfterMerging
    rcases hK.2.2.2.2 with h14 | ⟨h14, h15⟩
    · obtain ⟨σ1, e1, e2, e3, e4, e5⟩ := searched_ok hA hC hK
      -- the flag of the merging stands
      have h14' : σ1.1 0 11 = 0 := by
        have : f_Frame_searchedHome 0 σ = some σ1 := e1
        unfold f_Frame_searchedHome ja_pu at this
        rcases hK.2.2.1 with h8 | ⟨h8, hh⟩
        · rw [if_pos h8] at this
          have hr := am_C_shr hA hC
          obtain ⟨σa, a1, a2, a3⟩ := enforceAll_ok (X := 18) (k := 3) (m := 2 ^ A.2.1.length - 1) (Or.inl rfl) (Or.inl rfl) hr
          obtain ⟨q, hb, hq⟩ := hK.1
          obtain ⟨σb, b1, b2, b3, b4⟩ := explore_ok (K := 17) (al := am_al (am_sel A.2.1 (2 ^ A.2.1.length - 1))) (mv := am_mv A.1 0) (s := 0) (Or.inl rfl) (mv_lt hA.2.1) (by omega) (fun τ ht s l hs hl => allows_ok (X := 18) (Or.inl rfl) (lk_fr a2 (by rw [ht]) (by rw [ht])) hs hl) (bs_ok_fr hb (fun k _ => by rw [a3.1])) hq
          rw [show ja_q 0 3 = 3 from rfl, show ja_q 0 7 = 17 from rfl, show ja_q 17 0 = 18 from rfl, allRules_ok hr.1 hr.2.2.1, Option.bind_some, a1, Option.bind_some, movable_ok (N := A.1) (g := 0) (by rw [a3.1]; exact hC.2.2.2.2.1.1) (by rw [a3.1]; exact hC.2.2.2.2.1.2.1) hA.2.1, Option.bind_some, am_z, b1, Option.bind_some, Option.bind_some] at this
          have h12 : σ1 = ja_si σb 0 8 1 := (Option.some.inj this).symm
          rw [h12, si_at, if_neg (by omega), b4.1 0 11 (by omega) (by omega) (by omega), a3.1, h14]
        · rw [if_neg (by rw [h8]; decide)] at this
          rw [← Option.some.inj this]
          exact h14
      obtain ⟨σ2, b1, b2, b3, b4, b5, b6⟩ := begin_ok hA e2 e3 e4
      have h14b : σ2.1 0 11 = 0 := (b6.1 0 11 (by omega) (by omega) (by omega) (by omega)).trans h14'
      have h3 : σ2.1 3 0 = nI A.1 := (b6.1 3 0 (by omega) (by omega) (by omega) (by omega)).trans e2.2.2.2.2.1.1
      have hf2 : fr_cl σ2 (ja_si σ2 0 1 (nI A.1)) := fun k j hk => by rw [si_at, if_neg (by omega)]
      have hmc : mc_ok A (ja_si σ2 0 1 (nI A.1)) A.1 (A.2.1, A.2.2.1, 0) A.2.2.2.1 (am_st (am_rl A) A.2.2.1) (am_op (am_rl A) A.2.2.1 A.2.2.2.1) := by
        refine ⟨?_, sh_ok_fr b2 (fun c h1 h2 => si_row (by omega)), by rw [si_row (by omega)]; exact b3, by rw [si_row (by omega)]; exact b4⟩
        obtain ⟨a1, a2, a3, a4, a5⟩ := b5
        have hr : ∀ k, k ≠ 0 → (ja_si σ2 0 1 (nI A.1)).1 k = σ2.1 k := fun k hk => si_row hk
        refine ⟨?_, ?_, ?_, ?_, Or.inl (by rw [si_at, if_neg (by omega)]; exact h14b)⟩
        · unfold bs_ok at a1 ⊢
          rw [hr 17 (by omega), hr (17 + 4) (by omega), hr (17 + 5) (by omega)]
          exact a1
        · unfold bs_ok at a2 ⊢
          rw [hr 23 (by omega), hr (23 + 4) (by omega), hr (23 + 5) (by omega)]
          exact a2
        · unfold hm_ok bs_ok lk_ok at a3 ⊢
          rw [hr 17 (by omega), hr (17 + 4) (by omega), hr (17 + 5) (by omega), si_at, if_neg (by omega)]
          exact a3
        · unfold pl_ok at a4 ⊢
          rw [hr 29 (by omega), hr 33 (by omega)]
          exact a4
      obtain ⟨σ3, u1, u2, u3, u4, u5⟩ := lam_L35 hN hst hop 12 ja_FU (A.2.1, A.2.2.1, 0) _ (by omega) (by unfold ja_FU; omega) hmc (by rw [si_at, if_neg (by omega)]; exact h14b) (by rw [si_at, if_pos ⟨rfl, rfl⟩, lf0])
      rw [lf0] at u1 u4
      have u4' : σ3.1 0 1 = nI (am_lam A) := u4
      refine ⟨ja_si σ3 0 11 1, ?_, ?_, ?_⟩
      · unfold ja_pu
        rw [if_pos h14, e1, Option.bind_some, show ja_q 0 3 = 3 from rfl, show ja_q 0 7 = 17 from rfl, show ja_q 0 0 = 34 from rfl, b1, Option.bind_some, Option.bind_some, h3]
        rw [show 12 - 12 = 0 from rfl, ← am_z] at u1
        exact u1
      · obtain ⟨a1, a2, a3, a4, a5⟩ := u2
        have hr : ∀ k, k ≠ 0 → (ja_si σ3 0 11 1).1 k = σ3.1 k := fun k hk => si_row hk
        refine ⟨?_, ?_, ?_, ?_, Or.inr ⟨by rw [si_at, if_pos ⟨rfl, rfl⟩], by rw [si_at, if_neg (by omega)]; exact u4'⟩⟩
        · unfold bs_ok at a1 ⊢
          rw [hr 17 (by omega), hr (17 + 4) (by omega), hr (17 + 5) (by omega)]
          exact a1
        · unfold bs_ok at a2 ⊢
          rw [hr 23 (by omega), hr (23 + 4) (by omega), hr (23 + 5) (by omega)]
          exact a2
        · unfold hm_ok bs_ok lk_ok at a3 ⊢
          rw [hr 17 (by omega), hr (17 + 4) (by omega), hr (17 + 5) (by omega), si_at, if_neg (by omega)]
          exact a3
        · unfold pl_ok at a4 ⊢
          rw [hr 29 (by omega), hr 33 (by omega)]
          exact a4
      · refine fr_cl_tr e5 (fr_cl_tr (fr_g_cl b6) (fr_cl_tr hf2 (fr_cl_tr u5 ?_)))
        intro k j hk
        rw [si_at, if_neg (by omega)]
    · rw [if_neg (by rw [h14]; decide), h15]
      exact ⟨σ, rfl, hK, fr_cl_rf⟩
  obtain ⟨σ1, c1, c2, c3⟩ := cls
  obtain ⟨τ, m1, m2⟩ := mref σ1 (am_M_cl hM c3)
  refine am_asks (σ2 := τ) ?_ hC hM c3 c2 m2
  rw [jc_40, c1, Option.bind_some, m1, Option.bind_some]
  exact if_pos rfl
end C40
