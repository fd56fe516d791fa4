/-! locks that protect a conflict -/
theorem or_add {a b i : Nat} (h : b < 2 ^ i) : 2 ^ i * a ||| b = 2 ^ i * a + b := (Nat.two_pow_add_eq_or_of_lt h a).symm
theorem pack_ok {r : am_R} {σ : ja_S} (h : r.1 < 3 ∧ r.2.1 < 16 ∧ r.2.2.1 < 16 ∧ r.2.2.2 < 256) : f_Rule_pack (nI r.1) (nI r.2.1) (nI r.2.2.1) (am_cd r.2.2.2) σ = some (nI (am_pk r), σ) := by
  obtain ⟨h1, h2, h3, h4⟩ := h
  have hc : am_cd r.2.2.2 + 1 = nI r.2.2.2 := by
    unfold am_cd
    rw [Int32.sub_add_cancel]
  have e1 := or_add (a := r.1) (b := 4096 * r.2.1) (i := 16) (by omega)
  have e2 := or_add (a := 16 * r.1 + r.2.1) (b := 256 * r.2.2.1) (i := 12) (by omega)
  have e3 := or_add (a := 256 * r.1 + (16 * r.2.1 + r.2.2.1)) (b := r.2.2.2) (i := 8) (by omega)
  have e0 : ((r.1 * 2 ^ 16 ||| r.2.1 * 2 ^ 12) ||| r.2.2.1 * 2 ^ 8) ||| r.2.2.2 = am_pk r := by
    rw [show r.1 * 2 ^ 16 = 2 ^ 16 * r.1 by omega, show r.2.1 * 2 ^ 12 = 4096 * r.2.1 by omega, e1, show 2 ^ 16 * r.1 + 4096 * r.2.1 = 2 ^ 12 * (16 * r.1 + r.2.1) by omega, show r.2.2.1 * 2 ^ 8 = 256 * r.2.2.1 by omega, e2, show 2 ^ 12 * (16 * r.1 + r.2.1) + 256 * r.2.2.1 = 2 ^ 8 * (256 * r.1 + (16 * r.2.1 + r.2.2.1)) by omega, e3]
    unfold am_pk
    omega
  unfold f_Rule_pack
  rw [hc, show (16 : Int32) = nI 16 by decide +kernel, show (12 : Int32) = nI 12 by decide +kernel, show (8 : Int32) = nI 8 by decide +kernel, nI_shl (by omega) (by omega), nI_shl (by omega) (by omega), nI_shl (by omega) (by omega), nI_or, nI_or, nI_or, e0]
theorem lk_rb {i : Nat} (h : i < 144) : am_rb (am_lk i) := by
  unfold am_rb am_lk
  dsimp only
  omega
theorem lockOf_ok {σ : ja_S} {i : Nat} (h : i < 144) : f_LockPlanner_lockOf (nI (i / 12)) (nI (i % 12)) σ = some (nI (am_pk (am_lk i)), σ) := by
  have := pack_ok (r := am_lk i) (σ := σ) (am_rb16 (lk_rb h))
  unfold f_LockPlanner_lockOf
  have e : f_Rule_pack 0 (nI (i / 12)) (nI (i % 12)) (-1) σ = some (nI (am_pk (am_lk i)), σ) := by
    rw [show (0 : Int32) = nI 0 by decide +kernel, show (-1 : Int32) = am_cd 0 by decide +kernel]
    exact this
  rw [e, Option.bind_some]
/-! what one rule more does -/
theorem bits_bit {p : Nat → Bool} {j : Nat} : ∀ (k i acc : Nat), (am_bits p k i acc).testBit j = (acc.testBit j || (decide (i ≤ j ∧ j < i + k) && p j))
  | 0, i, acc => by
    unfold am_bits
    rw [decide_eq_false (by omega), Bool.false_and, Bool.or_false]
  | k + 1, i, acc => by
    unfold am_bits
    rw [bits_bit k (i + 1)]
    by_cases hj : j = i
    · rw [decide_eq_false (by omega), decide_eq_true (by omega), Bool.false_and, Bool.or_false, Bool.true_and, hj]
      cases hp : p i with
      | true => rw [if_pos rfl, Nat.testBit_or, Nat.testBit_two_pow_self]
      | false => rw [if_neg (fun z => by cases z), Bool.or_false]
    · have e : (if p i = true then acc ||| 2 ^ i else acc).testBit j = acc.testBit j := by
        cases hp : p i with
        | true => rw [if_pos rfl, Nat.testBit_or, Nat.testBit_two_pow, decide_eq_false (fun z => hj z.symm), Bool.or_false]
        | false => rw [if_neg (fun z => by cases z)]
      rw [e]
      by_cases h2 : i + 1 ≤ j ∧ j < i + 1 + k
      · rw [decide_eq_true h2, decide_eq_true (by omega)]
      · rw [decide_eq_false h2, decide_eq_false (by omega)]
theorem reach_mono {al bl : Nat → Nat → Bool} (h : ∀ s l, al s l = true → bl s l = true) : ∀ e ∈ bq_all al 0, ∃ f ∈ bq_all bl 0, f.1 = e.1 := by
  obtain ⟨pl, hb⟩ := bt_one (al := al) (s := 0) (by omega)
  obtain ⟨pr, hr⟩ := bt_one (al := bl) (s := 0) (by omega)
  have key : ∀ (i : Nat) (e : bq_E), (bq_all al 0)[i]? = some e → ∃ (j : Nat) (f : bq_E), (bq_all bl 0)[j]? = some f ∧ f.1 = e.1 := by
    intro i
    induction i using Nat.strongRecOn with
    | ind i ih =>
      intro e he
      by_cases hi : i = 0
      · rw [hi, all_root] at he
        cases he
        exact ⟨0, _, all_root, rfl⟩
      · obtain ⟨b1, b2, b3, u, b4, b5, b6, b7⟩ := hb.1 i e (by omega) he
        obtain ⟨j, f, c1, c2⟩ := ih (pl i) b1 u b4
        obtain ⟨j2, g, d1, d2, d3, d4⟩ := bt_near hr b3 c1 (by rw [c2]; exact h _ _ b5)
        exact ⟨j2, g, d1, by rw [d2, c2, b6]⟩
  intro e he
  obtain ⟨i, hi⟩ := List.getElem?_of_mem he
  obtain ⟨j, f, h1, h2⟩ := key i e hi
  exact ⟨f, List.mem_of_getElem? h1, h2⟩
theorem al_app {mv : Nat} {L : List am_R} {r : am_R} {s l : Nat} (h : cq_al mv (L ++ [r]) s l = true) : cq_al mv L s l = true ∧ am_blk r s l = false := by
  unfold cq_al at h ⊢
  rw [Bool.and_eq_true] at h ⊢
  have := am_al_t.mp h.2
  exact ⟨⟨h.1, am_al_t.mpr (fun x hx => this x (List.mem_append_left _ hx))⟩, this r (List.mem_append_right _ (List.mem_singleton.mpr rfl))⟩
theorem has_mono {mv : Nat} {L : List am_R} {r : am_R} {m : Nat} (h : am_has (am_q0 mv (L ++ [r])) m = true) : am_has (am_q0 mv L) m = true := by
  unfold am_has at h ⊢
  rw [List.any_eq_true] at h ⊢
  obtain ⟨e, he, hm⟩ := h
  obtain ⟨f, hf, hfe⟩ := reach_mono (fun s l hs => (al_app hs).1) e he
  exact ⟨f, hf, by rw [hfe]; exact hm⟩
theorem leg_q0 {mv : Nat} {L : List am_R} : ∀ e ∈ am_q0 mv L, ∀ r ∈ L, am_forb r e.1 = false := by
  intro e he r hr
  obtain ⟨pl, hb⟩ := bt_one (al := cq_al mv L) (s := 0) (by omega)
  obtain ⟨i, hi⟩ := List.getElem?_of_mem he
  by_cases h0 : i = 0
  · have h1 := all_root (al := cq_al mv L) (s := 0)
    have h2 : (bq_all (cq_al mv L) 0)[i]? = some e := hi
    rw [h0, h1] at h2
    cases h2
    unfold am_forb
    simp
  · obtain ⟨b1, b2, b3, f, b4, b5, b6, b7⟩ := hb.1 i e (by omega) hi
    unfold cq_al at b5
    rw [Bool.and_eq_true] at b5
    have := am_al_t.mp b5.2 r hr
    unfold am_blk at this
    by_cases hk : r.1 = 2
    · unfold am_forb
      simp [hk]
    · rw [if_neg hk, ← b6] at this
      exact this
/-- a lock protects the conflict that it is for -/
theorem lk_prot {mv : Nat} {L : List am_R} {i w1 w2 : Nat} (h1 : w1.testBit (i / 12) = true) (h2 : w2.testBit (i % 12) = true) : am_has (am_q0 mv (L ++ [am_lk i])) (w1 ||| w2) = false := by
  unfold am_has
  rw [List.any_eq_false]
  intro e he hd
  have hs := of_decide_eq_true hd
  rw [sub_bits] at hs
  have ha := hs (i / 12) (by rw [Nat.testBit_or, h1]; rfl)
  have hb := hs (i % 12) (by rw [Nat.testBit_or, h2, Bool.or_true])
  have hf := leg_q0 e he (am_lk i) (List.mem_append_right _ (List.mem_singleton.mpr rfl))
  unfold am_forb am_lk at hf
  dsimp only at hf
  rw [ha, hb] at hf
  simp [am_act] at hf
theorem st_sub {mv : Nat} {L : List am_R} {r : am_R} {ro : List Nat} {j : Nat} (h : (am_st (am_q0 mv (L ++ [r])) ro).testBit j = true) : (am_st (am_q0 mv L) ro).testBit j = true := by
  unfold am_st at h ⊢
  rw [bits_bit, Nat.zero_testBit, Bool.false_or, Bool.and_eq_true] at h ⊢
  exact ⟨h.1, has_mono h.2⟩
theorem st_lt {q : List bq_E} {ro : List Nat} (h : ro.length ≤ 8) : am_st q ro < 256 := bits_lt (M := 8) _ _ _ (by omega) (by omega)
theorem op_lt {q : List bq_E} {ro : List Nat} {cf : List (Nat × Nat)} (h : cf.length ≤ 8) : am_op q ro cf < 256 := bits_lt (M := 8) _ _ _ (by omega) (by omega)
theorem st_eq {mv : Nat} {L : List am_R} {r : am_R} {ro : List Nat} (h8 : ro.length ≤ 8) : am_st (am_q0 mv (L ++ [r])) ro = am_st (am_q0 mv L) ro ↔ an_not (am_st (am_q0 mv L) ro) (am_st (am_q0 mv (L ++ [r])) ro) = 0 := by
  have hlt := st_lt (q := am_q0 mv L) h8
  rw [an_not0 (by omega), sub_bits]
  constructor
  · intro h i hi
    rw [h]; exact hi
  · intro h
    apply Nat.eq_of_testBit_eq
    intro j
    rw [Bool.eq_iff_iff]
    exact ⟨st_sub, h j⟩
theorem first_succ {p : Nat → Bool} {m i : Nat} : am_first p (m + 1) i = if p i = true then some i else am_first p m (i + 1) := rfl
theorem first_add {p : Nat → Bool} : ∀ (m n i : Nat), am_first p (m + n) i = match am_first p m i with
    | some j => some j
    | none => am_first p n (i + m)
  | 0, n, i => by rw [Nat.zero_add]; rfl
  | m + 1, n, i => by
    rw [show m + 1 + n = (m + n) + 1 by omega, first_succ, first_succ]
    by_cases h : p i = true
    · rw [if_pos h, if_pos h]
    · rw [if_neg h, if_neg h, first_add m n (i + 1), show i + 1 + m = i + (m + 1) by omega]
/-! the class proposes -/
/-- only the trial has worked -/
def fr_t (σ σ' : ja_S) : Prop := (∀ k j, k ≠ 23 → k ≠ 27 → k ≠ 28 → σ'.1 k j = σ.1 k j) ∧ ∀ k, k ≠ 25 → k ≠ 26 → σ'.2 k = σ.2 k
theorem fr_t_rf {σ : ja_S} : fr_t σ σ := ⟨fun _ _ _ _ _ => rfl, fun _ _ _ => rfl⟩
theorem fr_t_tr {a b c : ja_S} (h1 : fr_t a b) (h2 : fr_t b c) : fr_t a c := ⟨fun k j x y z => (h2.1 k j x y z).trans (h1.1 k j x y z), fun k x y => (h2.2 k x y).trans (h1.2 k x y)⟩
theorem fr_t_cl {a b : ja_S} (h : fr_t a b) : fr_cl a b := fun k j hk => h.1 k j (by omega) (by omega) (by omega)
theorem am_K_t {A : am_A} {σ σ' : ja_S} (h : am_K A σ) (hf : fr_t σ σ') (h4 : ∃ q, bs_ok σ' 23 q ∧ bq_ok q) : am_K A σ' := am_K_tr h (fun k j hk => hf.1 k j (by omega) (by omega) (by omega)) (fun j _ => hf.1 0 j (by omega) (by omega) (by omega)) ⟨hf.2 19 (by omega) (by omega), hf.2 20 (by omega) (by omega)⟩ h4
theorem hm_t {A : am_A} {σ σ' : ja_S} (h : hm_ok A σ) (hf : fr_t σ σ') : hm_ok A σ' := hm_tr h (fun k j hk => hf.1 k j (by omega) (by omega) (by omega)) ⟨hf.2 19 (by omega) (by omega), hf.2 20 (by omega) (by omega)⟩
theorem lk_t {X : Nat} {L : List am_R} {σ σ' : ja_S} (hX : X = 18 ∨ X = 30) (h : lk_ok σ X L) (hf : fr_t σ σ') : lk_ok σ' X L := lk_fr h (hf.2 _ (by omega) (by omega)) (hf.2 _ (by omega) (by omega))
section PC
variable {A : am_A} {σ : ja_S} {X : Nat} {L : List am_R}
theorem trial_from {mv : Nat} (hX : X = 18 ∨ X = 30) (hK : tq_ok σ) (hL : lk_ok σ X L) (hmv : mv < 4096) : ∃ σ1, f_Locking_copyFrom 24 X σ = some σ1 ∧ lk_ok σ1 24 L ∧ fr_l 24 σ σ1 ∧ tq_ok σ1 := by
  have hX' : lk_X X := by rcases hX with rfl | rfl; exact Or.inl rfl; exact Or.inr (Or.inr rfl)
  obtain ⟨σ1, g1, g2, g3⟩ := lkcopy_ok (X := 24) (Y := X) (Or.inr (Or.inl rfl)) hX' (by omega) hL
  exact ⟨σ1, g1, g2, g3, tq_fr hK (fun k _ => by rw [g3.1])⟩
theorem keeps_ok (hA : am_ok A) (hC : am_C A σ) (hK : tq_ok σ) (hX : X = 18 ∨ X = 30) (hL : lk_ok σ X L) {i due : Nat} (hi : i < 144) (hdue : due < 256) : ∃ σ', f_LockPlanner_keepsRoutes 23 3 X (nI (am_pk (am_lk i))) (nI due) σ = some (am_bz (decide (an_not due (am_st (am_q0 (am_mv A.1 0) (L ++ [am_lk i])) A.2.2.1) = 0)), σ') ∧ tq_ok σ' ∧ fr_t σ σ' := by
  obtain ⟨σ1, g1, g2, g3, g4⟩ := trial_from (mv := 0) hX hK hL (by omega)
  obtain ⟨σ2, k1, k2, k3⟩ := enforce_ok (X := 24) (Or.inr (Or.inl rfl)) g2 (lk_rb hi)
  have c0 : σ2.1 3 0 = nI A.1 := by rw [k3.1, g3.1]; exact hC.2.2.2.2.1.1
  have c1 : σ2.1 3 1 = nI 0 := by rw [k3.1, g3.1]; exact hC.2.2.2.2.1.2.1
  obtain ⟨σ3, l1, l2, l3, l4, l5⟩ := trial_bt (s := 0) (tq_fr g4 (fun k _ => by rw [k3.1])) k2 (mv_lt (g := 0) hA.2.1) (by omega)
  have hf : fr_t σ σ3 := by
    refine ⟨fun k j h1 h2 h3 => ?_, fun k h1 h2 => ?_⟩
    · rw [l5 k j h1 h2 h3, k3.1, g3.1]
    · rw [l4, k3.2 k (by omega) (by omega), g3.2 k (by omega) (by omega)]
  have hw := am_C_shw hA (am_C_cl hC (fr_t_cl hf))
  have h8 : A.2.2.1.length ≤ 8 := hA.2.2.2.2.1
  have hle := an_not_le (a := due) (b := am_st (am_q0 (am_mv A.1 0) (L ++ [am_lk i])) A.2.2.1)
  refine ⟨σ3, ?_, l3, hf⟩
  unfold f_LockPlanner_keepsRoutes
  rw [show ja_q 23 0 = 24 from rfl, g1, Option.bind_some, k1, Option.bind_some, movable_ok c0 c1 hA.2.1, Option.bind_some, am_z, l1, Option.bind_some, settable_ok (Or.inr rfl) (Or.inl rfl) l2 (bq_all_ok (by omega)) hw, Option.bind_some, nI_an]
  by_cases hc : an_not due (am_st (am_q0 (am_mv A.1 0) (L ++ [am_lk i])) A.2.2.1) = 0
  · rw [decide_eq_true hc, if_pos (show nI (an_not due (am_st (bq_all (cq_al (am_mv A.1 0) (L ++ [am_lk i])) 0) A.2.2.1)) = nI 0 by rw [show an_not due (am_st (bq_all (cq_al (am_mv A.1 0) (L ++ [am_lk i])) 0) A.2.2.1) = 0 from hc])]
    rfl
  · rw [decide_eq_false hc, if_neg (show ¬ nI (an_not due (am_st (bq_all (cq_al (am_mv A.1 0) (L ++ [am_lk i])) 0) A.2.2.1)) = nI 0 from nI_ne hc (Nat.lt_of_le_of_lt hle (by omega)) (by omega))]
    rfl
def am_pp (mv : Nat) (L : List am_R) (ro : List Nat) (w1 w2 due i : Nat) : Bool := decide (i / 12 ≠ i % 12) && ((w1.testBit (i / 12) && w2.testBit (i % 12)) && decide (an_not due (am_st (am_q0 mv (L ++ [am_lk i])) ro) = 0))
theorem two_bits {w1 w2 a b : Nat} (h1 : w1 < 4096) (h2 : w2 < 4096) (ha : a < 12) (hb : b < 12) : (((nI w1 >>> (nI a &&& 31)) &&& (nI w2 >>> (nI b &&& 31))) &&& (1 : Int32) = 1) ↔ (w1.testBit a && w2.testBit b) = true := by
  rw [nI_shr (by omega) (by omega), nI_shr (by omega) (by omega), nI_and, nI_odd, show (1 : Int32) = nI 1 by decide +kernel, nI_eq (by omega) (by omega)]
  have h := Nat.testBit_zero (w1 / 2 ^ a &&& w2 / 2 ^ b)
  rw [Nat.testBit_and, Nat.testBit_div_two_pow, Nat.testBit_div_two_pow, Nat.zero_add, Nat.zero_add] at h
  rw [h, decide_eq_true_iff]
theorem prop_L47 (hA : am_ok A) (hX : X = 18 ∨ X = 30) {w1 w2 due x : Nat} (h1 : w1 < 4096) (h2 : w2 < 4096) (hdue : due < 256) (hx : x < 12) (k37 : Nat → Nat → Nat → Int32 → Int32 → Int32 → Int32 → ja_S → Option (Int32 × ja_S)) : ∀ (d n y : Nat) (σ : ja_S), y + d = 12 → d < n → am_C A σ → tq_ok σ → lk_ok σ X L → ∃ σ', f_LockPlanner_propose_L47 k37 n 23 3 X (nI due) (nI w1) (nI w2) (nI x) (nI y) σ = (match am_first (am_pp (am_mv A.1 0) L A.2.2.1 w1 w2 due) d (12 * x + y) with
    | some i => some (nI (am_lw i), σ')
    | none => k37 23 3 X (nI due) (nI w1) (nI w2) (nI (x + 1)) σ') ∧ tq_ok σ' ∧ fr_t σ σ' := by
  intro d
  induction d with
  | zero =>
    intro n y σ hy hn hC hK hL
    obtain ⟨n, rfl⟩ : ∃ j, n = j + 1 := ⟨n - 1, by omega⟩
    refine ⟨σ, ?_, hK, fr_t_rf⟩
    rw [f_LockPlanner_propose_L47, show (12 : Int32) = nI 12 by decide +kernel, if_pos (nI_le (by omega) (by omega)), nI_1]
    rfl
  | succ d ih =>
    intro n y σ hy hn hC hK hL
    obtain ⟨n, rfl⟩ : ∃ j, n = j + 1 := ⟨n - 1, by omega⟩
    have hi : 12 * x + y < 144 := by omega
    have hd1 : (12 * x + y) / 12 = x := by omega
    have hd2 : (12 * x + y) % 12 = y := by omega
    have e : am_pp (am_mv A.1 0) L A.2.2.1 w1 w2 due (12 * x + y) = (decide (x ≠ y) && ((w1.testBit x && w2.testBit y) && decide (an_not due (am_st (am_q0 (am_mv A.1 0) (L ++ [am_lk (12 * x + y)])) A.2.2.1) = 0))) := by
      unfold am_pp
      rw [hd1, hd2]
    rw [f_LockPlanner_propose_L47, show (12 : Int32) = nI 12 by decide +kernel, if_neg (nI_ge (by omega) (by omega))]
    unfold am_first
    rw [e]
    by_cases hxy : x = y
    · rw [if_pos (by rw [hxy]), decide_eq_false (fun z => z hxy), Bool.false_and, if_neg (fun z => by cases z)]
      unfold f_LockPlanner_propose_B82 f_LockPlanner_propose_B83
      rw [if_pos rfl, nI_1]
      exact ih n (y + 1) σ (by omega) (by omega) hC hK hL
    · rw [if_neg (nI_ne hxy (by omega) (by omega)), decide_eq_true hxy, Bool.true_and]
      cases hb : w1.testBit x && w2.testBit y with
      | false =>
        rw [if_neg (fun z => by rw [two_bits h1 h2 hx (by omega), hb] at z; cases z), Bool.false_and, if_neg (fun z => by cases z)]
        unfold f_LockPlanner_propose_B82 f_LockPlanner_propose_B83
        rw [if_pos rfl, nI_1]
        exact ih n (y + 1) σ (by omega) (by omega) hC hK hL
      | true =>
        rw [if_pos ((two_bits h1 h2 hx (by omega)).mpr hb), Bool.true_and]
        unfold f_LockPlanner_propose_B83
        have hlo := lockOf_ok (σ := σ) hi
        rw [hd1, hd2] at hlo
        obtain ⟨σ1, g1, g2, g3⟩ := keeps_ok hA hC hK hX hL hi hdue
        rw [if_neg i1n0, hlo, Option.bind_some, g1, Option.bind_some, nI_1]
        cases hk : decide (an_not due (am_st (am_q0 (am_mv A.1 0) (L ++ [am_lk (12 * x + y)])) A.2.2.1) = 0) with
        | true =>
          refine ⟨σ1, ?_, g2, g3⟩
          rw [if_neg bz1, if_pos rfl]
          unfold f_Frame_leverPair
          rw [Option.bind_some, show (100 : Int32) = nI 100 by decide +kernel, pk_mul, nI_add]
          show some (nI (100 * x + y), σ1) = some (nI (am_lw (12 * x + y)), σ1)
          unfold am_lw
          rw [hd1, hd2]
        | false =>
          rw [if_pos (am_bz0.mpr rfl), if_neg (fun z => by cases z)]
          obtain ⟨σ2, k1, k2, k3⟩ := ih n (y + 1) σ1 (by omega) (by omega) (am_C_cl hC (fr_t_cl g3)) g2 (lk_t hX hL g3)
          exact ⟨σ2, k1, k2, fr_t_tr g3 k3⟩
theorem prop_L37 (hA : am_ok A) (hX : X = 18 ∨ X = 30) {w1 w2 due : Nat} (h1 : w1 < 4096) (h2 : w2 < 4096) (hdue : due < 256) : ∀ (d n x : Nat) (σ : ja_S), x + d = 12 → d < n → am_C A σ → tq_ok σ → lk_ok σ X L → ∃ σ', f_LockPlanner_propose_L37 n 23 3 X (nI due) (nI w1) (nI w2) (nI x) σ = some (am_io ((am_first (am_pp (am_mv A.1 0) L A.2.2.1 w1 w2 due) (12 * d) (12 * x)).map am_lw), σ') ∧ tq_ok σ' ∧ fr_t σ σ' := by
  intro d
  induction d with
  | zero =>
    intro n x σ hx hn hC hK hL
    obtain ⟨n, rfl⟩ : ∃ j, n = j + 1 := ⟨n - 1, by omega⟩
    refine ⟨σ, ?_, hK, fr_t_rf⟩
    rw [f_LockPlanner_propose_L37, show (12 : Int32) = nI 12 by decide +kernel, if_pos (nI_le (by omega) (by omega))]
    rfl
  | succ d ih =>
    intro n x σ hx hn hC hK hL
    obtain ⟨n, rfl⟩ : ∃ j, n = j + 1 := ⟨n - 1, by omega⟩
    rw [f_LockPlanner_propose_L37, show (12 : Int32) = nI 12 by decide +kernel, if_neg (nI_ge (by omega) (by omega)), am_z]
    obtain ⟨σ1, g1, g2, g3⟩ := prop_L47 (L := L) hA hX h1 h2 hdue (x := x) (by omega) (f_LockPlanner_propose_L37 n) 12 ja_FU 0 σ (by omega) (by unfold ja_FU; omega) hC hK hL
    rw [g1, show 12 * (d + 1) = 12 + 12 * d by omega, first_add, Nat.add_zero]
    cases hf : am_first (am_pp (am_mv A.1 0) L A.2.2.1 w1 w2 due) 12 (12 * x) with
    | some i => exact ⟨σ1, rfl, g2, g3⟩
    | none =>
      obtain ⟨σ2, k1, k2, k3⟩ := ih n (x + 1) σ1 (by omega) (by omega) (am_C_cl hC (fr_t_cl g3)) g2 (lk_t hX hL g3)
      refine ⟨σ2, ?_, k2, fr_t_tr g3 k3⟩
      rw [show 12 * x + 12 = 12 * (x + 1) by omega]
      exact k1
theorem propose_ok (hA : am_ok A) (hC : am_C A σ) (hK : tq_ok σ) (hX : X = 18 ∨ X = 30) (hL : lk_ok σ X L) {c due : Nat} (hc : c < A.2.2.2.1.length) (hdue : due < 256) : ∃ σ', f_LockPlanner_propose 29 23 3 (nI c) X (nI due) σ = some (am_io ((am_prop (am_mv A.1 0) L A.2.2.1 (A.2.2.1.getD (A.2.2.2.1.getD c (0, 0)).1 0) (A.2.2.1.getD (A.2.2.2.1.getD c (0, 0)).2 0) due).map am_lw), σ') ∧ tq_ok σ' ∧ fr_t σ σ' := by
  have hw := am_C_shw hA hC
  have hm := hw.2.2.2.2.2.2.2.2 _ (getD_mem (d := (0, 0)) hc)
  have h8 := hw.2.2.2.2.2.2.2.1
  obtain ⟨σ1, g1, g2, g3⟩ := prop_L37 hA hX (getD_lt hw.2.2.2.1 hm.1) (getD_lt hw.2.2.2.1 hm.2) hdue 12 ja_FU 0 σ (by omega) (by unfold ja_FU; omega) hC hK hL
  refine ⟨σ1, ?_, g2, g3⟩
  unfold f_LockPlanner_propose
  rw [hasConflict_ok hw.2.2.2.2.1 (by omega), am_in_nI hc (by omega), Option.bind_some, if_neg bz1, show ja_q 3 6 = 6 from rfl, show ja_q 3 7 = 7 from rfl, ld0 (N := 8) rfl (by omega) (by omega), Option.bind_some, show σ.1 6 c = nI ((A.2.2.2.1.map (fun q => q.1)).getD c 0) from hw.2.2.2.2.2.1 c (by rw [List.length_map]; exact hc), (cf_at hc).1, lor_ok (Or.inl rfl) hw hm.1, Option.bind_some, ld0 (N := 8) rfl (by omega) (by omega), Option.bind_some, show σ.1 7 c = nI ((A.2.2.2.1.map (fun q => q.2)).getD c 0) from hw.2.2.2.2.2.2.1 c (by rw [List.length_map]; exact hc), (cf_at hc).2, lor_ok (Or.inl rfl) hw hm.2, Option.bind_some, am_z]
  exact g1
end PC
