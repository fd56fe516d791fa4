/-! questions over a list that is found: the class -/
def sh_w (σ : ja_S) (k : Nat) (ro : List Nat) (cf : List (Nat × Nat)) : Prop := σ.1 k 5 = nI ro.length ∧ am_row (σ.1 (k + 2)) ro ∧ ro.length ≤ 8 ∧ (∀ w ∈ ro, w < 4096) ∧ σ.1 k 8 = nI cf.length ∧ am_row (σ.1 (k + 3)) (cf.map (fun q => q.1)) ∧ am_row (σ.1 (k + 4)) (cf.map (fun q => q.2)) ∧ cf.length ≤ 8 ∧ ∀ c ∈ cf, c.1 < ro.length ∧ c.2 < ro.length
theorem nI_or0 {a : Nat} : nI a ||| (0 : Int32) = nI a := by
  rw [am_z, nI_or, Nat.or_zero]
theorem nI_add0 {a : Nat} : nI a + (0 : Int32) = nI a := by
  rw [am_z, nI_add, Nat.add_zero]
theorem and_lt {a b n : Nat} (h : a < n) : a &&& b < n := Nat.lt_of_le_of_lt Nat.and_le_left h
theorem getD_lt {l : List Nat} {i n : Nat} (h : ∀ w ∈ l, w < n) (hi : i < l.length) : l.getD i 0 < n := h _ (getD_mem hi)
section QC
variable {K : Nat} {σ : ja_S} {q : List bq_E}
theorem q_at (hb : bs_ok σ K q) {i : Nat} (hi : i < q.length) : σ.1 (K + 4) i = nI q[i].1 := hb.2.1 i _ (List.getElem?_eq_getElem hi)
theorem q_lt (hq : bq_ok q) {i : Nat} (hi : i < q.length) : q[i].1 < 4096 := (hq.2.1 _ (List.getElem_mem hi)).1
def am_sw (l : Nat) (acc : Nat) (e : bq_E) : Nat := if e.1.testBit l = true then acc ||| e.1 else acc
theorem lsw_L4 (hK : K = 17 ∨ K = 23) (hb : bs_ok σ K q) (hq : bq_ok q) {l : Nat} (hl : l < 12) : ∀ (n i acc : Nat), i ≤ q.length → q.length - i < n → f_Search_leversSeenWith_L4 n K (nI l) (nI acc) (nI i) σ = some (nI ((q.drop i).foldl (am_sw l) acc), σ) := by
  have hlen := bq_ok_len hq
  intro n
  induction n with
  | zero => intro i acc _ h; omega
  | succ n ih =>
    intro i acc hi hn
    rw [f_Search_leversSeenWith_L4, hb.1, (ja_qs hK).2.1]
    by_cases h : i = q.length
    · rw [h, if_pos (nI_le (Nat.le_refl _) (by omega)), List.drop_length]
      rfl
    · have hi2 : i < q.length := by omega
      have hs := q_lt hq hi2
      rw [if_neg (nI_ge (by omega) (by omega)), ld_or hK (by omega), Option.bind_some, q_at hb hi2, List.drop_eq_getElem_cons hi2, List.foldl_cons, nI_1]
      unfold am_sw
      by_cases hc : q[i].1.testBit l = true
      · rw [if_pos ((nI_bit32 (by omega)).mpr hc), Option.bind_some, nI_or, if_pos hc]
        exact ih (i + 1) _ (by omega) (by omega)
      · rw [if_neg (fun z => hc ((nI_bit32 (by omega)).mp z)), if_neg hc]
        exact ih (i + 1) _ (by omega) (by omega)
theorem cnt_L4 (hK : K = 17 ∨ K = 23) (hb : bs_ok σ K q) (hq : bq_ok q) {m : Nat} (hm : m < 4096) : ∀ (n i acc : Nat), i ≤ q.length → q.length - i < n → f_Search_countSetting_L4 n K (nI m) (nI acc) (nI i) σ = some (nI (acc + (q.drop i).countP (fun e => decide (e.1 &&& m = m))), σ) := by
  have hlen := bq_ok_len hq
  intro n
  induction n with
  | zero => intro i acc _ h; omega
  | succ n ih =>
    intro i acc hi hn
    rw [f_Search_countSetting_L4, hb.1, (ja_qs hK).2.1]
    by_cases h : i = q.length
    · rw [h, if_pos (nI_le (Nat.le_refl _) (by omega)), List.drop_length]
      rfl
    · have hi2 : i < q.length := by omega
      have hs := q_lt hq hi2
      have hal := and_lt (b := m) hs
      rw [if_neg (nI_ge (by omega) (by omega)), ld_or hK (by omega), Option.bind_some, q_at hb hi2, List.drop_eq_getElem_cons hi2, List.countP_cons, nI_and, nI_1, nI_1]
      by_cases hc : q[i].1 &&& m = m
      · rw [if_pos (by rw [hc]), if_pos (decide_eq_true hc), ih (i + 1) _ (by omega) (by omega)]
        congr 3
        omega
      · rw [if_neg (nI_ne hc (by omega) (by omega)), if_neg (by simp [hc]), ih (i + 1) _ (by omega) (by omega)]
        congr 3
theorem some_L2 (hK : K = 17 ∨ K = 23) (hb : bs_ok σ K q) (hq : bq_ok q) {m : Nat} (hm : m < 4096) : ∀ (n i : Nat), i ≤ q.length → q.length - i < n → f_Search_someStateSets_L2 n K (nI m) (nI i) σ = some (am_bz (am_has (q.drop i) m), σ) := by
  have hlen := bq_ok_len hq
  intro n
  induction n with
  | zero => intro i _ h; omega
  | succ n ih =>
    intro i hi hn
    rw [f_Search_someStateSets_L2, hb.1, (ja_qs hK).2.1]
    by_cases h : i = q.length
    · rw [h, if_pos (nI_le (Nat.le_refl _) (by omega)), List.drop_length]
      rfl
    · have hi2 : i < q.length := by omega
      have hs := q_lt hq hi2
      have hal := and_lt (b := m) hs
      rw [if_neg (nI_ge (by omega) (by omega)), ld_or hK (by omega), Option.bind_some, q_at hb hi2, List.drop_eq_getElem_cons hi2, nI_and, nI_1]
      unfold am_has
      rw [List.any_cons]
      by_cases hc : q[i].1 &&& m = m
      · rw [if_pos (by rw [hc]), decide_eq_true hc]
        rfl
      · rw [if_neg (nI_ne hc (by omega) (by omega)), decide_eq_false hc, Bool.false_or]
        exact ih (i + 1) (by omega) (by omega)
theorem someSets_ok (hK : K = 17 ∨ K = 23) (hb : bs_ok σ K q) (hq : bq_ok q) {m : Nat} (hm : m < 4096) : f_Search_someStateSets K (nI m) σ = some (am_bz (am_has q m), σ) := by
  have hlen := bq_ok_len hq
  have := some_L2 hK hb hq hm ja_FU 0 (by omega) (by unfold ja_FU; omega)
  rw [List.drop_zero] at this
  unfold f_Search_someStateSets
  rw [am_z]
  exact this
theorem set_L4 {k : Nat} {ro : List Nat} {cf : List (Nat × Nat)} (hK : K = 17 ∨ K = 23) (hk : sh_k k) (hb : bs_ok σ K q) (hq : bq_ok q) (hw : sh_w σ k ro cf) : ∀ (n i acc : Nat), i ≤ ro.length → ro.length - i < n → f_Sheet_settableRoutes_L4 n k K (nI acc) (nI i) σ = some (nI (am_bits (fun j => am_has q (ro.getD j 0)) (ro.length - i) i acc), σ) := by
  obtain ⟨w1, w2, w3, w4, w5⟩ := hw
  intro n
  induction n with
  | zero => intro i acc _ h; omega
  | succ n ih =>
    intro i acc hi hn
    rw [f_Sheet_settableRoutes_L4, w1, (sh_q hk).2.1]
    by_cases h : i = ro.length
    · rw [h, if_pos (nI_le (Nat.le_refl _) (by omega)), Nat.sub_self]
      rfl
    · rw [if_neg (nI_ge (by omega) (by omega)), ld0 (sh_q hk).2.2.2.2.2.1 (by omega) (by omega), Option.bind_some, w2 i (by omega), someSets_ok hK hb hq (getD_lt w4 (by omega)), Option.bind_some, show ro.length - i = (ro.length - (i + 1)) + 1 by omega, nI_1]
      unfold am_bits
      cases hc : am_has q (ro.getD i 0) with
      | true =>
        rw [if_neg bz1, if_pos rfl, nI_pow (by omega), nI_or]
        exact ih (i + 1) _ (by omega) (by omega)
      | false =>
        rw [if_pos (am_bz0.mpr rfl), if_neg (fun z => by cases z)]
        exact ih (i + 1) _ (by omega) (by omega)
theorem settable_ok {k : Nat} {ro : List Nat} {cf : List (Nat × Nat)} (hK : K = 17 ∨ K = 23) (hk : sh_k k) (hb : bs_ok σ K q) (hq : bq_ok q) (hw : sh_w σ k ro cf) : f_Sheet_settableRoutes k K σ = some (nI (am_st q ro), σ) := by
  have h8 := hw.2.2.1
  have := set_L4 hK hk hb hq hw ja_FU 0 0 (by omega) (by unfold ja_FU; omega)
  rw [← am_z] at this
  exact this
theorem lor_ok {k : Nat} {ro : List Nat} {cf : List (Nat × Nat)} (hk : sh_k k) (hw : sh_w σ k ro cf) {i : Nat} (hi : i < ro.length) : f_Sheet_leversOfRoute k (nI i) σ = some (nI (ro.getD i 0), σ) := by
  obtain ⟨w1, w2, w3, w4, w5⟩ := hw
  unfold f_Sheet_leversOfRoute
  rw [hasRoute_ok w1 (by omega), am_in_nI hi (by omega), Option.bind_some, if_neg bz1, (sh_q hk).2.1, ld0 (sh_q hk).2.2.2.2.2.1 (by omega) (by omega), Option.bind_some, w2 i hi]
theorem cf_at {cf : List (Nat × Nat)} {i : Nat} (hi : i < cf.length) : (cf.map (fun q => q.1)).getD i 0 = (cf.getD i (0, 0)).1 ∧ (cf.map (fun q => q.2)).getD i 0 = (cf.getD i (0, 0)).2 := ⟨getD_map hi, getD_map hi⟩
theorem open_L4 {k : Nat} {ro : List Nat} {cf : List (Nat × Nat)} (hK : K = 17 ∨ K = 23) (hk : sh_k k) (hb : bs_ok σ K q) (hq : bq_ok q) (hw : sh_w σ k ro cf) : ∀ (n i acc : Nat), i ≤ cf.length → cf.length - i < n → f_Sheet_openConflicts_L4 n k K (nI acc) (nI i) σ = some (nI (am_bits (fun j => am_has q (ro.getD (cf.getD j (0, 0)).1 0 ||| ro.getD (cf.getD j (0, 0)).2 0)) (cf.length - i) i acc), σ) := by
  obtain ⟨w1, w2, w3, w4, w5, w6, w7, w8, w9⟩ := id hw
  intro n
  induction n with
  | zero => intro i acc _ h; omega
  | succ n ih =>
    intro i acc hi hn
    rw [f_Sheet_openConflicts_L4, w5, (sh_q hk).2.2.1, (sh_q hk).2.2.2.1]
    by_cases h : i = cf.length
    · rw [h, if_pos (nI_le (Nat.le_refl _) (by omega)), Nat.sub_self]
      rfl
    · have hi2 : i < cf.length := by omega
      have hm := w9 _ (getD_mem (d := (0, 0)) hi2)
      have hor : ro.getD (cf.getD i (0, 0)).1 0 ||| ro.getD (cf.getD i (0, 0)).2 0 < 2 ^ 12 := Nat.or_lt_two_pow (getD_lt w4 hm.1) (getD_lt w4 hm.2)
      rw [if_neg (nI_ge (by omega) (by omega)), ld0 (sh_q hk).2.2.2.2.2.2.1 (by omega) (by omega), Option.bind_some, w6 i (by rw [List.length_map]; exact hi2), (cf_at hi2).1, lor_ok hk hw hm.1, Option.bind_some, ld0 (sh_q hk).2.2.2.2.2.2.2 (by omega) (by omega), Option.bind_some, w7 i (by rw [List.length_map]; exact hi2), (cf_at hi2).2, lor_ok hk hw hm.2, Option.bind_some, nI_or, someSets_ok hK hb hq hor, Option.bind_some, show cf.length - i = (cf.length - (i + 1)) + 1 by omega, nI_1]
      unfold am_bits
      cases hc : am_has q (ro.getD (cf.getD i (0, 0)).1 0 ||| ro.getD (cf.getD i (0, 0)).2 0) with
      | true =>
        rw [if_neg bz1, if_pos rfl, nI_pow (by omega), nI_or]
        exact ih (i + 1) _ (by omega) (by omega)
      | false =>
        rw [if_pos (am_bz0.mpr rfl), if_neg (fun z => by cases z)]
        exact ih (i + 1) _ (by omega) (by omega)
theorem open_ok {k : Nat} {ro : List Nat} {cf : List (Nat × Nat)} (hK : K = 17 ∨ K = 23) (hk : sh_k k) (hb : bs_ok σ K q) (hq : bq_ok q) (hw : sh_w σ k ro cf) : f_Sheet_openConflicts k K σ = some (nI (am_op q ro cf), σ) := by
  have h8 := hw.2.2.2.2.2.2.2.1
  have := open_L4 hK hk hb hq hw ja_FU 0 0 (by omega) (by unfold ja_FU; omega)
  rw [← am_z] at this
  exact this
end QC
/-! the reference -/
def mw_ok (σ : ja_S) (ro : List Nat) (cf : List (Nat × Nat)) : Prop := σ.1 45 1 = nI ro.length ∧ am_row (σ.1 57) ro ∧ ro.length ≤ 8 ∧ (∀ w ∈ ro, w < 4096) ∧ σ.1 45 2 = nI cf.length ∧ am_row (σ.1 49) (cf.map (fun q => q.1)) ∧ am_row (σ.1 50) (cf.map (fun q => q.2)) ∧ cf.length ≤ 8 ∧ ∀ c ∈ cf, c.1 < ro.length ∧ c.2 < ro.length
theorem mw_fr {σ σ' : ja_S} {ro : List Nat} {cf : List (Nat × Nat)} (h : mw_ok σ ro cf) (hf : fr_m σ σ') : mw_ok σ' ro cf := by
  have hr : ∀ k, k ≠ 45 → k ≠ 58 → k ≠ 59 → σ'.1 k = σ.1 k := fun k h1 h2 h3 => funext fun j => hf.1 k j h2 h3 (by omega)
  unfold mw_ok at h ⊢
  rw [hr 57 (by omega) (by omega) (by omega), hr 49 (by omega) (by omega) (by omega), hr 50 (by omega) (by omega) (by omega), hf.1 45 1 (by omega) (by omega) (by omega), hf.1 45 2 (by omega) (by omega) (by omega)]
  exact h
theorem an_not0 {w s : Nat} (hw : w < 2 ^ 32) : an_not w s = 0 ↔ s &&& w = w := by
  rw [sub_bits]
  constructor
  · intro h i hi
    by_cases h32 : i < 32
    · have := congrArg (fun z => z.testBit i) h
      simp only [an_not_bit h32, hi, Bool.true_and, Nat.zero_testBit] at this
      simpa using this
    · rw [Nat.testBit_lt_two_pow (Nat.lt_of_lt_of_le hw (Nat.pow_le_pow_right (by omega) (by omega)))] at hi
      cases hi
  · intro h
    apply Nat.eq_of_testBit_eq
    intro i
    rw [Nat.zero_testBit]
    by_cases h32 : i < 32
    · rw [an_not_bit h32]
      cases hi : w.testBit i with
      | false => rfl
      | true => rw [h i hi]; rfl
    · unfold an_not
      rw [Nat.testBit_and, Nat.testBit_lt_two_pow (Nat.lt_of_lt_of_le hw (Nat.pow_le_pow_right (by omega) (by omega)))]
      rfl
theorem an_not_le {a b : Nat} : an_not a b ≤ a := Nat.and_le_left
theorem nI_an {a b : Nat} : nI a &&& (nI b ^^^ (-1)) = nI (an_not a b) := by
  rw [nI_not, nI_and]
  rfl
section QM
variable {σ : ja_S} {q : List bq_E} {ro : List Nat} {cf : List (Nat × Nat)}
theorem sets_ok (hw : mw_ok σ ro cf) {s k : Nat} (hk : k < ro.length) : f_Model_sets 45 (nI s) (nI k) σ = some (am_bz (decide (s &&& ro.getD k 0 = ro.getD k 0)), σ) := by
  obtain ⟨w1, w2, w3, w4, w5⟩ := hw
  have hlt := getD_lt w4 hk
  have hle := an_not_le (a := ro.getD k 0) (b := s)
  unfold f_Model_sets
  rw [show ja_q 45 26 = 57 from rfl, ld0 (N := 8) rfl (by omega) (by omega), Option.bind_some, w2 k hk, nI_an]
  by_cases h : s &&& ro.getD k 0 = ro.getD k 0
  · rw [if_pos (by rw [(an_not0 (by omega)).mpr h]; exact am_z.symm), decide_eq_true h]
    rfl
  · rw [if_neg (nI_ne0' (fun z => h ((an_not0 (by omega)).mp z)) (by omega)), decide_eq_false h]
    rfl
theorem mq_at (hm : mf_ok σ q) {i : Nat} (hi : i < q.length) : σ.1 59 i = nI q[i].1 := hm.2.1 i _ (List.getElem?_eq_getElem hi)
def am_2s (a b : Nat) (e : bq_E) : Bool := decide (e.1 &&& a = a) && decide (e.1 &&& b = b)
theorem joint_L5 (hm : mf_ok σ q) (hq : bq_ok q) (hw : mw_ok σ ro cf) {x y : Nat} (hx : x < ro.length) (hy : y < ro.length) : ∀ (n i acc : Nat), i ≤ q.length → q.length - i < n → f_Model_joint_L5 n 45 (nI x) (nI y) (nI acc) (nI i) σ = some (nI (acc + (q.drop i).countP (am_2s (ro.getD x 0) (ro.getD y 0))), σ) := by
  have hlen := bq_ok_len hq
  intro n
  induction n with
  | zero => intro i acc _ h; omega
  | succ n ih =>
    intro i acc hi hn
    rw [f_Model_joint_L5, hm.1, show ja_q 45 31 = 59 from rfl]
    by_cases h : i = q.length
    · rw [h, if_pos (nI_le (Nat.le_refl _) (by omega)), List.drop_length]
      rfl
    · have hi2 : i < q.length := by omega
      rw [if_neg (nI_ge (by omega) (by omega)), ld0 (N := 4096) rfl (by omega) (by omega), Option.bind_some, mq_at hm hi2, sets_ok hw hx, Option.bind_some, List.drop_eq_getElem_cons hi2, List.countP_cons, nI_1, nI_1, nI_add0]
      have e : am_2s (ro.getD x 0) (ro.getD y 0) q[i] = (decide (q[i].1 &&& ro.getD x 0 = ro.getD x 0) && decide (q[i].1 &&& ro.getD y 0 = ro.getD y 0)) := rfl
      rw [e]
      cases hc : decide (q[i].1 &&& ro.getD x 0 = ro.getD x 0) with
      | false =>
        rw [if_pos (am_bz0.mpr rfl), Bool.false_and, if_neg (fun z => by cases z), ih (i + 1) _ (by omega) (by omega)]
        congr 3
      | true =>
        rw [if_neg bz1, ld0 (N := 4096) rfl (by omega) (by omega), Option.bind_some, mq_at hm hi2, sets_ok hw hy, Option.bind_some, Bool.true_and]
        cases hc2 : decide (q[i].1 &&& ro.getD y 0 = ro.getD y 0) with
        | false =>
          rw [if_pos (am_bz0.mpr rfl), if_neg (fun z => by cases z), ih (i + 1) _ (by omega) (by omega)]
          congr 3
        | true =>
          rw [if_neg bz1, if_pos rfl, ih (i + 1) _ (by omega) (by omega)]
          congr 3
          omega
theorem joint_ok (hm : mf_ok σ q) (hq : bq_ok q) (hw : mw_ok σ ro cf) {x y : Nat} (hx : x < ro.length) (hy : y < ro.length) : f_Model_joint 45 (nI x) (nI y) σ = some (nI (q.countP (am_2s (ro.getD x 0) (ro.getD y 0))), σ) := by
  have hlen := bq_ok_len hq
  have := joint_L5 hm hq hw hx hy ja_FU 0 0 (by omega) (by unfold ja_FU; omega)
  rw [List.drop_zero, Nat.zero_add, ← am_z] at this
  exact this
theorem cnt_2s {a b : Nat} : q.countP (am_2s a b) = q.countP (fun e => decide (e.1 &&& (a ||| b) = a ||| b)) := by
  apply List.countP_congr
  intro e _
  unfold am_2s
  rw [Bool.and_eq_true, decide_eq_true_iff, decide_eq_true_iff, decide_eq_true_iff, nand_or]
theorem has_cnt {m : Nat} : am_has q m = decide (0 < q.countP (fun e => decide (e.1 &&& m = m))) := by
  unfold am_has
  rw [Bool.eq_iff_iff, List.any_eq_true, decide_eq_true_iff, List.countP_pos_iff]
theorem jpos {a b : Nat} (hq : bq_ok q) : (nI (q.countP (am_2s a b)) ≤ 0) ↔ am_has q (a ||| b) = false := by
  have hlen := bq_ok_len hq
  have hle := List.countP_le_length (p := am_2s a b) (l := q)
  rw [am_z, nI_leI (by omega) (by omega), has_cnt, cnt_2s, decide_eq_false_iff_not]
  omega
theorem mset_L4 (hm : mf_ok σ q) (hq : bq_ok q) (hw : mw_ok σ ro cf) : ∀ (n i acc : Nat), i ≤ ro.length → ro.length - i < n → f_Model_settable_L4 n 45 (nI acc) (nI i) σ = some (nI (am_bits (fun j => am_has q (ro.getD j 0)) (ro.length - i) i acc), σ) := by
  obtain ⟨w1, w2, w3, w4, w5⟩ := id hw
  intro n
  induction n with
  | zero => intro i acc _ h; omega
  | succ n ih =>
    intro i acc hi hn
    rw [f_Model_settable_L4, w1]
    by_cases h : i = ro.length
    · rw [h, if_pos (nI_le (Nat.le_refl _) (by omega)), Nat.sub_self]
      rfl
    · rw [if_neg (nI_ge (by omega) (by omega)), joint_ok hm hq hw (by omega) (by omega), Option.bind_some, show ro.length - i = (ro.length - (i + 1)) + 1 by omega, nI_1, nI_or0]
      unfold am_bits
      cases hc : am_has q (ro.getD i 0) with
      | true =>
        rw [if_neg (fun z => by rw [jpos hq, Nat.or_self, hc] at z; cases z), if_pos rfl, nI_pow (by omega), nI_or]
        exact ih (i + 1) _ (by omega) (by omega)
      | false =>
        rw [if_pos ((jpos hq).mpr (by rw [Nat.or_self]; exact hc)), if_neg (fun z => by cases z)]
        exact ih (i + 1) _ (by omega) (by omega)
theorem msettable_ok (hm : mf_ok σ q) (hq : bq_ok q) (hw : mw_ok σ ro cf) : f_Model_settable 45 σ = some (nI (am_st q ro), σ) := by
  have h8 := hw.2.2.1
  have := mset_L4 hm hq hw ja_FU 0 0 (by omega) (by unfold ja_FU; omega)
  rw [← am_z] at this
  exact this
theorem munp_L4 (hm : mf_ok σ q) (hq : bq_ok q) (hw : mw_ok σ ro cf) : ∀ (n i acc : Nat), i ≤ cf.length → cf.length - i < n → f_Model_unprotected_L4 n 45 (nI acc) (nI i) σ = some (nI (am_bits (fun j => am_has q (ro.getD (cf.getD j (0, 0)).1 0 ||| ro.getD (cf.getD j (0, 0)).2 0)) (cf.length - i) i acc), σ) := by
  obtain ⟨w1, w2, w3, w4, w5, w6, w7, w8, w9⟩ := id hw
  intro n
  induction n with
  | zero => intro i acc _ h; omega
  | succ n ih =>
    intro i acc hi hn
    rw [f_Model_unprotected_L4, w5, show ja_q 45 6 = 49 from rfl, show ja_q 45 7 = 50 from rfl]
    by_cases h : i = cf.length
    · rw [h, if_pos (nI_le (Nat.le_refl _) (by omega)), Nat.sub_self]
      rfl
    · have hi2 : i < cf.length := by omega
      have hmm := w9 _ (getD_mem (d := (0, 0)) hi2)
      rw [if_neg (nI_ge (by omega) (by omega)), ld0 (N := 8) rfl (by omega) (by omega), Option.bind_some, ld0 (N := 8) rfl (by omega) (by omega), Option.bind_some, w6 i (by rw [List.length_map]; exact hi2), w7 i (by rw [List.length_map]; exact hi2), (cf_at hi2).1, (cf_at hi2).2, joint_ok hm hq hw hmm.1 hmm.2, Option.bind_some, show cf.length - i = (cf.length - (i + 1)) + 1 by omega, nI_1, nI_or0]
      unfold am_bits
      cases hc : am_has q (ro.getD (cf.getD i (0, 0)).1 0 ||| ro.getD (cf.getD i (0, 0)).2 0) with
      | true =>
        rw [if_neg (fun z => by rw [jpos hq, hc] at z; cases z), if_pos rfl, nI_pow (by omega), nI_or]
        exact ih (i + 1) _ (by omega) (by omega)
      | false =>
        rw [if_pos ((jpos hq).mpr hc), if_neg (fun z => by cases z)]
        exact ih (i + 1) _ (by omega) (by omega)
theorem munprot_ok (hm : mf_ok σ q) (hq : bq_ok q) (hw : mw_ok σ ro cf) : f_Model_unprotected 45 σ = some (nI (am_op q ro cf), σ) := by
  have h8 := hw.2.2.2.2.2.2.2.1
  have := munp_L4 hm hq hw ja_FU 0 0 (by omega) (by unfold ja_FU; omega)
  rw [← am_z] at this
  exact this
theorem mex_L29 {N l : Nat} (hm : mf_ok σ q) (hq : bq_ok q) (hN : σ.1 45 0 = nI N) (hl : l < 12) : ∀ (n i acc : Nat), i ≤ q.length → q.length - i < n → f_Model_excludedLevers_L29 n 45 (nI l) (nI acc) (nI i) σ = some (((((1 : Int32) <<< (nI N &&& 31)) - (1 : Int32)) &&& (nI ((q.drop i).foldl (am_sw l) acc) ^^^ (-1 : Int32))) &&& (((1 : Int32) <<< (nI l &&& 31)) ^^^ (-1 : Int32)), σ) := by
  have hlen := bq_ok_len hq
  intro n
  induction n with
  | zero => intro i acc _ h; omega
  | succ n ih =>
    intro i acc hi hn
    rw [f_Model_excludedLevers_L29, hm.1, show ja_q 45 31 = 59 from rfl]
    by_cases h : i = q.length
    · rw [h, if_pos (nI_le (Nat.le_refl _) (by omega)), List.drop_length, hN]
      rfl
    · have hi2 : i < q.length := by omega
      rw [if_neg (nI_ge (by omega) (by omega)), ld0 (N := 4096) rfl (by omega) (by omega), Option.bind_some, mq_at hm hi2, has32 (by omega), Option.bind_some, List.drop_eq_getElem_cons hi2, List.foldl_cons, nI_1, nI_or0]
      unfold am_sw
      cases hc : q[i].1.testBit l with
      | true =>
        rw [if_neg bz1, ld0 (N := 4096) rfl (by omega) (by omega), Option.bind_some, mq_at hm hi2, nI_or, if_pos rfl]
        exact ih (i + 1) _ (by omega) (by omega)
      | false =>
        rw [if_pos (am_bz0.mpr rfl), if_neg (fun z => by cases z)]
        exact ih (i + 1) _ (by omega) (by omega)
end QM
