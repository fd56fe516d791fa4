/-! the largest set of routes -/
def am_pop (x : Nat) : Nat := (List.range 8).countP (fun i => x.testBit i)
def ja_S00 : ja_S := (fun _ _ => 0, fun _ _ => 0)
theorem bc_ok {x : Nat} {σ : ja_S} (h : x < 256) : f_Integer_bitCount (nI x) σ = some (nI (am_pop x), σ) := by
  have h1 : ∀ x, x < 256 → (f_Integer_bitCount (nI x) ja_S00).map Prod.fst = some (nI (am_pop x)) := by decide +kernel
  have h2 : ∀ y : Int32, f_Integer_bitCount y σ = ((f_Integer_bitCount y ja_S00).map Prod.fst).map (fun z => (z, σ)) := fun y => rfl
  rw [h2, h1 x h]
  rfl
def am_mb : Nat → Int32 → Int32 → Option Int32
  | 0, _, _ => none
  | n + 1, c, x => if x = 0 then some c else am_mb n (c + 1) (x &&& (x - 1))
theorem mb_eq {σ : ja_S} : ∀ (n : Nat) (c x : Int32), f_Model_bits_L4 n c x σ = (am_mb n c x).map (fun z => (z, σ))
  | 0, _, _ => rfl
  | n + 1, c, x => by
    rw [f_Model_bits_L4, am_mb]
    by_cases h : x = 0
    · rw [if_pos h, if_pos h]
      rfl
    · rw [if_neg h, if_neg h, mb_eq n]
theorem mbits_ok {x : Nat} {σ : ja_S} (h : x < 256) : f_Model_bits (nI x) σ = some (nI (am_pop x), σ) := by
  have h1 : ∀ x, x < 256 → am_mb 10000 0 (nI x) = some (nI (am_pop x)) := by decide +kernel
  unfold f_Model_bits
  rw [mb_eq, show ja_FU = 10000 from rfl, h1 x h]
  rfl
theorem bits_lt {p : Nat → Bool} {M : Nat} : ∀ (k i acc : Nat), i + k ≤ M → acc < 2 ^ M → am_bits p k i acc < 2 ^ M
  | 0, _, _, _, h => h
  | k + 1, i, acc, h1, h2 => by
    unfold am_bits
    refine bits_lt k (i + 1) _ (by omega) ?_
    by_cases hp : p i = true
    · rw [if_pos hp]
      exact Nat.or_lt_two_pow h2 (Nat.pow_lt_pow_right (by omega) (by omega))
    · rw [if_neg hp]
      exact h2
/-- the routes that a state sets -/
def am_rs (ro : List Nat) (s : Nat) : Nat := am_bits (fun k => decide (s &&& ro.getD k 0 = ro.getD k 0)) ro.length 0 0
theorem am_rs_lt {ro : List Nat} {s : Nat} (h : ro.length ≤ 8) : am_rs ro s < 256 := bits_lt (M := 8) _ _ _ (by omega) (by omega)
def am_lg (ro : List Nat) (acc : Nat) (e : bq_E) : Nat := if am_pop acc < am_pop (am_rs ro e.1) then am_rs ro e.1 else if am_pop acc = am_pop (am_rs ro e.1) then (if acc ≤ am_rs ro e.1 then acc else am_rs ro e.1) else acc
theorem am_pop_lt {x : Nat} : am_pop x ≤ 8 := by
  have := List.countP_le_length (p := fun i => x.testBit i) (l := List.range 8)
  rw [List.length_range] at this
  exact this
section LG
variable {K k : Nat} {σ : ja_S} {q : List bq_E} {ro : List Nat} {cf : List (Nat × Nat)}
theorem rsi_L4 (hk : sh_k k) (hw : sh_w σ k ro cf) {s : Nat} (hs : s < 4096) : ∀ (n i acc : Nat), i ≤ ro.length → ro.length - i < n → f_Sheet_routesSetIn_L4 n k (nI s) (nI acc) (nI i) σ = some (nI (am_bits (fun j => decide (s &&& ro.getD j 0 = ro.getD j 0)) (ro.length - i) i acc), σ) := by
  obtain ⟨w1, w2, w3, w4, w5⟩ := hw
  intro n
  induction n with
  | zero => intro i acc _ h; omega
  | succ n ih =>
    intro i acc hi hn
    rw [f_Sheet_routesSetIn_L4, w1, (sh_q hk).2.1]
    by_cases h : i = ro.length
    · rw [h, if_pos (nI_le (Nat.le_refl _) (by omega)), Nat.sub_self]
      rfl
    · have hlt := getD_lt w4 (i := i) (by omega)
      have hal := and_lt (b := ro.getD i 0) hs
      rw [if_neg (nI_ge (by omega) (by omega)), ld0 (sh_q hk).2.2.2.2.2.1 (by omega) (by omega), Option.bind_some, Option.bind_some, w2 i (by omega), nI_and, show ro.length - i = (ro.length - (i + 1)) + 1 by omega, nI_1]
      unfold am_bits
      by_cases hc : s &&& ro.getD i 0 = ro.getD i 0
      · rw [if_pos (by rw [hc]), if_pos (decide_eq_true hc), nI_pow (by omega), nI_or]
        exact ih (i + 1) _ (by omega) (by omega)
      · rw [if_neg (nI_ne hc (by omega) (by omega)), if_neg (fun z => hc (of_decide_eq_true z))]
        exact ih (i + 1) _ (by omega) (by omega)
theorem rsi_ok (hk : sh_k k) (hw : sh_w σ k ro cf) {s : Nat} (hs : s < 4096) : f_Sheet_routesSetIn k (nI s) σ = some (nI (am_rs ro s), σ) := by
  have h8 := hw.2.2.1
  have := rsi_L4 hk hw hs ja_FU 0 0 (by omega) (by unfold ja_FU; omega)
  rw [← am_z] at this
  exact this
theorem lg_lt (h : ro.length ≤ 8) {acc : Nat} {e : bq_E} (ha : acc < 256) : am_lg ro acc e < 256 := by
  have := am_rs_lt (s := e.1) h
  unfold am_lg
  repeat' split
  all_goals omega
theorem lg_L4 (hK : K = 17 ∨ K = 23) (hk : sh_k k) (hb : bs_ok σ K q) (hq : bq_ok q) (hw : sh_w σ k ro cf) : ∀ (n i acc : Nat), acc < 256 → i ≤ q.length → q.length - i < n → f_Sheet_largestJointSet_L4 n k K (nI acc) (nI i) σ = some (nI ((q.drop i).foldl (am_lg ro) acc), σ) := by
  have hlen := bq_ok_len hq
  have h8 := hw.2.2.1
  intro n
  induction n with
  | zero => intro i acc _ _ h; omega
  | succ n ih =>
    intro i acc hacc hi hn
    rw [f_Sheet_largestJointSet_L4, hb.1]
    by_cases h : i = q.length
    · rw [h, if_pos (nI_le (Nat.le_refl _) (by omega)), List.drop_length]
      rfl
    · have hi2 : i < q.length := by omega
      have hs := q_lt hq hi2
      have hst : f_Search_stateAt K (nI i) σ = some (nI q[i].1, σ) := by
        unfold f_Search_stateAt
        rw [if_neg (nI_pos (by omega)), hb.1, if_neg (nI_ge (by omega) (by omega)), (ja_qs hK).2.1, ld_or hK (by omega), Option.bind_some, q_at hb hi2]
      have hr := am_rs_lt (s := q[i].1) h8
      have p1 := am_pop_lt (x := am_rs ro q[i].1)
      have p2 := am_pop_lt (x := acc)
      have hsp := sub_pos' (a := am_pop (am_rs ro q[i].1)) (b := am_pop acc) (by omega) (by omega)
      have hlg := lg_lt (acc := acc) (e := q[i]) h8 hacc
      rw [if_neg (nI_ge (by omega) (by omega)), hst, Option.bind_some, rsi_ok hk hw hs, Option.bind_some, bc_ok hr, Option.bind_some, bc_ok hacc, Option.bind_some, List.drop_eq_getElem_cons hi2, List.foldl_cons, nI_1]
      have hih := ih (i + 1) (am_lg ro acc q[i]) hlg (by omega) (by omega)
      rw [← hih]
      unfold am_lg
      by_cases c1 : am_pop acc < am_pop (am_rs ro q[i].1)
      · rw [if_pos (hsp.1.mpr c1), if_pos c1]
      · rw [if_neg (fun z => c1 (hsp.1.mp z)), if_neg c1]
        by_cases c2 : am_pop (am_rs ro q[i].1) = am_pop acc
        · rw [if_pos (hsp.2.mpr c2), if_pos c2.symm]
          by_cases c3 : acc ≤ am_rs ro q[i].1
          · rw [if_pos ((nI_leI (by omega) (by omega)).mpr c3), if_pos c3]
          · rw [if_neg (fun z => c3 ((nI_leI (by omega) (by omega)).mp z)), if_neg c3]
        · rw [if_neg (fun z => c2 (hsp.2.mp z)), if_neg (fun z => c2 z.symm)]
theorem mlg_L31 (hm : mf_ok σ q) (hq : bq_ok q) (hw : mw_ok σ ro cf) {i best : Nat} (hi : i < q.length) (k18 : Nat → Int32 → Int32 → ja_S → Option (Int32 × ja_S)) : ∀ (n w acc : Nat), w ≤ ro.length → ro.length - w < n → f_Model_largestRouteSet_L31 k18 n 45 (nI best) (nI i) (nI acc) (nI w) σ = f_Model_largestRouteSet_L31 k18 1 45 (nI best) (nI i) (nI (am_bits (fun j => decide (q[i].1 &&& ro.getD j 0 = ro.getD j 0)) (ro.length - w) w acc)) (nI ro.length) σ := by
  have hlen := bq_ok_len hq
  obtain ⟨w1, w2, w3, w4, w5⟩ := id hw
  intro n
  induction n with
  | zero => intro w acc _ h; omega
  | succ n ih =>
    intro w acc hw2 hn
    by_cases h : w = ro.length
    · rw [f_Model_largestRouteSet_L31, f_Model_largestRouteSet_L31, w1, h, if_pos (nI_le (Nat.le_refl _) (by omega)), if_pos (nI_le (Nat.le_refl _) (by omega)), Nat.sub_self]
      rfl
    · rw [f_Model_largestRouteSet_L31, w1, if_neg (nI_ge (by omega) (by omega)), show ja_q 45 31 = 59 from rfl, ld0 (N := 4096) rfl (by omega) (by omega), Option.bind_some, mq_at hm hi, sets_ok hw (by omega), Option.bind_some, nI_1, nI_or0, show ro.length - w = (ro.length - (w + 1)) + 1 by omega]
      show _ = f_Model_largestRouteSet_L31 k18 1 45 (nI best) (nI i) (nI (am_bits _ (ro.length - (w + 1)) (w + 1) (if decide (q[i].1 &&& ro.getD w 0 = ro.getD w 0) = true then acc ||| 2 ^ w else acc))) (nI ro.length) σ
      by_cases hc : q[i].1 &&& ro.getD w 0 = ro.getD w 0
      · rw [decide_eq_true hc, if_neg bz1, if_pos rfl, nI_pow (by omega), nI_or]
        exact ih (w + 1) _ (by omega) (by omega)
      · rw [decide_eq_false hc, if_pos (am_bz0.mpr rfl), if_neg (fun z => by cases z)]
        exact ih (w + 1) _ (by omega) (by omega)
theorem mlg_L18 (hm : mf_ok σ q) (hq : bq_ok q) (hw : mw_ok σ ro cf) : ∀ (n i acc : Nat), acc < 256 → i ≤ q.length → q.length - i < n → f_Model_largestRouteSet_L18 n 45 (nI acc) (nI i) σ = some (nI ((q.drop i).foldl (am_lg ro) acc), σ) := by
  have hlen := bq_ok_len hq
  have h8 := hw.2.2.1
  intro n
  induction n with
  | zero => intro i acc _ _ h; omega
  | succ n ih =>
    intro i acc hacc hi hn
    rw [f_Model_largestRouteSet_L18, hm.1]
    by_cases h : i = q.length
    · rw [h, if_pos (nI_le (Nat.le_refl _) (by omega)), List.drop_length]
      rfl
    · have hi2 : i < q.length := by omega
      have hr := am_rs_lt (s := q[i].1) h8
      have p1 := am_pop_lt (x := am_rs ro q[i].1)
      have p2 := am_pop_lt (x := acc)
      have hlg := lg_lt (acc := acc) (e := q[i]) h8 hacc
      have h31 := mlg_L31 hm hq hw (best := acc) hi2 (f_Model_largestRouteSet_L18 n) ja_FU 0 0 (by omega) (by unfold ja_FU; omega)
      rw [← am_z, Nat.sub_zero] at h31
      rw [if_neg (nI_ge (by omega) (by omega)), h31, List.drop_eq_getElem_cons hi2, List.foldl_cons]
      have hih := ih (i + 1) (am_lg ro acc q[i]) hlg (by omega) (by omega)
      rw [← hih]
      have e : am_bits (fun j => decide (q[i].1 &&& ro.getD j 0 = ro.getD j 0)) ro.length 0 0 = am_rs ro q[i].1 := rfl
      rw [e, f_Model_largestRouteSet_L31, hw.1, if_pos (nI_le (Nat.le_refl _) (by omega)), mbits_ok hr, Option.bind_some, mbits_ok hacc, Option.bind_some, nI_1]
      unfold am_lg
      by_cases c1 : am_pop acc < am_pop (am_rs ro q[i].1)
      · rw [if_pos (nI_lt c1 (by omega)), if_pos c1]
      · rw [if_neg (nI_nlt (by omega) (by omega)), if_neg c1, mbits_ok hr, Option.bind_some, mbits_ok hacc, Option.bind_some]
        by_cases c2 : am_pop (am_rs ro q[i].1) = am_pop acc
        · rw [if_pos (by rw [c2]), if_pos c2.symm]
          by_cases c3 : acc ≤ am_rs ro q[i].1
          · rw [if_pos ((nI_leI (by omega) (by omega)).mpr c3), if_pos c3]
          · rw [if_neg (fun z => c3 ((nI_leI (by omega) (by omega)).mp z)), if_neg c3]
        · rw [if_neg (nI_ne c2 (by omega) (by omega)), if_neg (fun z => c2 z.symm)]
end LG
section C32
variable {A : am_A} {a : Nat → Int32} {σ : ja_S}
theorem case_32 (hA : am_ok A) (hC : am_C A σ) (hM : am_M A σ) (hK : am_K A σ) : am_ask2 A 32 a σ := by
  have hlen := bq_ok_len (rl_ok (A := A))
  obtain ⟨σ1, e1, e2, e3, e4, e5⟩ := searched_ok hA hC hK
  obtain ⟨τ1, τ2, g1, g2, g3, g4, g5, g6, g7⟩ := mhome hA (am_M_th (v := 0) (am_M_cl hM e5))
  refine am_asks (σ2 := τ2) ?_ hC hM e5 e3 (fr_md_tr md_th g6)
  have h1 := lg_L4 (k := 3) (Or.inl rfl) (Or.inl rfl) e4.1 rl_ok (am_C_shw hA e2) ja_FU 0 0 (by omega) (by omega) (by unfold ja_FU; omega)
  have h2 := mlg_L18 g3 rl_ok g5 ja_FU 0 0 (by omega) (by omega) (by unfold ja_FU; omega)
  rw [← am_z] at h1 h2
  rw [jc_32]
  unfold f_Frame_largestRouteSet f_Model_largestRouteSet f_Sheet_largestJointSet ja_pu
  rw [e1, Option.bind_some, show ja_q 0 3 = 3 from rfl, show ja_q 0 7 = 17 from rfl, h1, Option.bind_some, Option.bind_some, Option.bind_some, g1, Option.bind_some, g2, Option.bind_some, h2, Option.bind_some]
  exact if_pos rfl
end C32
