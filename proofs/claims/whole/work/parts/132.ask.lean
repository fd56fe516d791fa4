/-! ranges, and the calls that only ask what the sheet holds -/
def am_bz (b : Bool) : Int32 := if b = true then 1 else 0
theorem am_bz0 {b : Bool} : am_bz b = 0 ↔ b = false := by cases b <;> simp [am_bz]
theorem am_bz01 (b : Bool) : am_bz b = 0 ∨ am_bz b = 1 := by cases b <;> simp [am_bz]
def am_in (x : Int32) (N : Nat) : Bool := decide (0 ≤ x.toInt ∧ x.toInt < N)
theorem am_in_t {x : Int32} {N : Nat} (h : am_in x N = true) (hN : N < 2 ^ 31) : ∃ j, j < N ∧ x = nI j := by
  have h1 := of_decide_eq_true h
  exact vp_in_of (vp_in_iff.mpr h1) hN
theorem am_in_nI {j N : Nat} (hj : j < N) (hN : N < 2 ^ 31) : am_in (nI j) N = true := by
  unfold am_in
  rw [nI_toInt (by omega)]
  exact decide_eq_true (by omega)
theorem rb_bz {b : Bool} {σ : ja_S} : ja_rb (am_bz b) σ = some (am_bz b, σ) := if_pos (am_bz01 b)
theorem i32_lt0 {x : Int32} : x < 0 ↔ x.toInt < 0 := by rw [Int32.lt_iff_toInt_lt, Int32.toInt_zero]
theorem i32_le {N : Nat} {x : Int32} (hN : N < 2 ^ 31) : nI N ≤ x ↔ (N : Int) ≤ x.toInt := by rw [Int32.le_iff_toInt_le, nI_toInt hN]
theorem rng_c {x : Int32} {N : Nat} {σ : ja_S} (hN : N < 2 ^ 31) : (if x < 0 then some ((0 : Int32), σ) else (if nI N ≤ x then some ((0 : Int32), σ) else some ((1 : Int32), σ))) = some (am_bz (am_in x N), σ) := by
  unfold am_in am_bz
  by_cases h1 : x.toInt < 0
  · rw [if_pos (i32_lt0.mpr h1), if_neg (by simp; omega)]
  · rw [if_neg (fun h => h1 (i32_lt0.mp h))]
    by_cases h2 : (N : Int) ≤ x.toInt
    · rw [if_pos ((i32_le hN).mpr h2), if_neg (by simp; omega)]
    · rw [if_neg (fun h => h2 ((i32_le hN).mp h)), if_pos (by simp; omega)]
theorem lgc {x y : Int64} : (lg_cmp x y < 0 ↔ x < y) ∧ (0 < lg_cmp x y ↔ y < x) := by
  unfold lg_cmp
  by_cases h1 : y < x
  · rw [if_pos h1]
    refine ⟨⟨fun h => absurd h (by decide), fun h => ?_⟩, ⟨fun _ => h1, fun _ => by decide⟩⟩
    rw [Int64.lt_iff_toInt_lt] at h h1
    omega
  · rw [if_neg h1]
    by_cases h2 : x = y
    · rw [if_pos h2]
      refine ⟨⟨fun h => absurd h (by decide), fun h => ?_⟩, ⟨fun h => absurd h (by decide), fun h => absurd h h1⟩⟩
      rw [h2, Int64.lt_iff_toInt_lt] at h
      omega
    · rw [if_neg h2]
      refine ⟨⟨fun _ => ?_, fun _ => by decide⟩, ⟨fun h => absurd h (by decide), fun h => absurd h h1⟩⟩
      rw [Int64.lt_iff_toInt_lt] at h1 ⊢
      have h3 : x.toInt ≠ y.toInt := fun e => h2 (Int64.toInt_inj.mp e)
      omega
theorem isIn_ok {x y : Int32} {M : Int} {σ : ja_S} (hy : y.toInt = M) : f_Model_isIn x.toInt64 0 y.toInt64 σ = some (am_bz (decide (0 ≤ x.toInt ∧ x.toInt ≤ M)), σ) := by
  unfold f_Model_isIn am_bz
  have e1 : lg_cmp x.toInt64 0 < 0 ↔ x.toInt < 0 := by
    rw [lgc.1, Int64.lt_iff_toInt_lt, Int32.toInt_toInt64]
    simp
  have e2 : 0 < lg_cmp x.toInt64 y.toInt64 ↔ M < x.toInt := by
    rw [lgc.2, Int64.lt_iff_toInt_lt, Int32.toInt_toInt64, Int32.toInt_toInt64, hy]
  by_cases h1 : x.toInt < 0
  · rw [if_pos (e1.mpr h1), if_neg (by simp; omega)]
  · rw [if_neg (fun h => h1 (e1.mp h))]
    by_cases h2 : M < x.toInt
    · rw [if_pos (e2.mpr h2), if_neg (by simp; omega)]
    · rw [if_neg (fun h => h2 (e2.mp h)), if_pos (by simp; omega)]
theorem nI_dec {N : Nat} (h : N < 2 ^ 30) : (nI N - 1).toInt = (N : Int) - 1 := by
  rw [show (1 : Int32) = nI 1 by decide +kernel]
  exact pk_sub_toInt h (by omega)
theorem isIn_n {x : Int32} {N : Nat} {σ : ja_S} (h : N < 2 ^ 30) : f_Model_isIn x.toInt64 0 (nI N - 1).toInt64 σ = some (am_bz (am_in x N), σ) := by
  rw [isIn_ok (nI_dec h)]
  congr 3
  unfold am_in
  congr 1
  apply propext
  constructor <;> intro h <;> omega
theorem hasRule_ok {σ : ja_S} {k N : Nat} {x : Int32} (h : σ.1 k 3 = nI N) (hN : N < 2 ^ 30) : f_Sheet_hasRule k x σ = some (am_bz (am_in x N), σ) := by
  unfold f_Sheet_hasRule; rw [h]; exact rng_c (by omega)
theorem hasRoute_ok {σ : ja_S} {k N : Nat} {x : Int32} (h : σ.1 k 5 = nI N) (hN : N < 2 ^ 30) : f_Sheet_hasRoute k x σ = some (am_bz (am_in x N), σ) := by
  unfold f_Sheet_hasRoute; rw [h]; exact rng_c (by omega)
theorem hasConflict_ok {σ : ja_S} {k N : Nat} {x : Int32} (h : σ.1 k 8 = nI N) (hN : N < 2 ^ 30) : f_Sheet_hasConflict k x σ = some (am_bz (am_in x N), σ) := by
  unfold f_Sheet_hasConflict; rw [h]; exact rng_c (by omega)
theorem hasLever_ok {σ : ja_S} {k N : Nat} {x : Int32} (h : σ.1 k 0 = nI N) (hN : N < 2 ^ 30) : f_Sheet_hasLever k x σ = some (am_bz (am_in x N), σ) := by
  unfold f_Sheet_hasLever; rw [h]; exact rng_c (by omega)
theorem isLever_ok {σ : ja_S} {N : Nat} {x : Int32} (h : σ.1 45 0 = nI N) (hN : N < 2 ^ 30) : f_Model_isLever 45 x σ = some (am_bz (am_in x N), σ) := by
  unfold f_Model_isLever; rw [h, isIn_n hN]; exact rb_bz
theorem isRoute_ok {σ : ja_S} {N : Nat} {x : Int32} (h : σ.1 45 1 = nI N) (hN : N < 2 ^ 30) : f_Model_isRoute 45 x σ = some (am_bz (am_in x N), σ) := by
  unfold f_Model_isRoute; rw [h, isIn_n hN]; exact rb_bz
theorem L0_len {k N : Nat} (h : ja_shl.getD k (0, 0) = (0, N)) : ja_len ja_L0 k = N := by unfold ja_len; show (ja_shl.getD k (0, 0)).2 = N; rw [h]
theorem ld0 {σ : ja_S} {k j N : Nat} (hk : ja_shl.getD k (0, 0) = (0, N)) (h : j < N) (hN : N < 2 ^ 31) : ja_ld ja_L0 σ k (nI j) = some (σ.1 k j) := ja_ld_n (by rw [L0_len hk]; exact h) (by omega)
theorem st0' {σ : ja_S} {k j N : Nat} {v : Int32} (hk : ja_shl.getD k (0, 0) = (0, N)) (h : j < N) (hN : N < 2 ^ 31) : ja_st ja_L0 σ k (nI j) v = some (ja_si σ k j v) := ja_st_n (by rw [L0_len hk]; exact h) (by omega)
theorem isRule_ok {σ : ja_S} {N : Nat} {x : Int32} (h : σ.1 46 0 = nI N) (hN : N < 2 ^ 30) : f_Model_isRule 45 x σ = some (am_bz (am_in x N), σ) := by
  unfold f_Model_isRule
  rw [show ja_q 45 3 = 46 from rfl, show (0 : Int32) = nI 0 by decide +kernel, ld0 (N := 98) rfl (by omega) (by omega)]
  show (f_Model_isIn x.toInt64 0 (σ.1 46 0 - 1).toInt64 σ).bind _ = _
  rw [h, isIn_n hN]
  exact rb_bz
/-- the packed rule's parts -/
theorem am_pklt {n : Nat} {r : am_R} (h : am_rok n r) (hn : n ≤ 12) : am_pk r < 2 ^ 18 ∧ r.2.2.2 ≤ 24 := by
  obtain ⟨h1, h2, h3, h4, h5⟩ := h
  have : r.2.2.2 ≤ 24 := by omega
  unfold am_pk
  omega
theorem rk_ok {r : am_R} {σ : ja_S} (h : r.1 < 3 ∧ r.2.1 < 16 ∧ r.2.2.1 < 16 ∧ r.2.2.2 < 256) : f_Rule_kind (nI (am_pk r)) σ = some (nI r.1, σ) := by
  have hp : am_pk r < 2 ^ 31 := by unfold am_pk; omega
  unfold f_Rule_kind
  rw [show (16 : Int32) = nI 16 by decide +kernel, nI_shr hp (by omega)]
  congr 3
  unfold am_pk
  omega
theorem ra_ok {r : am_R} {σ : ja_S} (h : r.1 < 3 ∧ r.2.1 < 16 ∧ r.2.2.1 < 16 ∧ r.2.2.2 < 256) : f_Rule_leverA (nI (am_pk r)) σ = some (nI r.2.1, σ) := by
  have hp : am_pk r < 2 ^ 31 := by unfold am_pk; omega
  unfold f_Rule_leverA
  rw [show (12 : Int32) = nI 12 by decide +kernel, nI_shr hp (by omega), pk_andN (by omega) 4 (by decide +kernel)]
  congr 3
  unfold am_pk
  omega
theorem rlb_ok {r : am_R} {σ : ja_S} (h : r.1 < 3 ∧ r.2.1 < 16 ∧ r.2.2.1 < 16 ∧ r.2.2.2 < 256) : f_Rule_leverB (nI (am_pk r)) σ = some (nI r.2.2.1, σ) := by
  have hp : am_pk r < 2 ^ 31 := by unfold am_pk; omega
  unfold f_Rule_leverB
  rw [show (8 : Int32) = nI 8 by decide +kernel, nI_shr hp (by omega), pk_andN (by omega) 4 (by decide +kernel)]
  congr 3
  unfold am_pk
  omega
theorem rcd_ok {r : am_R} {σ : ja_S} (h : r.1 < 3 ∧ r.2.1 < 16 ∧ r.2.2.1 < 16 ∧ r.2.2.2 < 256) : f_Rule_condition (nI (am_pk r)) σ = some (am_cd r.2.2.2, σ) := by
  have hp : am_pk r < 2 ^ 31 := by unfold am_pk; omega
  unfold f_Rule_condition am_cd
  rw [pk_andN (by omega) 8 (by decide +kernel)]
  congr 4
  unfold am_pk
  omega
theorem am_r16 {n : Nat} {r : am_R} (h : am_rok n r) (hn : n ≤ 12) : r.1 < 3 ∧ r.2.1 < 16 ∧ r.2.2.1 < 16 ∧ r.2.2.2 < 256 := by
  have := am_pklt h hn
  obtain ⟨h1, h2, h3, h4, h5⟩ := h
  omega
theorem getD_mem {α : Type} {l : List α} {i : Nat} {d : α} (h : i < l.length) : l.getD i d ∈ l := by
  rw [List.getD_eq_getElem?_getD, List.getElem?_eq_getElem h]
  exact List.getElem_mem h
theorem getD_map {α β : Type} {l : List α} {i : Nat} {d : α} {e : β} {f : α → β} (h : i < l.length) : (l.map f).getD i e = f (l.getD i d) := by
  rw [List.getD_eq_getElem?_getD, List.getD_eq_getElem?_getD, List.getElem?_map, List.getElem?_eq_getElem h]
  rfl
