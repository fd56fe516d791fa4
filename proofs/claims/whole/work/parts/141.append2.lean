/-! appendBytes: both loops -/
def am_wd (w0 w1 w2 w3 w4 : Int32) (k : Nat) : Int32 := if k < 4 then w0 else if k < 8 then w1 else if k < 12 then w2 else if k < 16 then w3 else w4
theorem nI_le' {a b : Nat} (ha : a < 2 ^ 31) (hb : b < 2 ^ 31) (c : Int32) (hc : c = nI a) : (c ≤ nI b) ↔ a ≤ b := by rw [hc, nI_leI ha hb]
theorem ab_L24 {w0 w1 w2 w3 w4 : Int32} : ∀ (m n k len : Nat) (σ : ja_S), k + m = 20 → m < n → len + m ≤ 900 → σ.1 45 11 = nI len → f_Model_appendBytes_L24 n 45 w0 w1 w2 w3 w4 (nI k) σ = some (nI (len + m), am_apl 45 11 51 ((List.range' k m).map (fun k => am_by (am_wd w0 w1 w2 w3 w4 k) (k % 4))) len σ) := by
  intro m
  induction m with
  | zero =>
    intro n k len σ hk hn hl h
    obtain ⟨n, rfl⟩ : ∃ j, n = j + 1 := ⟨n - 1, by omega⟩
    rw [f_Model_appendBytes_L24, if_pos ((nI_le' (a := 20) (b := k) (by omega) (by omega) 20 (by decide +kernel)).mpr (by omega)), h]
    rfl
  | succ m ih =>
    intro n k len σ hk hn hl h
    obtain ⟨n, rfl⟩ : ∃ j, n = j + 1 := ⟨n - 1, by omega⟩
    have key : ∀ y : Int32, y = am_wd w0 w1 w2 w3 w4 k → f_Model_appendBytes_B77 (f_Model_appendBytes_L24 n) 45 w0 w1 w2 w3 w4 (nI k) y σ = some (nI (len + (m + 1)), am_apl 45 11 51 ((List.range' k (m + 1)).map (fun k => am_by (am_wd w0 w1 w2 w3 w4 k) (k % 4))) len σ) := by
      intro y hy
      rw [ab_step (by omega) (by omega) h, ih n (k + 1) (len + 1) _ (by omega) (by omega) (by omega) (by rw [si_at, if_pos ⟨rfl, rfl⟩]), hy, show len + 1 + m = len + (m + 1) by omega]
      rfl
    rw [f_Model_appendBytes_L24, if_neg (fun q => by have := (nI_le' (a := 20) (b := k) (by omega) (by omega) 20 (by decide +kernel)).mp q; omega)]
    by_cases h4 : 4 ≤ k
    · rw [if_pos ((nI_le' (by omega) (by omega) 4 (by decide +kernel)).mpr h4)]
      by_cases h8 : 8 ≤ k
      · rw [if_pos ((nI_le' (by omega) (by omega) 8 (by decide +kernel)).mpr h8)]
        by_cases h12 : 12 ≤ k
        · rw [if_pos ((nI_le' (by omega) (by omega) 12 (by decide +kernel)).mpr h12)]
          by_cases h16 : 16 ≤ k
          · rw [if_pos ((nI_le' (by omega) (by omega) 16 (by decide +kernel)).mpr h16)]
            exact key w4 (by unfold am_wd; rw [if_neg (by omega), if_neg (by omega), if_neg (by omega), if_neg (by omega)])
          · rw [if_neg (fun q => h16 ((nI_le' (by omega) (by omega) 16 (by decide +kernel)).mp q))]
            exact key w3 (by unfold am_wd; rw [if_neg (by omega), if_neg (by omega), if_neg (by omega), if_pos (by omega)])
        · rw [if_neg (fun q => h12 ((nI_le' (by omega) (by omega) 12 (by decide +kernel)).mp q))]
          exact key w2 (by unfold am_wd; rw [if_neg (by omega), if_neg (by omega), if_pos (by omega)])
      · rw [if_neg (fun q => h8 ((nI_le' (by omega) (by omega) 8 (by decide +kernel)).mp q))]
        exact key w1 (by unfold am_wd; rw [if_neg (by omega), if_pos (by omega)])
    · rw [if_neg (fun q => h4 ((nI_le' (by omega) (by omega) 4 (by decide +kernel)).mp q))]
      exact key w0 (by unfold am_wd; rw [if_pos (by omega)])
/-- the twenty bytes -/
def am_20 (w0 w1 w2 w3 w4 : Int32) : List Nat := am_wb w0 ++ (am_wb w1 ++ (am_wb w2 ++ (am_wb w3 ++ am_wb w4)))
theorem am_20_ok {w0 w1 w2 w3 w4 : Int32} : (List.range' 0 20).map (fun k => am_by (am_wd w0 w1 w2 w3 w4 k) (k % 4)) = am_20 w0 w1 w2 w3 w4 := rfl
theorem cab_ok {σ : ja_S} {w0 w1 w2 w3 w4 : Int32} {len : Nat} (hl : len + 20 ≤ 900) (h : σ.1 1 6 = nI len) : f_Frame_appendBytes 0 w0 w1 w2 w3 w4 σ = some (nI (len + 20), am_apl 1 6 2 (am_20 w0 w1 w2 w3 w4) len σ) := by
  have n1 := fun (w : Int32) (len : Nat) (σ : ja_S) (h : σ.1 1 6 = nI len) => apl_n (k := 1) (kj := 6) (row := 2) (by omega) (am_wb w) len σ h
  unfold f_Frame_appendBytes am_20
  rw [show ja_q 0 2 = 1 from rfl, h, show (20 : Int32) = nI 20 by decide +kernel, nI_add, show (900 : Int32) = nI 900 by decide +kernel, if_pos ((nI_leI (by omega) (by omega)).mpr hl)]
  rw [aw_ok (by omega) h, Option.bind_some, aw_ok (len := len + 4) (by omega) (n1 _ _ _ h), Option.bind_some, aw_ok (len := len + 4 + 4) (by omega) (n1 _ _ _ (n1 _ _ _ h)), Option.bind_some, aw_ok (len := len + 4 + 4 + 4) (by omega) (n1 _ _ _ (n1 _ _ _ (n1 _ _ _ h))), Option.bind_some, aw_ok (len := len + 4 + 4 + 4 + 4) (by omega) (n1 _ _ _ (n1 _ _ _ (n1 _ _ _ (n1 _ _ _ h)))), Option.bind_some, apl_cat, apl_cat, apl_cat, apl_cat]
  refine congrArg some (Prod.ext ?_ rfl)
  exact n1 w4 _ _ (n1 w3 _ _ (n1 w2 _ _ (n1 w1 _ _ (n1 w0 _ _ h))))
