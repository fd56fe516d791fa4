/-! appendBytes: bytes behind one another, on both sides -/
/-- bytes put from place len on into a row, the count kept at (k, kj) -/
def am_apl (k kj row : Nat) : List Nat → Nat → ja_S → ja_S
  | [], _, σ => σ
  | b :: bs, len, σ => am_apl k kj row bs (len + 1) (ja_si (ja_si σ row len (nI b)) k kj (nI (len + 1)))
theorem apl_cat {k kj row : Nat} : ∀ (xs ys : List Nat) (len : Nat) (σ : ja_S), am_apl k kj row (xs ++ ys) len σ = am_apl k kj row ys (len + xs.length) (am_apl k kj row xs len σ)
  | [], ys, len, σ => rfl
  | x :: xs, ys, len, σ => by
    show am_apl k kj row (xs ++ ys) (len + 1) _ = am_apl k kj row ys (len + (xs.length + 1)) (am_apl k kj row xs (len + 1) _)
    rw [apl_cat xs ys, show len + 1 + xs.length = len + (xs.length + 1) by omega]
theorem apl_n {k kj row : Nat} (hk : k ≠ row) : ∀ (bs : List Nat) (len : Nat) (σ : ja_S), σ.1 k kj = nI len → (am_apl k kj row bs len σ).1 k kj = nI (len + bs.length)
  | [], len, σ, h => h
  | b :: bs, len, σ, h => by
    show (am_apl k kj row bs (len + 1) _).1 k kj = nI (len + (bs.length + 1))
    rw [apl_n hk bs (len + 1) _ (by rw [si_at, if_pos ⟨rfl, rfl⟩]), show len + 1 + bs.length = len + (bs.length + 1) by omega]
theorem apl_at {k kj row : Nat} (hk : k ≠ row) : ∀ (bs : List Nat) (len : Nat) (σ : ja_S) (i : Nat), (am_apl k kj row bs len σ).1 row i = if len ≤ i ∧ i < len + bs.length then nI (bs.getD (i - len) 0) else σ.1 row i
  | [], len, σ, i => by
    rw [if_neg (by simp only [List.length_nil]; omega)]
    rfl
  | b :: bs, len, σ, i => by
    show (am_apl k kj row bs (len + 1) (ja_si (ja_si σ row len (nI b)) k kj (nI (len + 1)))).1 row i = _
    rw [apl_at hk bs, si_row (Ne.symm hk), si_at, List.length_cons]
    by_cases h1 : i = len
    · rw [if_neg (show ¬ (len + 1 ≤ i ∧ i < len + 1 + bs.length) by omega), if_pos (show row = row ∧ i = len from ⟨rfl, h1⟩), if_pos (show len ≤ i ∧ i < len + (bs.length + 1) by omega), h1, Nat.sub_self]
      rfl
    · by_cases h2 : len + 1 ≤ i ∧ i < len + 1 + bs.length
      · rw [if_pos h2, if_pos (show len ≤ i ∧ i < len + (bs.length + 1) by omega), show i - len = (i - (len + 1)) + 1 by omega]
        rfl
      · rw [if_neg h2, if_neg (fun q => h1 q.2), if_neg (show ¬ (len ≤ i ∧ i < len + (bs.length + 1)) by omega)]
theorem apl_row {k kj row : Nat} : ∀ (bs : List Nat) (len : Nat) (σ : ja_S) (c : Nat), c ≠ k → c ≠ row → (am_apl k kj row bs len σ).1 c = σ.1 c
  | [], _, _, _, _, _ => rfl
  | b :: bs, len, σ, c, h1, h2 => by
    show (am_apl k kj row bs (len + 1) _).1 c = _
    rw [apl_row bs _ _ c h1 h2, si_row h1, si_row h2]
theorem apl_fld {k kj row : Nat} (hk : k ≠ row) : ∀ (bs : List Nat) (len : Nat) (σ : ja_S) (j : Nat), j ≠ kj → (am_apl k kj row bs len σ).1 k j = σ.1 k j
  | [], _, _, _, _ => rfl
  | b :: bs, len, σ, j, h1 => by
    show (am_apl k kj row bs (len + 1) _).1 k j = _
    rw [apl_fld hk bs _ _ j h1, si_at, if_neg (fun q => h1 q.2), si_row hk]
theorem apl_l {k kj row : Nat} : ∀ (bs : List Nat) (len : Nat) (σ : ja_S), (am_apl k kj row bs len σ).2 = σ.2
  | [], _, _ => rfl
  | b :: bs, len, σ => by
    show (am_apl k kj row bs (len + 1) _).2 = _
    rw [apl_l bs]
    rfl
/-- the bytes of a word -/
def am_wb (w : Int32) : List Nat := [am_by w 0, am_by w 1, am_by w 2, am_by w 3]
theorem aw_step {σ : ja_S} {w : Int32} {n sh len : Nat} (hsh : sh < 32) (hl : len < 900) (h : σ.1 1 6 = nI len) : f_SheetParser_append_L3 (n + 1) 1 w (nI sh) σ = f_SheetParser_append_L3 n 1 w (nI sh + (-8)) (ja_si (ja_si σ 2 len (nI (w.toBitVec.toNat / 2 ^ sh % 256))) 1 6 (nI (len + 1))) := by
  rw [f_SheetParser_append_L3, if_neg (nI_pos (by omega)), h, show (900 : Int32) = nI 900 by decide +kernel, if_neg (nI_ge hl (by omega)), show ja_q 1 2 = 2 from rfl, ub_ok w sh hsh, st0' (N := 900) rfl hl (by omega), Option.bind_some]
  unfold ja_pu
  rw [Option.bind_some, si_row (by omega), h, nI_1]
theorem aw_ok {σ : ja_S} {w : Int32} {len : Nat} (hl : len + 4 ≤ 900) (h : σ.1 1 6 = nI len) : f_SheetParser_append 1 w σ = some (am_apl 1 6 2 (am_wb w) len σ) := by
  unfold f_SheetParser_append
  rw [show ja_FU = 9999 + 1 from rfl, show (24 : Int32) = nI 24 by decide +kernel, aw_step (by omega) (by omega) h, show nI 24 + (-8) = nI 16 by decide +kernel, show (9999 : Nat) = 9998 + 1 from rfl, aw_step (len := len + 1) (by omega) (by omega) (by rw [si_at, if_pos ⟨rfl, rfl⟩]), show nI 16 + (-8) = nI 8 by decide +kernel, show (9998 : Nat) = 9997 + 1 from rfl, aw_step (len := len + 1 + 1) (by omega) (by omega) (by rw [si_at, if_pos ⟨rfl, rfl⟩]), show nI 8 + (-8) = nI 0 by decide +kernel, show (9997 : Nat) = 9996 + 1 from rfl, aw_step (len := len + 1 + 1 + 1) (by omega) (by omega) (by rw [si_at, if_pos ⟨rfl, rfl⟩]), show (9996 : Nat) = 9995 + 1 from rfl, f_SheetParser_append_L3, if_pos (show nI 0 + (-8) < 0 by decide +kernel)]
  rfl
theorem ab_step {σ : ja_S} {w0 w1 w2 w3 w4 y : Int32} {n k len : Nat} (hk : k < 20) (hl : len < 900) (h : σ.1 45 11 = nI len) : f_Model_appendBytes_B77 (f_Model_appendBytes_L24 n) 45 w0 w1 w2 w3 w4 (nI k) y σ = f_Model_appendBytes_L24 n 45 w0 w1 w2 w3 w4 (nI (k + 1)) (ja_si (ja_si σ 51 len (nI (am_by y (k % 4)))) 45 11 (nI (len + 1))) := by
  unfold f_Model_appendBytes_B77
  rw [h, show (4 : Int32) = nI 4 by decide +kernel, pk_rem (by omega) (by omega) (by omega), show (8 : Int32) = nI 8 by decide +kernel, pk_mul, show (24 : Int32) = nI 24 by decide +kernel, pk_sub (by omega), sb_ok' y _ (by omega), show ja_q 45 10 = 51 from rfl, st0' (N := 900) rfl hl (by omega), Option.bind_some]
  unfold ja_pu
  rw [Option.bind_some, si_row (by omega), h, nI_1, nI_1]
  rfl
