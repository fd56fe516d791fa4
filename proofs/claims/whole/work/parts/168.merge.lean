/-! merging levers: the class -/
def sh_ok (σ : ja_S) (k N g : Nat) (rs : List am_R) (ro : List Nat) (cf : List (Nat × Nat)) : Prop := σ.1 k 0 = nI N ∧ σ.1 k 1 = nI g ∧ sh_r σ k rs ∧ sh_w σ k ro cf
theorem sh_ok_fr {σ σ' : ja_S} {k N g : Nat} {rs : List am_R} {ro : List Nat} {cf : List (Nat × Nat)} (h : sh_ok σ k N g rs ro cf) (hc : ∀ c, k ≤ c → c ≤ k + 4 → σ'.1 c = σ.1 c) : sh_ok σ' k N g rs ro cf := by
  unfold sh_ok sh_r sh_w at h ⊢
  rw [hc k (by omega) (by omega), hc (k + 1) (by omega) (by omega), hc (k + 2) (by omega) (by omega), hc (k + 3) (by omega) (by omega), hc (k + 4) (by omega) (by omega)]
  exact h
/-- only one sheet has changed -/
def fr_h (k : Nat) (σ σ' : ja_S) : Prop := (∀ c j, (c < k ∨ k + 4 < c) → σ'.1 c j = σ.1 c j) ∧ σ'.2 = σ.2
theorem fr_h_tr {k : Nat} {a b c : ja_S} (h1 : fr_h k a b) (h2 : fr_h k b c) : fr_h k a c := ⟨fun x j h => (h2.1 x j h).trans (h1.1 x j h), h2.2.trans h1.2⟩
theorem fr_h_rf {k : Nat} {σ : ja_S} : fr_h k σ σ := ⟨fun _ _ _ => rfl, rfl⟩
theorem cpi_ok {σ : ja_S} {a b N : Nat} {v : Int32} (ha : ja_shl.getD a (0, 0) = (0, N)) (hb : ja_shl.getD b (0, 0) = (0, N)) (hv : v = nI N) (hN : N < 2 ^ 31) : ∃ σ', ja_cpi ja_L0 σ a 0 b 0 v = some σ' ∧ (∀ j, j < N → σ'.1 b j = σ.1 a j) ∧ (∀ c j, c ≠ b → σ'.1 c j = σ.1 c j) ∧ σ'.2 = σ.2 := by
  unfold ja_cpi
  rw [L0_len ha, L0_len hb, hv, nI_toInt hN, Int32.toInt_zero, if_pos (by omega)]
  refine ⟨_, rfl, fun j hj => ?_, fun c j hc => ?_, rfl⟩
  · show va_up σ.1 b (va_cpy (σ.1 a) (σ.1 b) 0 0 N) b j = _
    rw [va_up_self, pk_cpy_in (by omega) (by omega), show 0 + (j - 0) = j by omega]
  · show va_up σ.1 b (va_cpy (σ.1 a) (σ.1 b) 0 0 N) c j = _
    rw [va_up_ne _ _ hc]
theorem shcopy_ok {σ : ja_S} {x y N g : Nat} {rs : List am_R} {ro : List Nat} {cf : List (Nat × Nat)} (hx : sh_k x) (hy : sh_k y) (hxy : x ≠ y) (h : sh_ok σ y N g rs ro cf) : ∃ σ', f_Sheet_copyFrom x y σ = some σ' ∧ sh_ok σ' x N g rs ro cf ∧ fr_h x σ σ' := by
  have hd : x + 4 < y ∨ y + 4 < x := by
    rcases hx with rfl | rfl | rfl | rfl <;> rcases hy with rfl | rfl | rfl | rfl <;> omega
  obtain ⟨x1, x2, x3, x4, x5, x6, x7, x8⟩ := sh_q hx
  obtain ⟨y1, y2, y3, y4, y5, y6, y7, y8⟩ := sh_q hy
  obtain ⟨h0, h1, ⟨r1, r2, r3, r4⟩, w1, w2, w3, w4, w5, w6, w7, w8, w9⟩ := h
  have hrow : ∀ (τ : ja_S) (j : Nat) (v : Int32), (ja_si τ x j v).1 y = τ.1 y := fun _ _ _ => si_row (by omega)
  obtain ⟨σ0, hσ0⟩ : ∃ τ : ja_S, τ = ja_si (ja_si (ja_si (ja_si (ja_si σ x 0 (σ.1 y 0)) x 1 (σ.1 y 1)) x 3 (σ.1 y 3)) x 5 (σ.1 y 5)) x 8 (σ.1 y 8) := ⟨_, rfl⟩
  have f0 : ∀ c j, c ≠ x → σ0.1 c j = σ.1 c j := fun c j hc => by rw [hσ0, si_row hc, si_row hc, si_row hc, si_row hc, si_row hc]
  have v0 : σ0.1 x 0 = σ.1 y 0 := by rw [hσ0, si_at, if_neg (by omega), si_at, if_neg (by omega), si_at, if_neg (by omega), si_at, if_neg (by omega), si_at, if_pos ⟨rfl, rfl⟩]
  have v1 : σ0.1 x 1 = σ.1 y 1 := by rw [hσ0, si_at, if_neg (by omega), si_at, if_neg (by omega), si_at, if_neg (by omega), si_at, if_pos ⟨rfl, rfl⟩]
  have v3 : σ0.1 x 3 = σ.1 y 3 := by rw [hσ0, si_at, if_neg (by omega), si_at, if_neg (by omega), si_at, if_pos ⟨rfl, rfl⟩]
  have v5 : σ0.1 x 5 = σ.1 y 5 := by rw [hσ0, si_at, if_neg (by omega), si_at, if_pos ⟨rfl, rfl⟩]
  have v8 : σ0.1 x 8 = σ.1 y 8 := by rw [hσ0, si_at, if_pos ⟨rfl, rfl⟩]
  have l0 : σ0.2 = σ.2 := by rw [hσ0]; rfl
  obtain ⟨σ1, a1, a2, a3, a4⟩ := cpi_ok (σ := σ0) (v := 24) y5 x5 (by decide +kernel) (by omega)
  obtain ⟨σ2, b1, b2, b3, b4⟩ := cpi_ok (σ := σ1) (v := 8) y6 x6 (by decide +kernel) (by omega)
  obtain ⟨σ3, c1, c2, c3, c4⟩ := cpi_ok (σ := σ2) (v := 8) y7 x7 (by decide +kernel) (by omega)
  obtain ⟨σ4, d1, d2, d3, d4⟩ := cpi_ok (σ := σ3) (v := 8) y8 x8 (by decide +kernel) (by omega)
  have hx0 : ∀ j, σ4.1 x j = σ0.1 x j := fun j => by rw [d3 x j (by omega), c3 x j (by omega), b3 x j (by omega), a3 x j (by omega)]
  refine ⟨σ4, ?_, ⟨?_, ?_, ⟨?_, ?_, r3, r4⟩, ?_, ?_, w3, w4, ?_, ?_, ?_, w8, w9⟩, ?_, ?_⟩
  · unfold f_Sheet_copyFrom ja_pu
    simp only [Option.bind_some, hrow]
    rw [← hσ0, x1, x2, x3, x4, y1, y2, y3, y4, a1, Option.bind_some, b1, Option.bind_some, c1, Option.bind_some, d1, Option.bind_some]
  · rw [hx0, v0]; exact h0
  · rw [hx0, v1]; exact h1
  · rw [hx0, v3]; exact r1
  · intro i hi
    rw [d3 _ i (by omega), c3 _ i (by omega), b3 _ i (by omega), a2 i (by omega), f0 _ i (by omega)]
    exact r2 i hi
  · rw [hx0, v5]; exact w1
  · intro i hi
    rw [d3 _ i (by omega), c3 _ i (by omega), b2 i (by omega), a3 _ i (by omega), f0 _ i (by omega)]
    exact w2 i hi
  · rw [hx0, v8]; exact w5
  · intro i hi
    have hi' := hi
    rw [List.length_map] at hi'
    rw [d3 _ i (by omega), c2 i (by omega), b3 _ i (by omega), a3 _ i (by omega), f0 _ i (by omega)]
    exact w6 i hi
  · intro i hi
    have hi' := hi
    rw [List.length_map] at hi'
    rw [d2 i (by omega), c3 _ i (by omega), b3 _ i (by omega), a3 _ i (by omega), f0 _ i (by omega)]
    exact w7 i hi
  · intro c j hc
    rw [d3 c j (by omega), c3 c j (by omega), b3 c j (by omega), a3 c j (by omega), f0 c j (by omega)]
  · rw [d4, c4, b4, a4, l0]
/-! a lever is replaced -/
theorem mr_rb {a b : Nat} {r : am_R} (h : am_rb r) (ha : a < 12) : am_rb (am_mr a b r) := by
  obtain ⟨h1, h2, h3, h4⟩ := h
  unfold am_rb am_mr am_ml
  dsimp only
  refine ⟨h1, ?_, ?_, ?_⟩
  · split <;> omega
  · split <;> omega
  · split
    · omega
    · split <;> omega
theorem wlr_ok {a b : Nat} {r : am_R} {σ : ja_S} (h : am_rb r) (ha : a < 12) (hb : b < 12) : f_Rule_withLeverReplaced (nI (am_pk r)) (nI b) (nI a) σ = some (nI (am_pk (am_mr a b r)), σ) := by
  have h16 := am_rb16 h
  have h2 := mr_rb (b := b) h ha
  have hp := pack_ok (σ := σ) (am_rb16 h2)
  obtain ⟨r1, r2, r3, r4⟩ := id h
  have b64 : ∀ (x y c : Int32), x = nI (am_mr a b r).2.1 → y = nI (am_mr a b r).2.2.1 → c = am_cd (am_mr a b r).2.2.2 → f_Rule_withLeverReplaced_B64 (nI (am_pk r)) x y c σ = some (nI (am_pk (am_mr a b r)), σ) := by
    intro x y c hx hy hc
    unfold f_Rule_withLeverReplaced_B64
    rw [rk_ok h16, Option.bind_some, hx, hy, hc]
    have hp' : f_Rule_pack (nI r.1) (nI (am_mr a b r).2.1) (nI (am_mr a b r).2.2.1) (am_cd (am_mr a b r).2.2.2) σ = some (nI (am_pk (am_mr a b r)), σ) := hp
    rw [hp', Option.bind_some]
  have b33 : ∀ (x y : Int32), x = nI (am_mr a b r).2.1 → y = nI (am_mr a b r).2.2.1 → f_Rule_withLeverReplaced_B33 (nI (am_pk r)) (nI b) (nI a) x y σ = some (nI (am_pk (am_mr a b r)), σ) := by
    intro x y hx hy
    unfold f_Rule_withLeverReplaced_B33
    rw [rcd_ok h16, Option.bind_some]
    have ec : (am_mr a b r).2.2.2 = if r.2.2.2 = 0 then 0 else 2 * am_ml a b ((r.2.2.2 - 1) / 2) + (r.2.2.2 - 1) % 2 + 1 := rfl
    by_cases hc : r.2.2.2 = 0
    · rw [if_pos ((cd_neg r4).mpr hc)]
      exact b64 _ _ _ hx hy (by rw [ec, if_pos hc, hc])
    · rw [if_neg (fun z => hc ((cd_neg r4).mp z)), cd_pos hc, nI_half (by omega)]
      by_cases hcb : (r.2.2.2 - 1) / 2 = b
      · rw [if_pos (by rw [hcb])]
        refine b64 _ _ _ hx hy ?_
        rw [ec, if_neg hc, cd_pos (by omega), nI_odd, show (2 : Int32) = nI 2 by decide +kernel, pk_mul, nI_add]
        unfold am_ml
        rw [if_pos hcb]
        rfl
      · rw [if_neg (nI_ne hcb (by omega) (by omega))]
        refine b64 _ _ _ hx hy ?_
        rw [ec, if_neg hc, cd_pos (by omega)]
        unfold am_ml
        rw [if_neg hcb, show 2 * ((r.2.2.2 - 1) / 2) + (r.2.2.2 - 1) % 2 + 1 - 1 = r.2.2.2 - 1 by omega]
  have b16 : ∀ (x : Int32), x = nI (am_mr a b r).2.1 → f_Rule_withLeverReplaced_B16 (nI (am_pk r)) (nI b) (nI a) x σ = some (nI (am_pk (am_mr a b r)), σ) := by
    intro x hx
    have eb : (am_mr a b r).2.2.1 = am_ml a b r.2.2.1 := rfl
    unfold f_Rule_withLeverReplaced_B16
    rw [rlb_ok h16, Option.bind_some]
    by_cases hbb : r.2.2.1 = b
    · rw [if_pos (by rw [hbb])]
      exact b33 _ _ hx (by rw [eb]; unfold am_ml; rw [if_pos hbb])
    · rw [if_neg (nI_ne hbb (by omega) (by omega)), rlb_ok h16, Option.bind_some]
      exact b33 _ _ hx (by rw [eb]; unfold am_ml; rw [if_neg hbb])
  have ea : (am_mr a b r).2.1 = am_ml a b r.2.1 := rfl
  unfold f_Rule_withLeverReplaced
  rw [ra_ok h16, Option.bind_some]
  by_cases hab : r.2.1 = b
  · rw [if_pos (by rw [hab])]
    exact b16 _ (by rw [ea]; unfold am_ml; rw [if_pos hab])
  · rw [if_neg (nI_ne hab (by omega) (by omega)), ra_ok h16, Option.bind_some]
    exact b16 _ (by rw [ea]; unfold am_ml; rw [if_neg hab])
theorem mw_lt {a b w : Nat} (hw : w < 4096) (ha : a < 12) : am_mw a b w < 4096 := by
  unfold am_mw
  split
  · exact Nat.or_lt_two_pow (n := 12) (Nat.lt_of_le_of_lt an_not_le hw) (Nat.pow_lt_pow_right (by omega) ha)
  · exact hw
section ML
variable {k a b : Nat} {rs : List am_R} {ro : List Nat}
theorem ml_L47 (hk : sh_k k) (ha : a < 12) (hb : b < 12) (h8 : ro.length ≤ 8) (hro : ∀ w ∈ ro, w < 4096) : ∀ (n i : Nat) (σ : ja_S), i ≤ ro.length → ro.length - i < n → σ.1 k 5 = nI ro.length → (∀ j, i ≤ j → j < ro.length → σ.1 (k + 2) j = nI (ro.getD j 0)) → ∃ σ', f_Sheet_mergeLever_L47 n k (nI b) (nI a) (nI i) σ = some σ' ∧ (∀ c j, c ≠ k + 2 → σ'.1 c j = σ.1 c j) ∧ σ'.2 = σ.2 ∧ ∀ j, σ'.1 (k + 2) j = if i ≤ j ∧ j < ro.length then nI (am_mw a b (ro.getD j 0)) else σ.1 (k + 2) j := by
  intro n
  induction n with
  | zero => intro i σ _ h; omega
  | succ n ih =>
    intro i σ hi hn h5 hrow
    rw [f_Sheet_mergeLever_L47, h5, (sh_q hk).2.1]
    by_cases h : i = ro.length
    · rw [h, if_pos (nI_le (Nat.le_refl _) (by omega))]
      refine ⟨σ, rfl, fun _ _ _ => rfl, rfl, fun j => ?_⟩
      rw [if_neg (by omega)]
    · have hlt := getD_lt hro (i := i) (by omega)
      rw [if_neg (nI_ge (by omega) (by omega)), ld0 (sh_q hk).2.2.2.2.2.1 (by omega) (by omega), Option.bind_some, hrow i (by omega) (by omega), nI_1]
      have em : am_mw a b (ro.getD i 0) = if (ro.getD i 0).testBit b = true then an_not (ro.getD i 0) (2 ^ b) ||| 2 ^ a else ro.getD i 0 := rfl
      by_cases hc : (ro.getD i 0).testBit b = true
      · rw [if_pos ((nI_bit32 (by omega)).mpr hc), Option.bind_some, nI_pow (by omega), nI_pow (by omega), nI_an, nI_or, st0' (sh_q hk).2.2.2.2.2.1 (by omega) (by omega), Option.bind_some]
        rw [if_pos hc] at em
        obtain ⟨σ', e1, e2, e3, e4⟩ := ih (i + 1) (ja_si σ (k + 2) i (nI (an_not (ro.getD i 0) (2 ^ b) ||| 2 ^ a))) (by omega) (by omega) (by rw [si_at, if_neg (by omega)]; exact h5) (fun j h1 h2 => by rw [si_at, if_neg (by omega)]; exact hrow j (by omega) h2)
        refine ⟨σ', e1, fun c j hc2 => ?_, e3, fun j => ?_⟩
        · rw [e2 c j hc2, si_at, if_neg (by omega)]
        · rw [e4 j, si_at]
          by_cases hj : j = i
          · rw [if_neg (by omega), if_pos ⟨rfl, hj⟩, if_pos (by omega), hj, em]
          · have hj2 : ¬ (k + 2 = k + 2 ∧ j = i) := fun z => hj z.2
            by_cases hc3 : i + 1 ≤ j ∧ j < ro.length
            · rw [if_pos hc3, if_pos (by omega)]
            · rw [if_neg hc3, if_neg hj2, if_neg (by omega)]
      · rw [if_neg (fun z => hc ((nI_bit32 (by omega)).mp z))]
        rw [if_neg hc] at em
        obtain ⟨σ', e1, e2, e3, e4⟩ := ih (i + 1) σ (by omega) (by omega) h5 (fun j h1 h2 => hrow j (by omega) h2)
        refine ⟨σ', e1, e2, e3, fun j => ?_⟩
        rw [e4 j]
        by_cases hj : j = i
        · rw [if_neg (by omega), if_pos (by omega), hj, em]
          exact hrow i (by omega) (by omega)
        · by_cases hc3 : i + 1 ≤ j ∧ j < ro.length
          · rw [if_pos hc3, if_pos (by omega)]
          · rw [if_neg hc3, if_neg (by omega)]
theorem ml_L14 (hk : sh_k k) (ha : a < 12) (hb : b < 12) (h24 : rs.length ≤ 24) (hrb : ∀ r ∈ rs, am_rb r) : ∀ (n i : Nat) (σ : ja_S), i ≤ rs.length → rs.length - i < n → σ.1 k 3 = nI rs.length → (∀ j, i ≤ j → j < rs.length → σ.1 (k + 1) j = nI (am_pk (am_rd rs j))) → ∃ σ', f_Sheet_mergeLever_L14 n k (nI b) (nI a) (nI i) σ = f_Sheet_mergeLever_L47 ja_FU k (nI b) (nI a) 0 σ' ∧ (∀ c j, c ≠ k + 1 → σ'.1 c j = σ.1 c j) ∧ σ'.2 = σ.2 ∧ ∀ j, σ'.1 (k + 1) j = if i ≤ j ∧ j < rs.length then nI (am_pk (am_mr a b (am_rd rs j))) else σ.1 (k + 1) j := by
  intro n
  induction n with
  | zero => intro i σ _ h; omega
  | succ n ih =>
    intro i σ hi hn h3 hrow
    rw [f_Sheet_mergeLever_L14, h3, (sh_q hk).1]
    by_cases h : i = rs.length
    · rw [h, if_pos (nI_le (Nat.le_refl _) (by omega))]
      refine ⟨σ, rfl, fun _ _ _ => rfl, rfl, fun j => ?_⟩
      rw [if_neg (by omega)]
    · have hr := hrb _ (getD_mem (l := rs) (i := i) (d := (0, 0, 0, 0)) (by omega))
      have hw := wlr_ok (σ := σ) (r := am_rd rs i) hr ha hb
      rw [if_neg (nI_ge (by omega) (by omega)), ld0 (sh_q hk).2.2.2.2.1 (by omega) (by omega), Option.bind_some, hrow i (by omega) (by omega), hw, Option.bind_some, st0' (sh_q hk).2.2.2.2.1 (by omega) (by omega), Option.bind_some, nI_1]
      obtain ⟨σ', e1, e2, e3, e4⟩ := ih (i + 1) (ja_si σ (k + 1) i (nI (am_pk (am_mr a b (am_rd rs i))))) (by omega) (by omega) (by rw [si_at, if_neg (by omega)]; exact h3) (fun j h1 h2 => by rw [si_at, if_neg (by omega)]; exact hrow j (by omega) h2)
      refine ⟨σ', e1, fun c j hc2 => ?_, e3, fun j => ?_⟩
      · rw [e2 c j hc2, si_at, if_neg (by omega)]
      · rw [e4 j, si_at]
        by_cases hj : j = i
        · rw [if_neg (by omega), if_pos ⟨rfl, hj⟩, if_pos (by omega), hj]
        · have hj2 : ¬ (k + 1 = k + 1 ∧ j = i) := fun z => hj z.2
          by_cases hc3 : i + 1 ≤ j ∧ j < rs.length
          · rw [if_pos hc3, if_pos (by omega)]
          · rw [if_neg hc3, if_neg hj2, if_neg (by omega)]
theorem rd_map {f : am_R → am_R} {i : Nat} (h : i < rs.length) : am_rd (rs.map f) i = f (am_rd rs i) := getD_map h
theorem merge_ok {σ : ja_S} {N g : Nat} {cf : List (Nat × Nat)} (hk : sh_k k) (ha : a < 12) (hb : b < 12) (h : sh_ok σ k N g rs ro cf) : ∃ σ', f_Sheet_mergeLever k (nI b) (nI a) σ = some σ' ∧ sh_ok σ' k N (g ||| 2 ^ b) (rs.map (am_mr a b)) (ro.map (am_mw a b)) cf ∧ fr_h k σ σ' := by
  obtain ⟨h0, h1, ⟨r1, r2, r3, r4⟩, w1, w2, w3, w4, w5, w6, w7, w8, w9⟩ := h
  obtain ⟨σ1, e1, e2, e3, e4⟩ := ml_L14 (a := a) (b := b) hk ha hb r3 r4 ja_FU 0 (ja_si σ k 1 (nI (g ||| 2 ^ b))) (by omega) (by unfold ja_FU; omega) (by rw [si_at, if_neg (by omega)]; exact r1) (fun j _ h2 => by rw [si_at, if_neg (by omega)]; exact r2 j h2)
  obtain ⟨σ2, g1, g2, g3, g4⟩ := ml_L47 (a := a) (b := b) hk ha hb w3 w4 ja_FU 0 σ1 (by omega) (by unfold ja_FU; omega) (by rw [e2 k 5 (by omega), si_at, if_neg (by omega)]; exact w1) (fun j _ h2 => by rw [e2 (k + 2) j (by omega), si_at, if_neg (by omega)]; exact w2 j h2)
  have hg : ∀ c j, c ≠ k + 1 → c ≠ k + 2 → ¬ (c = k ∧ j = 1) → σ2.1 c j = σ.1 c j := fun c j x y z => by
    rw [g2 c j y, e2 c j x, si_at, if_neg z]
  have hgr : ∀ c, c ≠ k → c ≠ k + 1 → c ≠ k + 2 → σ2.1 c = σ.1 c := fun c x y z => funext fun j => hg c j y z (by omega)
  refine ⟨σ2, ?_, ⟨?_, ?_, ⟨?_, ?_, ?_, ?_⟩, ?_, ?_, ?_, ?_, ?_, ?_, ?_, w8, ?_⟩, fun c j hc => hg c j (by omega) (by omega) (by omega), g3.trans e3⟩
  · unfold f_Sheet_mergeLever ja_pu
    rw [Option.bind_some, h1, nI_pow (by omega), nI_or]
    rw [← am_z] at e1 g1
    rw [e1, g1]
  · rw [hg k 0 (by omega) (by omega) (by omega)]; exact h0
  · rw [g2 k 1 (by omega), e2 k 1 (by omega), si_at, if_pos ⟨rfl, rfl⟩]
  · rw [hg k 3 (by omega) (by omega) (by omega), List.length_map]; exact r1
  · intro i hi
    rw [List.length_map] at hi
    rw [g2 (k + 1) i (by omega), e4 i, if_pos (by omega), rd_map hi]
  · rw [List.length_map]; exact r3
  · intro r hr
    obtain ⟨r', hr', rfl⟩ := List.mem_map.mp hr
    exact mr_rb (r4 r' hr') ha
  · rw [hg k 5 (by omega) (by omega) (by omega), List.length_map]; exact w1
  · intro i hi
    rw [List.length_map] at hi
    rw [g4 i, if_pos (by omega), getD_map (d := 0) hi]
  · rw [List.length_map]; exact w3
  · intro w hw
    obtain ⟨w', hw', rfl⟩ := List.mem_map.mp hw
    exact mw_lt (w4 w' hw') ha
  · rw [hg k 8 (by omega) (by omega) (by omega)]; exact w5
  · rw [hgr (k + 3) (by omega) (by omega) (by omega)]; exact w6
  · rw [hgr (k + 4) (by omega) (by omega) (by omega)]; exact w7
  · intro c hc
    rw [List.length_map]; exact w9 c hc
end ML
/-! an attempt -/
/-- only the merger and the trial have worked -/
def fr_g (σ σ' : ja_S) : Prop := (∀ k j, k ≠ 23 → k ≠ 27 → k ≠ 28 → (k < 34 ∨ 44 < k) → σ'.1 k j = σ.1 k j) ∧ ∀ k, k ≠ 25 → k ≠ 26 → σ'.2 k = σ.2 k
theorem fr_g_rf {σ : ja_S} : fr_g σ σ := ⟨fun _ _ _ _ _ _ => rfl, fun _ _ _ => rfl⟩
theorem fr_g_tr {a b c : ja_S} (h1 : fr_g a b) (h2 : fr_g b c) : fr_g a c := ⟨fun k j x y z u => (h2.1 k j x y z u).trans (h1.1 k j x y z u), fun k x y => (h2.2 k x y).trans (h1.2 k x y)⟩
theorem fr_g_cl {a b : ja_S} (h : fr_g a b) : fr_cl a b := fun k j hk => h.1 k j (by omega) (by omega) (by omega) (by omega)
theorem am_K_g {A : am_A} {σ σ' : ja_S} (h : am_K A σ) (hf : fr_g σ σ') (h4 : ∃ q, bs_ok σ' 23 q ∧ bq_ok q) : am_K A σ' := am_K_tr h (fun k j hk => hf.1 k j (by omega) (by omega) (by omega) (by omega)) (fun j _ => hf.1 0 j (by omega) (by omega) (by omega) (by omega)) ⟨hf.2 19 (by omega) (by omega), hf.2 20 (by omega) (by omega)⟩ h4
section AT
variable {A : am_A} {σ : ja_S} {N : Nat} {G : am_G} {cf : List (Nat × Nat)}
theorem attempt_ok (hK : am_K A σ) (hN : N ≤ 12) {a b : Nat} (ha : a < 12) (hb : b < 12) (h : sh_ok σ 35 N G.2.2 G.1 G.2.1 cf) : ∃ σ', f_Merger_attempt 34 23 (nI a) (nI b) σ = some σ' ∧ sh_ok σ' 40 N (am_mg a b G).2.2 (am_mg a b G).1 (am_mg a b G).2.1 cf ∧ sh_ok σ' 35 N G.2.2 G.1 G.2.1 cf ∧ bs_ok σ' 23 (am_gq N (am_mg a b G)) ∧ am_K A σ' ∧ fr_g σ σ' ∧ ∀ j, σ'.1 34 j = σ.1 34 j := by
  obtain ⟨σ1, c1, c2, c3⟩ := shcopy_ok (x := 40) (y := 35) (Or.inr (Or.inr (Or.inr rfl))) (Or.inr (Or.inr (Or.inl rfl))) (by omega) h
  obtain ⟨σ2, m1, m2, m3⟩ := merge_ok (k := 40) (Or.inr (Or.inr (Or.inr rfl))) ha hb c2
  have hf2 := fr_h_tr c3 m3
  obtain ⟨σ3, e1, e2, e3⟩ := enforceAll_ok (X := 24) (k := 40) (m := 2 ^ (G.1.map (am_mr a b)).length - 1) (Or.inr (Or.inl rfl)) (Or.inr (Or.inr (Or.inr rfl))) m2.2.2.1
  rw [sel_ones] at e2
  have hf3 : fr_g σ σ3 := by
    refine ⟨fun k j h1 h2 h3 h4 => ?_, fun k h1 h2 => ?_⟩
    · rw [e3.1, hf2.1 k j (by omega)]
    · rw [e3.2 k (by omega) (by omega), hf2.2]
  have hK3 : am_K A σ3 := by
    refine am_K_g hK hf3 ?_
    obtain ⟨q, hb, hq⟩ := hK.2.1
    exact ⟨q, bs_ok_fr hb (fun k hk => funext fun j => by rw [e3.1, hf2.1 k j (by omega)]), hq⟩
  obtain ⟨σ4, l1, l2, l3, l4, l5⟩ := trial_ok (s := 0) hK3 e2 (mv_lt (N := N) (g := G.2.2 ||| 2 ^ b) hN) (by omega)
  have d0 : σ3.1 40 0 = nI N := by rw [e3.1]; exact m2.1
  have d1 : σ3.1 40 1 = nI (G.2.2 ||| 2 ^ b) := by rw [e3.1]; exact m2.2.1
  have l1' : f_Search_explore 23 (0 : Int32) (nI (am_mv N (G.2.2 ||| 2 ^ b))) σ3 = some σ4 := by rw [am_z]; exact l1
  have hf4 : fr_g σ σ4 := by
    refine fr_g_tr hf3 ⟨fun k j h1 h2 h3 _ => l5 k j h1 h2 h3, fun k _ _ => by rw [l4]⟩
  refine ⟨σ4, ?_, sh_ok_fr m2 (fun c h1 h2 => funext fun j => by rw [l5 c j (by omega) (by omega) (by omega), e3.1]), sh_ok_fr h (fun c h1 h2 => funext fun j => by rw [l5 c j (by omega) (by omega) (by omega), e3.1, hf2.1 c j (by omega)]), l2, l3, hf4, fun j => by rw [l5 34 j (by omega) (by omega) (by omega), e3.1, hf2.1 34 j (by omega)]⟩
  unfold f_Merger_attempt
  rw [show ja_q 34 2 = 40 from rfl, show ja_q 34 1 = 35 from rfl, show ja_q 23 0 = 24 from rfl, c1, Option.bind_some, m1, Option.bind_some, allRules_ok m2.2.2.1.1 m2.2.2.1.2.2.1, Option.bind_some, e1, Option.bind_some, movable_ok d0 d1 hN, Option.bind_some, l1', Option.bind_some]
theorem keepsRC_ok {st op : Nat} (hst : st < 256) (hop : op < 256) (h : sh_ok σ 40 N G.2.2 G.1 G.2.1 cf) (hb : bs_ok σ 23 (am_gq N G)) (h3 : σ.1 34 3 = nI st) (h4 : σ.1 34 0 = nI op) : f_Merger_keepsRoutesAndConflicts 34 23 σ = some (am_bz (am_due N cf st op G), σ) := by
  have hokq : bq_ok (am_gq N G) := bq_all_ok (by omega)
  have hle1 := an_not_le (a := st) (b := am_st (am_gq N G) G.2.1)
  have hle2 := an_not_le (a := am_op (am_gq N G) G.2.1 cf) (b := op)
  have ho := op_lt (q := am_gq N G) (ro := G.2.1) h.2.2.2.2.2.2.2.2.2.2.1
  unfold f_Merger_keepsRoutesAndConflicts am_due
  rw [show ja_q 34 2 = 40 from rfl, settable_ok (Or.inr rfl) (Or.inr (Or.inr (Or.inr rfl))) hb hokq h.2.2.2, Option.bind_some, h3, nI_an]
  by_cases hc : an_not st (am_st (am_gq N G) G.2.1) = 0
  · rw [if_pos (by rw [hc]; exact am_z.symm), open_ok (Or.inr rfl) (Or.inr (Or.inr (Or.inr rfl))) hb hokq h.2.2.2, Option.bind_some, h4, nI_an, decide_eq_true hc, Bool.true_and]
    by_cases hc2 : an_not (am_op (am_gq N G) G.2.1 cf) op = 0
    · rw [if_pos (by rw [hc2]; exact am_z.symm), decide_eq_true hc2]
      rfl
    · rw [if_neg (nI_ne0' hc2 (by omega)), decide_eq_false hc2]
      rfl
  · rw [if_neg (nI_ne0' hc (by omega)), decide_eq_false hc]
    rfl
theorem begin_ok (hA : am_ok A) (hC : am_C A σ) (hK : am_K A σ) (hh : hm_ok A σ) : ∃ σ', f_Merger_begin 34 3 17 σ = some σ' ∧ sh_ok σ' 35 A.1 0 A.2.1 A.2.2.1 A.2.2.2.1 ∧ σ'.1 34 3 = nI (am_st (am_rl A) A.2.2.1) ∧ σ'.1 34 0 = nI (am_op (am_rl A) A.2.2.1 A.2.2.2.1) ∧ am_K A σ' ∧ fr_g σ σ' := by
  have h3 : sh_ok σ 3 A.1 0 A.2.1 A.2.2.1 A.2.2.2.1 := ⟨hC.2.2.2.2.1.1, hC.2.2.2.2.1.2.1, am_C_shr hA hC, am_C_shw hA hC⟩
  obtain ⟨σ1, c1, c2, c3⟩ := shcopy_ok (x := 35) (y := 3) (Or.inr (Or.inr (Or.inl rfl))) (Or.inl rfl) (by omega) h3
  have hs1 : sh_w σ1 3 A.2.2.1 A.2.2.2.1 := (sh_ok_fr h3 (fun c h1 h2 => funext fun j => c3.1 c j (by omega))).2.2.2
  have hb1 : bs_ok σ1 17 (am_rl A) := bs_ok_fr hh.1 (fun k hk => funext fun j => c3.1 k j (by omega))
  have hs2 : ∀ v : Int32, sh_w (ja_si σ1 34 3 v) 3 A.2.2.1 A.2.2.2.1 := fun v => by
    have h5 : sh_ok σ1 3 A.1 0 A.2.1 A.2.2.1 A.2.2.2.1 := sh_ok_fr h3 (fun c h1 h2 => funext fun j => c3.1 c j (by omega))
    exact (sh_ok_fr h5 (fun c h1 h2 => si_row (by omega))).2.2.2
  have hb2 : ∀ v : Int32, bs_ok (ja_si σ1 34 3 v) 17 (am_rl A) := fun v => bs_ok_fr hb1 (fun k hk => si_row (by omega))
  have hf : fr_g σ (ja_si (ja_si σ1 34 3 (nI (am_st (am_rl A) A.2.2.1))) 34 0 (nI (am_op (am_rl A) A.2.2.1 A.2.2.2.1))) := by
    refine ⟨fun k j h1 h2 h3 h4 => ?_, fun k h1 h2 => ?_⟩
    · rw [si_at, if_neg (by omega), si_at, if_neg (by omega), c3.1 k j (by omega)]
    · rw [si_l, si_l, c3.2]
  refine ⟨_, ?_, sh_ok_fr c2 (fun c h1 h2 => by rw [si_row (by omega), si_row (by omega)]), ?_, ?_, ?_, hf⟩
  · unfold f_Merger_begin ja_pu
    rw [show ja_q 34 1 = 35 from rfl, c1, Option.bind_some, settable_ok (Or.inl rfl) (Or.inl rfl) hb1 rl_ok hs1, Option.bind_some, Option.bind_some, open_ok (Or.inl rfl) (Or.inl rfl) (hb2 _) rl_ok (hs2 _), Option.bind_some, Option.bind_some]
  · rw [si_at, if_neg (by omega), si_at, if_pos ⟨rfl, rfl⟩]
  · rw [si_at, if_pos ⟨rfl, rfl⟩]
  · refine am_K_g hK hf ?_
    obtain ⟨q, hb, hq⟩ := hK.2.1
    refine ⟨q, bs_ok_fr hb (fun k hk => funext fun j => ?_), hq⟩
    rw [si_at, if_neg (by omega), si_at, if_neg (by omega), c3.1 k j (by omega)]
end AT
