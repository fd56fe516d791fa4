/-! what a call that changes the frame must show; appendBytes -/
def am_kp (σ σ2 : ja_S) : Prop := ∀ k j, (k = 29 ∨ (k = 0 ∧ (j = 8 ∨ j = 11 ∨ j = 1))) → σ2.1 k j = σ.1 k j
def am_sm (A A' : am_A) : Prop := A'.1 = A.1 ∧ A'.2.1 = A.2.1 ∧ A'.2.2.1 = A.2.2.1 ∧ A'.2.2.2.1 = A.2.2.2.1
def am_fg (σ : ja_S) : Prop := σ.1 0 8 = 0 ∧ σ.1 29 0 = 0 ∧ σ.1 0 11 = 0
def am_do (A : am_A) (n : Nat) (a : Nat → Int32) (σ : ja_S) : Prop := ∃ A' σ2, ja_case n a σ = some σ2 ∧ am_ok A' ∧ am_C A' σ2 ∧ am_M A' σ2 ∧ ((am_sm A A' ∧ am_kp σ σ2) ∨ am_fg σ2) ∧ ∀ k, 17 ≤ k → k < 45 → k ≠ 29 → σ2.1 k = σ.1 k ∧ σ2.2 k = σ.2 k
theorem am_ask_do {A : am_A} {n : Nat} {a : Nat → Int32} {σ : ja_S} (hA : am_ok A) (hC : am_C A σ) (h : am_ask A n a σ) : am_do A n a σ := by
  obtain ⟨σ2, h1, h2, h3⟩ := h
  exact ⟨A, σ2, h1, hA, am_C_ch hC (fun k hk => (h3 k hk).1), h2, Or.inl ⟨⟨rfl, rfl, rfl, rfl⟩, fun k j hj => by rw [(h3 k (by omega)).1]⟩, fun k _ hk _ => h3 k hk⟩
/-- the frame with another buffer -/
def am_buf (A : am_A) (b : List Nat) : am_A := (A.1, A.2.1, A.2.2.1, A.2.2.2.1, A.2.2.2.2.1, A.2.2.2.2.2.1, b, A.2.2.2.2.2.2.2.1, A.2.2.2.2.2.2.2.2)
theorem apl_rowok {k kj row : Nat} (hk : k ≠ row) {l bs : List Nat} {σ : ja_S} (h : am_row (σ.1 row) l) : am_row ((am_apl k kj row bs l.length σ).1 row) (l ++ bs) := by
  intro i hi
  rw [List.length_append] at hi
  rw [apl_at hk, List.getD_eq_getElem?_getD (l := l ++ bs)]
  by_cases h1 : l.length ≤ i
  · rw [if_pos ⟨h1, hi⟩, List.getElem?_append_right h1, List.getD_eq_getElem?_getD]
  · rw [if_neg (fun q => h1 q.1), List.getElem?_append_left (by omega), h i (by omega), List.getD_eq_getElem?_getD]
theorem am_C_app {A : am_A} {σ : ja_S} {bs : List Nat} (h : am_C A σ) : am_C (am_buf A (A.2.2.2.2.2.2.1 ++ bs)) (am_apl 1 6 2 bs A.2.2.2.2.2.2.1.length σ) := by
  obtain ⟨c1, c2, c3, c4, c5, c6, c7⟩ := h
  refine ⟨?_, apl_rowok (by omega) c2, ?_, ?_, ?_, ?_, ?_⟩
  · show _ = nI (A.2.2.2.2.2.2.1 ++ bs).length
    rw [apl_n (by omega) _ _ _ c1, List.length_append]
  · rw [apl_fld (by omega) _ _ _ 0 (by omega)]; exact c3
  · rw [apl_fld (by omega) _ _ _ 1 (by omega)]; exact c4
  · unfold am_sh at c5 ⊢
    rw [apl_row _ _ _ 3 (by omega) (by omega), apl_row _ _ _ (3 + 1) (by omega) (by omega), apl_row _ _ _ (3 + 2) (by omega) (by omega), apl_row _ _ _ (3 + 3) (by omega) (by omega), apl_row _ _ _ (3 + 4) (by omega) (by omega)]
    exact c5
  · rw [apl_row _ _ _ 0 (by omega) (by omega)]; exact c6
  · rw [apl_row _ _ _ 13 (by omega) (by omega), apl_row _ _ _ 14 (by omega) (by omega), apl_row _ _ _ 15 (by omega) (by omega), apl_row _ _ _ 16 (by omega) (by omega)]
    exact c7
theorem am_M_app {A : am_A} {σ : ja_S} {bs : List Nat} (h : am_M A σ) : am_M (am_buf A (A.2.2.2.2.2.2.1 ++ bs)) (am_apl 45 11 51 bs A.2.2.2.2.2.2.1.length σ) := by
  obtain ⟨m1, m2, m3, m4, m5, m6, m7, m8, m9, m10, m11, m12, m13, m14⟩ := h
  refine ⟨?_, ?_, ?_, ?_, ?_, ?_, ?_, ?_, ?_, ?_, apl_rowok (by omega) m11, ?_, ?_, ?_⟩
  · rw [apl_fld (by omega) _ _ _ 0 (by omega)]; exact m1
  · rw [apl_fld (by omega) _ _ _ 1 (by omega)]; exact m2
  · rw [apl_fld (by omega) _ _ _ 2 (by omega)]; exact m3
  · rw [apl_row _ _ _ 46 (by omega) (by omega)]; exact m4
  · rw [apl_fld (by omega) _ _ _ 8 (by omega)]; exact m5
  · rw [apl_row _ _ _ 47 (by omega) (by omega)]; exact m6
  · rw [apl_row _ _ _ 48 (by omega) (by omega)]; exact m7
  · rw [apl_row _ _ _ 49 (by omega) (by omega)]; exact m8
  · rw [apl_row _ _ _ 50 (by omega) (by omega)]; exact m9
  · show _ = nI (A.2.2.2.2.2.2.1 ++ bs).length
    rw [apl_n (by omega) _ _ _ m10, List.length_append]
  · rw [apl_fld (by omega) _ _ _ 14 (by omega)]; exact m12
  · rw [apl_fld (by omega) _ _ _ 15 (by omega)]; exact m13
  · rw [apl_fld (by omega) _ _ _ 36 (by omega)]; exact m14
theorem am_20_lt {w0 w1 w2 w3 w4 : Int32} : ∀ b ∈ am_20 w0 w1 w2 w3 w4, b < 256 := by
  intro b hb
  rw [← am_20_ok, List.mem_map] at hb
  obtain ⟨k, -, rfl⟩ := hb
  exact am_by_lt _ _
theorem case_0 {A : am_A} {a : Nat → Int32} {σ : ja_S} (hA : am_ok A) (hC : am_C A σ) (hM : am_M A σ) : am_do A 0 a σ := by
  have hb : A.2.2.2.2.2.2.1.length ≤ 900 := hA.2.2.2.2.2.2.2.2.2.2.2.1
  have c1 : σ.1 1 6 = nI A.2.2.2.2.2.2.1.length := hC.1
  have m1 : ∀ τ : ja_S, τ.1 45 = σ.1 45 → (ja_si τ 45 9 0).1 45 11 = nI A.2.2.2.2.2.2.1.length := fun τ ht => by
    rw [si_at, if_neg (by omega), ht]; exact hM.2.2.2.2.2.2.2.2.2.1
  by_cases hf : A.2.2.2.2.2.2.1.length + 20 ≤ 900
  · let bs := am_20 (a 1) (a 2) (a 3) (a 4) (a 5)
    have hx : (am_apl 1 6 2 bs A.2.2.2.2.2.2.1.length σ).1 45 = σ.1 45 := apl_row _ _ _ 45 (by omega) (by omega)
    have hM1 : am_M A (ja_si (am_apl 1 6 2 bs A.2.2.2.2.2.2.1.length σ) 45 9 0) := am_M_th (am_M_ch hM (fun k hk => apl_row _ _ _ k (by omega) (by omega)))
    have h2 := ab_L24 (w0 := a 1) (w1 := a 2) (w2 := a 3) (w3 := a 4) (w4 := a 5) 20 ja_FU 0 A.2.2.2.2.2.2.1.length (ja_si (am_apl 1 6 2 bs A.2.2.2.2.2.2.1.length σ) 45 9 0) rfl (by unfold ja_FU; omega) hf (m1 _ hx)
    rw [am_20_ok, ← am_z] at h2
    refine ⟨am_buf A (A.2.2.2.2.2.2.1 ++ bs), am_apl 45 11 51 bs A.2.2.2.2.2.2.1.length (ja_si (am_apl 1 6 2 bs A.2.2.2.2.2.2.1.length σ) 45 9 0), ?_, ?_, ?_, am_M_app hM1, Or.inl ⟨⟨rfl, rfl, rfl, rfl⟩, ?_⟩, ?_⟩
    · rw [jc_0, cab_ok hf c1, Option.bind_some]
      unfold f_Model_appendBytes ja_pu
      rw [Option.bind_some, m1 _ hx, show (20 : Int32) = nI 20 by decide +kernel, nI_add, show (900 : Int32) = nI 900 by decide +kernel, if_pos ((nI_leI (by omega) (by omega)).mpr hf), h2, Option.bind_some, if_pos rfl]
    · obtain ⟨a1, a2, a3, a4, a5, a6, a7, a8, a9, a10, a11, a12, a13, a14, a15⟩ := hA
      refine ⟨a1, a2, a3, a4, a5, a6, a7, a8, a9, a10, a11, ?_, ?_, ?_, a15⟩
      · show (A.2.2.2.2.2.2.1 ++ bs).length ≤ 900
        rw [List.length_append]; exact hf
      · show (A.2.2.2.2.2.2.1 ++ bs).length % 20 = 0
        rw [List.length_append, show bs.length = 20 from rfl]; omega
      · intro b hb
        rcases List.mem_append.mp hb with h | h
        · exact a14 b h
        · exact am_20_lt b h
    · refine am_C_ch (am_C_app (bs := bs) hC) (fun k hk => ?_)
      rw [apl_row _ _ _ k (by omega) (by omega), si_row (by omega)]
    · intro k j hj
      rw [apl_row _ _ _ k (by omega) (by omega), si_row (by omega), apl_row _ _ _ k (by omega) (by omega)]
    · intro k hk1 hk2 _
      rw [apl_row _ _ _ k (by omega) (by omega), si_row (by omega), apl_row _ _ _ k (by omega) (by omega), apl_l, si_l, apl_l]
      exact ⟨rfl, rfl⟩
  · refine am_ask_do hA hC (am_asked hM ?_)
    rw [jc_0]
    unfold f_Frame_appendBytes f_Model_appendBytes ja_pu
    rw [show ja_q 0 2 = 1 from rfl, c1, show (20 : Int32) = nI 20 by decide +kernel, nI_add, show (900 : Int32) = nI 900 by decide +kernel, if_neg (fun q => hf ((nI_leI (by omega) (by omega)).mp q)), Option.bind_some, Option.bind_some, m1 _ rfl, nI_add, if_neg (fun q => hf ((nI_leI (by omega) (by omega)).mp q)), Option.bind_some, if_pos rfl]
