/-! every call keeps both sides together -/
def am_P (σ : ja_S) : Prop := ∃ A, am_ok A ∧ am_C A σ ∧ am_M A σ ∧ am_K A σ
theorem am_K_do {A A' : am_A} {σ σ' : ja_S} (h : am_K A σ) (hs : (am_sm A A' ∧ am_kp σ σ') ∨ am_fg σ') (h1 : ∀ k, 17 ≤ k → k < 45 → k ≠ 29 → σ'.1 k = σ.1 k ∧ σ'.2 k = σ.2 k) : am_K A' σ' := by
  obtain ⟨⟨q1, a1, b1⟩, ⟨q2, a2, b2⟩, h8, h11, h14⟩ := h
  have r1 : bs_ok σ' 17 q1 := bs_ok_fr a1 (fun k hk => (h1 k (by omega) (by omega) (by omega)).1)
  have r2 : bs_ok σ' 23 q2 := bs_ok_fr a2 (fun k hk => (h1 k (by omega) (by omega) (by omega)).1)
  rcases hs with ⟨⟨s1, s2, s3, s4⟩, hk⟩ | ⟨f1, f2, f3⟩
  · obtain ⟨N, rs, ro, cf, A5⟩ := A
    obtain ⟨N', rs', ro', cf', A5'⟩ := A'
    dsimp only at s1 s2 s3 s4
    subst s1 s2 s3 s4
    refine ⟨⟨q1, r1, b1⟩, ⟨q2, r2, b2⟩, ?_, ?_, ?_⟩
    · rw [hk 0 8 (by omega)]
      rcases h8 with h | ⟨h, g1, g2, g3⟩
      · exact Or.inl h
      · exact Or.inr ⟨h, bs_ok_fr g1 (fun k hk => (h1 k (by omega) (by omega) (by omega)).1), by rw [(h1 17 (by omega) (by omega) (by omega)).1]; exact g2, lk_fr g3 (h1 (18 + 1) (by omega) (by omega) (by omega)).2 (h1 (18 + 2) (by omega) (by omega) (by omega)).2⟩
    · rw [hk 29 0 (by omega)]
      rcases h11 with h | ⟨h, g⟩
      · exact Or.inl h
      · refine Or.inr ⟨h, ?_⟩
        unfold pl_ok at g ⊢
        rw [hk 29 3 (by omega), (h1 33 (by omega) (by omega) (by omega)).1]
        exact g
    · rw [hk 0 11 (by omega), hk 0 1 (by omega)]
      exact h14
  · exact ⟨⟨q1, r1, b1⟩, ⟨q2, r2, b2⟩, Or.inl f1, Or.inl f2, Or.inl f3⟩
section STEP
variable {A : am_A} {a : Nat → Int32} {σ : ja_S} {n : Nat}
theorem am_do_P (hK : am_K A σ) (h : am_do A n a σ) : ∃ σ2, ja_case n a σ = some σ2 ∧ am_P σ2 := by
  obtain ⟨A', σ2, e1, e2, e3, e4, e5, e6⟩ := h
  exact ⟨σ2, e1, A', e2, e3, e4, am_K_do hK e5 e6⟩
theorem am_ask_P (hA : am_ok A) (hC : am_C A σ) (hK : am_K A σ) (h : am_ask A n a σ) : ∃ σ2, ja_case n a σ = some σ2 ∧ am_P σ2 := am_do_P hK (am_ask_do hA hC h)
theorem am_ask2_P (hA : am_ok A) (h : am_ask2 A n a σ) : ∃ σ2, ja_case n a σ = some σ2 ∧ am_P σ2 := by
  obtain ⟨σ2, e1, e2, e3, e4⟩ := h
  exact ⟨σ2, e1, A, hA, e2, e3, e4⟩
end STEP
theorem whole_step (n : Nat) (a : Nat → Int32) (σ : ja_S) (hP : am_P σ) : ∃ σ2, ja_case n a σ = some σ2 ∧ am_P σ2 := by
  obtain ⟨A, hA, hC, hM, hK⟩ := hP
  match n with
  | 0 => exact am_do_P hK (case_0 hA hC hM)
  | 1 => exact am_do_P hK (case_1 hA hC hM)
  | 2 => exact am_ask_P hA hC hK (case_2 hC hM)
  | 3 => exact am_ask_P hA hC hK (case_3 hC hM)
  | 4 => exact am_ask_P hA hC hK (case_4 hC hM)
  | 5 => exact am_ask_P hA hC hK (case_5 hC hM)
  | 6 => exact am_ask_P hA hC hK (case_6 hC hM)
  | 7 => exact am_ask_P hA hC hK (case_7 hA hC hM)
  | 8 => exact am_ask_P hA hC hK (case_8 hA hC hM)
  | 9 => exact am_ask_P hA hC hK (case_9 hA hC hM)
  | 10 => exact am_ask_P hA hC hK (case_10 hC hM)
  | 11 => exact am_ask_P hA hC hK (case_11 hA hC hM)
  | 12 => exact am_ask_P hA hC hK (case_12 hC hM)
  | 13 => exact am_ask_P hA hC hK (case_13 hC hM)
  | 14 => exact am_do_P hK (case_14 hA hC hM)
  | 15 => exact am_do_P hK (case_15 hA hC hM)
  | 16 => exact am_do_P hK (case_16 hA hC hM)
  | 17 => exact am_do_P hK (case_17 hA hC hM)
  | 18 => exact am_ask_P hA hC hK (case_18 hA hC hM)
  | 19 => exact am_ask_P hA hC hK (case_19 hA hC hM)
  | 20 => exact am_ask_P hA hC hK (case_20 hA hC hM)
  | 21 => exact am_ask2_P hA (case_21 hA hC hM hK)
  | 22 => exact am_ask2_P hA (case_22 hA hC hM hK)
  | 23 => exact am_ask2_P hA (case_23 hA hC hM hK)
  | 24 => exact am_ask2_P hA (case_24 hA hC hM hK)
  | 25 => exact am_ask2_P hA (case_25 hA hC hM hK)
  | 26 => exact am_ask2_P hA (case_26 hA hC hM hK)
  | 27 => exact am_ask2_P hA (case_27 hA hC hM hK)
  | 28 => exact am_ask2_P hA (case_28 hA hC hM hK)
  | 29 => exact am_ask2_P hA (case_29 hA hC hM hK)
  | 30 => exact am_ask2_P hA (case_30 hA hC hM hK)
  | 31 => exact am_ask2_P hA (case_31 hA hC hM hK)
  | 32 => exact am_ask2_P hA (case_32 hA hC hM hK)
  | 33 => exact am_ask2_P hA (case_33 hA hC hM hK)
  | 34 => exact am_ask2_P hA (case_34 hA hC hM hK)
  | 35 => exact am_ask2_P hA (case_35 hA hC hM hK)
  | 36 => exact am_ask2_P hA (case_36 hA hC hM hK)
  | 37 => exact am_ask2_P hA (case_37 hA hC hM hK)
  | 38 => exact am_ask2_P hA (case_38 hA hC hM hK)
  | 39 => exact am_ask2_P hA (case_39 hA hC hM hK)
  | 40 => exact am_ask2_P hA (case_40 hA hC hM hK)
  | n + 41 => exact ⟨σ, rfl, A, hA, hC, hM, hK⟩
/-- the frame of the start -/
def am_A0 : am_A := (2, [], [], [], 0, [], [], 0, none)
theorem A0_ok : am_ok am_A0 := ⟨by decide, by decide, Nat.zero_le _, (fun r hr => by cases hr), Nat.zero_le _, (fun r hr => by cases hr), Nat.zero_le _, (fun r hr => by cases hr), by decide, Nat.zero_le _, (fun r hr => by cases hr), Nat.zero_le _, rfl, (fun r hr => by cases hr), Nat.zero_le _, (fun r hr => by cases hr)⟩
def am_S0 : ja_S := si_Model 45 46 ja_S1
theorem S0_C : am_C am_A0 am_S0 := ⟨by decide +kernel, (fun i hi => by cases hi), by decide +kernel, by decide +kernel, ⟨by decide +kernel, by decide +kernel, by decide +kernel, by decide +kernel, by decide +kernel, (fun i hi => by cases hi), (fun i hi => by cases hi), (fun i hi => by cases hi), (fun i hi => by cases hi)⟩, by decide +kernel, [], rfl, trivial, by decide +kernel, (fun i hi => by cases hi)⟩
theorem S0_M : am_M am_A0 am_S0 := ⟨by decide +kernel, by decide +kernel, by decide +kernel, ⟨by decide +kernel, by decide +kernel, (fun i hi => by cases hi)⟩, by decide +kernel, (fun i hi => by cases hi), (fun i hi => by cases hi), (fun i hi => by cases hi), (fun i hi => by cases hi), by decide +kernel, (fun i hi => by cases hi), by decide +kernel, by decide +kernel, by decide +kernel⟩
theorem S0_22 (s : Nat) : am_S0.1 (17 + 5) s = if s < 4096 then -1 else 0 := rfl
theorem S0_28 (s : Nat) : am_S0.1 (23 + 5) s = if s < 4096 then -1 else 0 := rfl
theorem S0_K : am_K am_A0 am_S0 := ⟨⟨[], ⟨by decide +kernel, (fun i e h => by simp at h), fun s hs => by rw [S0_22, if_pos hs]; rfl⟩, bq_ok_nil⟩, ⟨[], ⟨by decide +kernel, (fun i e h => by simp at h), fun s hs => by rw [S0_28, if_pos hs]; rfl⟩, bq_ok_nil⟩, Or.inl (by decide +kernel), Or.inl (by decide +kernel), Or.inl (by decide +kernel)⟩
theorem whole_first : ∃ w0, f_Model_usesSheet 45 (si_Model 45 46 ja_S1) = some w0 ∧ am_P w0 := by
  obtain ⟨w0, h1, _, _, h4⟩ := mstart A0_ok S0_M
  exact ⟨w0, h1, am_A0, A0_ok, am_C_ch S0_C (fun k hk => funext fun j => h4.1 k j (by omega) (by omega)), am_M_md S0_M h4, am_K_fr S0_K (fun k j h5 h6 => h4.1 k j (by omega) (by omega)) (fun j _ => h4.1 0 j (by omega) (by omega)) h4.2⟩
