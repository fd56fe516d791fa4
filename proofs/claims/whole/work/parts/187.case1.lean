/-! parseSheet -/
section C1
variable {A : am_A} {a : Nat → Int32} {σ : ja_S}
theorem ps_L164 {v : Int32} : ∀ (n i : Nat) (τ : ja_S), i ≤ 8 → 8 - i < n → ∃ τ', f_Model_parseSheet_L164 n 45 v (nI i) τ = some (v, τ') ∧ τ'.1 45 8 = 0 ∧ (∀ q, τ'.1 49 q = if i ≤ q ∧ q < 8 then τ.1 54 q else τ.1 49 q) ∧ (∀ q, τ'.1 50 q = if i ≤ q ∧ q < 8 then τ.1 55 q else τ.1 50 q) ∧ (∀ k j, k ≠ 49 → k ≠ 50 → (k ≠ 45 ∨ j ≠ 8) → τ'.1 k j = τ.1 k j) ∧ τ'.2 = τ.2 := by
  intro n
  induction n with
  | zero => intro i τ _ h; omega
  | succ n ih =>
    intro i τ hi hn
    rw [f_Model_parseSheet_L164, show (8 : Int32) = nI 8 by decide +kernel, show ja_q 45 6 = 49 from rfl, show ja_q 45 7 = 50 from rfl, show ja_q 45 23 = 54 from rfl, show ja_q 45 24 = 55 from rfl]
    by_cases h : i = 8
    · unfold ja_pu
      rw [h, if_pos (nI_le (Nat.le_refl _) (by omega)), Option.bind_some]
      refine ⟨_, rfl, ?_, fun q => ?_, fun q => ?_, fun k j x y z => ?_, rfl⟩
      · rw [si_at, if_pos ⟨rfl, rfl⟩]
      · rw [si_row (by omega), if_neg (by omega)]
      · rw [si_row (by omega), if_neg (by omega)]
      · rw [si_at, if_neg (by omega)]
    · rw [if_neg (nI_ge (by omega) (by omega)), ld0 (N := 8) rfl (by omega) (by omega), Option.bind_some, st0' (N := 8) rfl (by omega) (by omega), Option.bind_some, ld0 (N := 8) rfl (by omega) (by omega), Option.bind_some, st0' (N := 8) rfl (by omega) (by omega), Option.bind_some, nI_1]
      obtain ⟨τ', e1, e2, e3, e4, e5, e6⟩ := ih (i + 1) (ja_si (ja_si τ 49 i (τ.1 54 i)) 50 i ((ja_si τ 49 i (τ.1 54 i)).1 55 i)) (by omega) (by omega)
      refine ⟨τ', e1, e2, fun q => ?_, fun q => ?_, fun k j x y z => ?_, e6⟩
      · rw [e3 q]
        by_cases hq : q = i
        · rw [if_neg (by omega), si_row (by omega), si_at, if_pos ⟨rfl, hq⟩, if_pos (by omega), hq]
        · by_cases c : i + 1 ≤ q ∧ q < 8
          · rw [if_pos c, if_pos (by omega), si_row (by omega), si_row (by omega)]
          · rw [if_neg c, if_neg (by omega), si_row (by omega), si_at, if_neg (by omega)]
      · rw [e4 q]
        by_cases hq : q = i
        · rw [if_neg (by omega), si_at, if_pos ⟨rfl, hq⟩, si_row (by omega), if_pos (by omega), hq]
        · by_cases c : i + 1 ≤ q ∧ q < 8
          · rw [if_pos c, if_pos (by omega), si_row (by omega), si_row (by omega)]
          · rw [if_neg c, if_neg (by omega), si_at, if_neg (by omega), si_row (by omega)]
      · rw [e5 k j x y z, si_row y, si_row x]
theorem ps_L138 {v : Int32} : ∀ (n i : Nat) (τ : ja_S), i ≤ 8 → 8 - i < n → ∃ τ', f_Model_parseSheet_L138 n 45 v (nI i) τ = f_Model_parseSheet_L164 ja_FU 45 v 0 τ' ∧ (∀ q, τ'.1 48 q = if i ≤ q ∧ q < 8 then τ.1 53 q else τ.1 48 q) ∧ (∀ k j, k ≠ 48 → τ'.1 k j = τ.1 k j) ∧ τ'.2 = τ.2 := by
  intro n
  induction n with
  | zero => intro i τ _ h; omega
  | succ n ih =>
    intro i τ hi hn
    rw [f_Model_parseSheet_L138, show (8 : Int32) = nI 8 by decide +kernel, show ja_q 45 5 = 48 from rfl, show ja_q 45 22 = 53 from rfl]
    by_cases h : i = 8
    · rw [h, if_pos (nI_le (Nat.le_refl _) (by omega))]
      exact ⟨τ, rfl, fun q => by rw [if_neg (by omega)], fun k j _ => rfl, rfl⟩
    · rw [if_neg (nI_ge (by omega) (by omega)), ld0 (N := 8) rfl (by omega) (by omega), Option.bind_some, st0' (N := 8) rfl (by omega) (by omega), Option.bind_some, nI_1]
      obtain ⟨τ', e1, e2, e3, e4⟩ := ih (i + 1) (ja_si τ 48 i (τ.1 53 i)) (by omega) (by omega)
      refine ⟨τ', e1, fun q => ?_, fun k j x => ?_, e4⟩
      · rw [e2 q]
        by_cases hq : q = i
        · rw [if_neg (by omega), si_at, if_pos ⟨rfl, hq⟩, if_pos (by omega), hq]
        · by_cases c : i + 1 ≤ q ∧ q < 8
          · rw [if_pos c, if_pos (by omega), si_row (by omega)]
          · rw [if_neg c, if_neg (by omega), si_at, if_neg (by omega)]
      · rw [e3 k j x, si_row x]
theorem ps_L110 {v : Int32} : ∀ (n i : Nat) (τ : ja_S), i ≤ 96 → 96 - i < n → ∃ τ', f_Model_parseSheet_L110 n 45 v (nI i) τ = f_Model_parseSheet_L138 ja_FU 45 v 0 τ' ∧ (∀ q, τ'.1 46 q = if 2 + i ≤ q ∧ q < 98 then τ.1 52 (q - 2) else τ.1 46 q) ∧ (∀ k j, k ≠ 46 → τ'.1 k j = τ.1 k j) ∧ τ'.2 = τ.2 := by
  intro n
  induction n with
  | zero => intro i τ _ h; omega
  | succ n ih =>
    intro i τ hi hn
    rw [f_Model_parseSheet_L110, show (96 : Int32) = nI 96 by decide +kernel, show ja_q 45 3 = 46 from rfl, show ja_q 45 21 = 52 from rfl]
    by_cases h : i = 96
    · rw [h, if_pos (nI_le (Nat.le_refl _) (by omega))]
      exact ⟨τ, rfl, fun q => by rw [if_neg (by omega)], fun k j _ => rfl, rfl⟩
    · rw [if_neg (nI_ge (by omega) (by omega)), ld0 (N := 100) rfl (by omega) (by omega), Option.bind_some, show (2 : Int32) = nI 2 by decide +kernel, nI_add, st0' (N := 98) rfl (by omega) (by omega), Option.bind_some, nI_1]
      obtain ⟨τ', e1, e2, e3, e4⟩ := ih (i + 1) (ja_si τ 46 (2 + i) (τ.1 52 i)) (by omega) (by omega)
      refine ⟨τ', e1, fun q => ?_, fun k j x => ?_, e4⟩
      · rw [e2 q]
        by_cases hq : q = 2 + i
        · rw [if_neg (by omega), si_at, if_pos ⟨rfl, hq⟩, if_pos (by omega), hq, show 2 + i - 2 = i by omega]
        · by_cases c : 2 + (i + 1) ≤ q ∧ q < 98
          · rw [if_pos c, if_pos (by omega), si_row (by omega)]
          · rw [if_neg c, if_neg (by omega), si_at, if_neg (by omega)]
      · rw [e3 k j x, si_row x]
/-- the reference takes what it has read -/
theorem ps_take {N : Nat} {S : pz_S} {v : Int32} {τ : ja_S} (hS : mn_ok τ N S) (hb : S.1.length ≤ 24) (hb1 : S.2.1.length ≤ 8) (hb2 : S.2.2.length ≤ 8) : ∃ τ', ((ja_pu τ 45 0 (τ.1 45 17)).bind fun s9 => (ja_pu s9 45 1 (s9.1 45 19)).bind fun s10 => (ja_pu s10 45 2 (s10.1 45 20)).bind fun s11 => (ja_st ja_L0 s11 (ja_q 45 3) (0 : Int32) (s11.1 45 18)).bind fun s12 => (ja_st ja_L0 s12 (ja_q 45 3) (1 : Int32) (0 : Int32)).bind fun s13 => f_Model_parseSheet_L110 ja_FU 45 v (0 : Int32) s13) = some (v, τ') ∧ τ'.1 45 0 = nI N ∧ τ'.1 45 1 = nI S.2.1.length ∧ τ'.1 45 2 = nI S.2.2.length ∧ am_s (τ'.1 46) 0 (S.1, 0) ∧ τ'.1 45 8 = 0 ∧ am_row (τ'.1 48) S.2.1 ∧ am_row (τ'.1 49) (S.2.2.map (fun q => q.1)) ∧ am_row (τ'.1 50) (S.2.2.map (fun q => q.2)) ∧ (∀ k j, (k < 46 ∨ k = 47 ∨ 50 < k) → (k ≠ 45 ∨ (j ≠ 0 ∧ j ≠ 1 ∧ j ≠ 2 ∧ j ≠ 8)) → τ'.1 k j = τ.1 k j) ∧ τ'.2 = τ.2 := by
  obtain ⟨g1, g2, g3, g4, g5, g6, g7, g8⟩ := hS
  obtain ⟨τ1, hτ1⟩ : ∃ t : ja_S, t = ja_si (ja_si (ja_si (ja_si (ja_si τ 45 0 (nI N)) 45 1 (nI S.2.1.length)) 45 2 (nI S.2.2.length)) 46 0 (nI S.1.length)) 46 1 0 := ⟨_, rfl⟩
  have h1 : ∀ k j, (k ≠ 45 ∨ 2 < j) → (k ≠ 46 ∨ 1 < j) → τ1.1 k j = τ.1 k j := fun k j x y => by
    rw [hτ1, si_at, if_neg (by omega), si_at, if_neg (by omega), si_at, if_neg (by omega), si_at, if_neg (by omega), si_at, if_neg (by omega)]
  have v0 : τ1.1 45 0 = nI N := by rw [hτ1, si_row (by omega), si_row (by omega), si_at, if_neg (by omega), si_at, if_neg (by omega), si_at, if_pos ⟨rfl, rfl⟩]
  have v1 : τ1.1 45 1 = nI S.2.1.length := by rw [hτ1, si_row (by omega), si_row (by omega), si_at, if_neg (by omega), si_at, if_pos ⟨rfl, rfl⟩]
  have v2 : τ1.1 45 2 = nI S.2.2.length := by rw [hτ1, si_row (by omega), si_row (by omega), si_at, if_pos ⟨rfl, rfl⟩]
  have v3 : τ1.1 46 0 = nI S.1.length := by rw [hτ1, si_at, if_neg (by omega), si_at, if_pos ⟨rfl, rfl⟩]
  have v4 : τ1.1 46 1 = 0 := by rw [hτ1, si_at, if_pos ⟨rfl, rfl⟩]
  obtain ⟨τ2, a1, a2, a3, a4⟩ := ps_L110 (v := v) ja_FU 0 τ1 (by omega) (by unfold ja_FU; omega)
  obtain ⟨τ3, b1, b2, b3, b4⟩ := ps_L138 (v := v) ja_FU 0 τ2 (by omega) (by unfold ja_FU; omega)
  obtain ⟨τ4, c1, c2, c3, c4, c5, c6⟩ := ps_L164 (v := v) ja_FU 0 τ3 (by omega) (by unfold ja_FU; omega)
  rw [← am_z] at a1 b1 c1
  have k52 : ∀ j, τ1.1 52 j = τ.1 52 j := fun j => h1 52 j (by omega) (by omega)
  have hfr : ∀ k j, (k < 46 ∨ k = 47 ∨ 50 < k) → (k ≠ 45 ∨ j ≠ 8) → τ4.1 k j = τ1.1 k j := fun k j x y => by
    rw [c5 k j (by omega) (by omega) y, b3 k j (by omega), a3 k j (by omega)]
  refine ⟨τ4, ?_, (hfr 45 0 (by omega) (by omega)).trans v0, (hfr 45 1 (by omega) (by omega)).trans v1, (hfr 45 2 (by omega) (by omega)).trans v2, ?_, c2, ?_, ?_, ?_, fun k j x y => (hfr k j x (by omega)).trans (h1 k j (by omega) (by omega)), ?_⟩
  · unfold ja_pu
    rw [Option.bind_some, g1, si_at, if_neg (by omega), g4, Option.bind_some, si_at, if_neg (by omega), si_at, if_neg (by omega), g6, Option.bind_some, si_at, if_neg (by omega), si_at, if_neg (by omega), si_at, if_neg (by omega), g2, show ja_q 45 3 = 46 from rfl]
    have e1 : ∀ t : ja_S, ja_st ja_L0 t 46 0 (nI S.1.length) = some (ja_si t 46 0 (nI S.1.length)) := fun t => by rw [am_z, st0' (N := 98) rfl (by omega) (by omega)]
    have e2 : ∀ t : ja_S, ja_st ja_L0 t 46 1 0 = some (ja_si t 46 1 0) := fun t => by rw [show (1 : Int32) = nI 1 by decide +kernel, st0' (N := 98) rfl (by omega) (by omega)]
    rw [e1, Option.bind_some, e2, Option.bind_some, ← hτ1, a1, b1, c1]
  · have k46 : ∀ q, τ4.1 46 q = if 2 ≤ q ∧ q < 98 then τ.1 52 (q - 2) else τ1.1 46 q := fun q => by
      rw [c5 46 q (by omega) (by omega) (by omega), b3 46 q (by omega), a2 q]
      by_cases c : 2 + 0 ≤ q ∧ q < 98
      · rw [if_pos c, if_pos (by omega), k52]
      · rw [if_neg c, if_neg (by omega)]
    refine ⟨?_, ?_, fun i hi => ?_⟩
    · rw [k46, if_neg (by omega)]; exact v3
    · rw [k46, if_neg (by omega)]; exact v4.trans am_z
    · have hi' : i < S.1.length := hi
      have := g3 i hi'
      rw [k46, if_pos (by omega), k46, if_pos (by omega), k46, if_pos (by omega), k46, if_pos (by omega), show 0 + 2 + 4 * i - 2 = 0 + 4 * i by omega, show 0 + 2 + 4 * i + 1 - 2 = 0 + 4 * i + 1 by omega, show 0 + 2 + 4 * i + 2 - 2 = 0 + 4 * i + 2 by omega, show 0 + 2 + 4 * i + 3 - 2 = 0 + 4 * i + 3 by omega]
      exact this
  · intro i hi
    rw [c5 48 i (by omega) (by omega) (by omega), b2, if_pos (by omega), a3 53 i (by omega), h1 53 i (by omega) (by omega)]
    exact g5 i hi
  · intro i hi
    have hi' : i < S.2.2.length := by rw [List.length_map] at hi; exact hi
    rw [c3, if_pos (by omega), b3 54 i (by omega), a3 54 i (by omega), h1 54 i (by omega) (by omega)]
    exact g7 i hi
  · intro i hi
    have hi' : i < S.2.2.length := by rw [List.length_map] at hi; exact hi
    rw [c4, if_pos (by omega), b3 55 i (by omega), a3 55 i (by omega), h1 55 i (by omega) (by omega)]
    exact g8 i hi
  · rw [c6, b4, a4, hτ1]
    rfl
theorem case_1 (hA : am_ok A) (hC : am_C A σ) (hM : am_M A σ) : am_do A 1 a σ := by
  obtain ⟨a1, a2, a3, a4, a5, a6, a7, a8, a9, a10, a11, a12, a13, a14, a15, a16⟩ := id hA
  have c1 : σ.1 1 6 = nI A.2.2.2.2.2.2.1.length := hC.1
  have m11 : ∀ τ : ja_S, am_M A τ → (ja_si τ 45 9 0).1 45 11 = nI A.2.2.2.2.2.2.1.length := fun τ h => by
    rw [si_at, if_neg (by omega)]; exact h.2.2.2.2.2.2.2.2.2.1
  by_cases hneg : a 1 < 0
  · refine am_ask_do hA hC (am_asked hM ?_)
    rw [jc_1]
    unfold f_Frame_parseSheet f_Model_parseSheet ja_pu
    have := i32_lt0.mp hneg
    rw [if_pos hneg, Option.bind_some, Option.bind_some, m11 σ hM, isIn_ok (nI_toInt (by omega)), decide_eq_false (by omega), Option.bind_some, if_pos (am_bz0.mpr rfl), Option.bind_some]
    exact if_pos rfl
  · obtain ⟨n, hn31, hn⟩ := nI_of hneg
    by_cases hle : n ≤ A.2.2.2.2.2.2.1.length
    · obtain ⟨f, hf⟩ : ∃ f : Nat → Nat, f = fun i => A.2.2.2.2.2.2.1.getD i 0 := ⟨_, rfl⟩
      have hn9 : n ≤ 900 := by omega
      have hf256 : ∀ i, i < n → f i < 256 := fun i hi => by
        rw [hf]
        refine a14 _ ?_
        show A.2.2.2.2.2.2.1.getD i 0 ∈ A.2.2.2.2.2.2.1
        rw [List.getD_eq_getElem?_getD, List.getElem?_eq_getElem (by omega)]
        exact List.getElem_mem (by omega)
      have hrow : ∀ i, i < n → σ.1 2 i = nI (f i) := fun i hi => by rw [hf]; exact hC.2.1 i (by omega)
      -- the reference, up to reading
      have mstart1 : ∀ τ : ja_S, am_M A τ → ∃ τ0, f_Model_parseSheet 45 (a 1) τ = ((f_Model_parses 45 τ0).bind fun v8 => (if (v8.2.1 45 14) = 0 then (ja_pu v8.2 45 0 (v8.2.1 45 17)).bind fun s9 => (ja_pu s9 45 1 (s9.1 45 19)).bind fun s10 => (ja_pu s10 45 2 (s10.1 45 20)).bind fun s11 => (ja_st ja_L0 s11 (ja_q 45 3) (0 : Int32) (s11.1 45 18)).bind fun s12 => (ja_st ja_L0 s12 (ja_q 45 3) (1 : Int32) (0 : Int32)).bind fun s13 => f_Model_parseSheet_L110 ja_FU 45 v8.1 (0 : Int32) s13 else some ((-30 : Int32) - (v8.2.1 45 14), v8.2))) ∧ mt_ok f n τ0 0 ∧ τ0.1 45 11 = nI 0 ∧ (∀ k j, (k ≠ 45 ∨ j < 9 ∨ 15 < j) → τ0.1 k j = τ.1 k j) ∧ τ0.2 = τ.2 := by
        intro τ hMτ
        obtain ⟨τ0, hτ0⟩ : ∃ t : ja_S, t = ja_si (ja_si (ja_si (ja_si (ja_si (ja_si τ 45 9 0) 45 11 0) 45 12 (nI n)) 45 13 0) 45 14 0) 45 15 (-1) := ⟨_, rfl⟩
        have hfr : ∀ k j, (k ≠ 45 ∨ j < 9 ∨ 15 < j) → τ0.1 k j = τ.1 k j := fun k j h => by
          rw [hτ0, si_at, if_neg (by omega), si_at, if_neg (by omega), si_at, if_neg (by omega), si_at, if_neg (by omega), si_at, if_neg (by omega), si_at, if_neg (by omega)]
        refine ⟨τ0, ?_, ⟨⟨?_, ?_, fun i hi => ?_, hn9, hf256, Nat.zero_le _⟩, ?_, ?_⟩, ?_, hfr, by rw [hτ0]; rfl⟩
        · unfold f_Model_parseSheet ja_pu
          rw [Option.bind_some, m11 τ hMτ, hn, isIn_ok (nI_toInt (by omega)), nI_toInt (by omega), decide_eq_true (by omega), Option.bind_some, if_neg bz1, Option.bind_some, Option.bind_some, Option.bind_some, Option.bind_some, Option.bind_some, ← hτ0]
        · rw [hτ0, si_at, if_neg (by omega), si_at, if_neg (by omega), si_at, if_neg (by omega), si_at, if_pos ⟨rfl, rfl⟩]
        · rw [hτ0, si_at, if_neg (by omega), si_at, if_neg (by omega), si_at, if_pos ⟨rfl, rfl⟩]; exact am_z
        · rw [hfr 51 i (by omega), hf]
          exact hMτ.2.2.2.2.2.2.2.2.2.2.1 i (by omega)
        · rw [hτ0, si_at, if_neg (by omega), si_at, if_pos ⟨rfl, rfl⟩]
        · rw [hτ0, si_at, if_pos ⟨rfl, rfl⟩]
        · rw [hτ0, si_at, if_neg (by omega), si_at, if_neg (by omega), si_at, if_neg (by omega), si_at, if_neg (by omega), si_at, if_pos ⟨rfl, rfl⟩]; exact am_z
      have hle' : a 1 ≤ σ.1 (ja_q 0 2) 6 := by rw [show ja_q 0 2 = 1 from rfl, hn, c1]; exact nI_le hle (by omega)
      rcases read_ok (f := f) (σ := σ) c1 hle a12 hf256 hrow with ⟨e, e1, σ1, e2, e3, e4⟩ | ⟨N, S, e1, e2, e3, e4, σ1, e5, e6, e7, e8⟩
      · -- a failure
        obtain ⟨b1, b2⟩ := all_eb e e1
        obtain ⟨σ2, hσ2⟩ : ∃ t : ja_S, t = σ1 := ⟨_, rfl⟩
        have h2 : ∀ k j, (k < 8 ∨ 12 < k) → k ≠ 1 → σ2.1 k j = σ.1 k j := fun k j x y => by
          rw [hσ2, e4.1 k j (Or.inl y) x, si_row y]
        have h2s : σ2.2 = σ.2 := by rw [hσ2]; exact e4.2
        have hM2 : am_M A σ2 := am_M_ch hM (fun k hk => funext fun j => h2 k j (by omega) (by omega))
        have p20 : σ2.1 1 0 = nI e.1 := by rw [hσ2]; exact e3.1
        have p21 : σ2.1 1 1 = nI e.2 := by rw [hσ2]; exact e3.2
        have p26 : σ2.1 1 6 = 0 := by rw [hσ2, e4.1 1 6 (Or.inr rfl) (by omega), si_at, if_pos ⟨rfl, rfl⟩]
        obtain ⟨τ0, t1, t2, t3, t4, t5⟩ := mstart1 σ2 hM2
        rcases mparse_ok t2 with ⟨e', u1, v, τ1, u2, u3, u4⟩ | ⟨N, S, u1, _⟩
        · rw [e1] at u1
          cases u1
          have hall : ∀ k j, k < 52 → (k ≠ 45 ∨ j < 9 ∨ 20 < j) → τ1.1 k j = σ2.1 k j := fun k j x y => by
            rw [u4.1 k j (by omega) (by omega), t4 k j (by omega)]
          have hcl : ∀ k j, (k < 8 ∨ 12 < k) → k < 45 → k ≠ 1 → τ1.1 k j = σ.1 k j := fun k j x w y => (hall k j (by omega) (by omega)).trans (h2 k j x y)
          have hclr : ∀ k, (k < 8 ∨ 12 < k) → k < 45 → k ≠ 1 → k ≠ 0 → τ1.1 k = σ.1 k := fun k x w y z => funext fun j => hcl k j x w y
          refine ⟨(A.1, A.2.1, A.2.2.1, A.2.2.2.1, A.2.2.2.2.1, A.2.2.2.2.2.1, [], e.1, some e.2), τ1, ?_, ⟨a1, a2, a3, a4, a5, a6, a7, a8, a9, a10, a11, Nat.zero_le _, rfl, (fun b hb => by cases hb), b1, ?_⟩, ?_, ?_, Or.inl ⟨⟨rfl, rfl, rfl, rfl⟩, fun k j hj => hcl k j (by omega) (by omega) (by omega)⟩, fun k x y _ => ⟨funext fun j => hcl k j (by omega) y (by omega), by rw [u4.2, t5, h2s]⟩⟩
          · rw [jc_1]
            unfold f_Frame_parseSheet ja_pu
            have e2' : f_SheetParser_read (ja_q 0 2) (a 1) (ja_q 0 4) σ = some (0, σ1) := by rw [hn]; exact e2
            rw [if_neg hneg, if_pos hle', e2', Option.bind_some, if_pos rfl, ← hσ2, Option.bind_some, t1, u2, Option.bind_some, if_neg (fe_n0 u3), Option.bind_some, u3.1, show ja_q 0 2 = 1 from rfl, p20]
            exact if_pos rfl
          · intro o ho
            cases ho
            omega
          · obtain ⟨q1, q2, q3, q4, ⟨s1, s2, s3, s4, s5, s6, s7, s8, s9⟩, q6, ds, d1, d2, d3, d4⟩ := id hC
            refine ⟨?_, (fun i hi => by cases hi), (hall 1 0 (by omega) (by omega)).trans p20, (hall 1 1 (by omega) (by omega)).trans p21, ⟨?_, ?_, ?_, ?_, ?_, ?_, ?_, ?_, ?_⟩, ?_, ds, d1, d2, ?_, fun i hi => ?_⟩
            · rw [hall 1 6 (by omega) (by omega), p26]; exact am_z
            · rw [hclr 3 (by omega) (by omega) (by omega) (by omega)]; exact s1
            · rw [hclr 3 (by omega) (by omega) (by omega) (by omega)]; exact s2
            · rw [hclr 3 (by omega) (by omega) (by omega) (by omega)]; exact s3
            · rw [hclr 3 (by omega) (by omega) (by omega) (by omega)]; exact s4
            · rw [hclr 3 (by omega) (by omega) (by omega) (by omega)]; exact s5
            · rw [hclr (3 + 1) (by omega) (by omega) (by omega) (by omega)]; exact s6
            · rw [hclr (3 + 2) (by omega) (by omega) (by omega) (by omega)]; exact s7
            · rw [hclr (3 + 3) (by omega) (by omega) (by omega) (by omega)]; exact s8
            · rw [hclr (3 + 4) (by omega) (by omega) (by omega) (by omega)]; exact s9
            · exact (hcl 0 6 (by omega) (by omega) (by omega)).trans q6
            · exact (hcl 13 0 (by omega) (by omega) (by omega)).trans d3
            · rw [hclr 14 (by omega) (by omega) (by omega) (by omega), hclr 15 (by omega) (by omega) (by omega) (by omega), hclr 16 (by omega) (by omega) (by omega) (by omega)]
              exact d4 i hi
          · obtain ⟨q1, q2, q3, q4, q5, q6, q7, q8, q9, q10, q11, q12, q13, q14⟩ := id hM2
            have hr : ∀ k, 45 < k → k < 52 → τ1.1 k = σ2.1 k := fun k x y => funext fun j => hall k j y (by omega)
            refine ⟨(hall 45 0 (by omega) (by omega)).trans q1, (hall 45 1 (by omega) (by omega)).trans q2, (hall 45 2 (by omega) (by omega)).trans q3, ?_, (hall 45 8 (by omega) (by omega)).trans q5, fun i hi => ?_, ?_, ?_, ?_, ?_, (fun i hi => by cases hi), u3.1, u3.2.1, (hall 45 36 (by omega) (by omega)).trans q14⟩
            · rw [hr 46 (by omega) (by omega)]; exact q4
            · rw [hr 47 (by omega) (by omega)]; exact q6 i hi
            · rw [hr 48 (by omega) (by omega)]; exact q7
            · rw [hr 49 (by omega) (by omega)]; exact q8
            · rw [hr 50 (by omega) (by omega)]; exact q9
            · exact (u4.1 45 11 (by omega) (by omega)).trans t3
        · rw [e1] at u1
          cases u1
      · -- the new sheet
        obtain ⟨σ2, hσ2⟩ : ∃ t : ja_S, t = σ1 := ⟨_, rfl⟩
        have h2 : ∀ k j, (k < 8 ∨ 12 < k) → k ≠ 1 → σ2.1 k j = σ.1 k j := fun k j x y => by
          rw [hσ2, e8.1 k j (Or.inl y) x, si_row y]
        have hsh2 : sh_ok σ2 8 N 0 S.1 S.2.1 S.2.2 := sh_ok_fr e7 (fun c x y => by rw [hσ2])
        obtain ⟨σ3, k1, k2, k3⟩ := shcopy_ok (x := 3) (y := 8) (Or.inl rfl) (Or.inr (Or.inl rfl)) (by omega) hsh2
        obtain ⟨σ4, hσ4⟩ : ∃ t : ja_S, t = fg_st (ja_si (ja_si σ3 0 6 0) 13 0 0) := ⟨_, rfl⟩
        have h4 : ∀ k j, ((k ≠ 0 ∨ (j ≠ 6 ∧ j ≠ 8 ∧ j ≠ 11)) ∧ k ≠ 29) → (k ≠ 13 ∨ j ≠ 0) → σ4.1 k j = σ3.1 k j := fun k j x y => by
          rw [hσ4, fg_at (by omega), si_at, if_neg (by omega), si_at, if_neg (by omega)]
        have h4' : ∀ k j, 13 < k → k ≠ 29 → σ4.1 k j = σ.1 k j := fun k j x x29 => by
          rw [h4 k j (by omega) (by omega), k3.1 k j (by omega), h2 k j (by omega) (by omega)]
        have h4s : σ4.2 = σ.2 := by
          rw [hσ4]
          unfold fg_st
          rw [si_l, si_l, si_l, si_l, si_l, k3.2, hσ2, e8.2, si_l]
        have p4 : σ4.1 0 6 = 0 ∧ σ4.1 13 0 = 0 := by
          rw [hσ4]
          refine ⟨?_, ?_⟩
          · rw [fg_at (by omega), si_at, if_neg (by omega), si_at, if_pos ⟨rfl, rfl⟩]
          · rw [fg_at (by omega), si_at, if_pos ⟨rfl, rfl⟩]
        have hM4 : am_M A σ4 := am_M_ch hM (fun k hk => funext fun j => h4' k j (by omega) (by omega))
        have hsh4 : sh_ok σ4 3 N 0 S.1 S.2.1 S.2.2 := sh_ok_fr k2 (fun c x y => funext fun j => h4 c j (by omega) (by omega))
        obtain ⟨τ0, t1, t2, t3, t4, t5⟩ := mstart1 σ4 hM4
        rcases mparse_ok t2 with ⟨e', u1, _⟩ | ⟨N', S', u1, τ1, u2, u3, u4, u5, u6⟩
        · rw [e1] at u1
          cases u1
        · rw [e1] at u1
          cases u1
          obtain ⟨b1, b2, b3, b4, b5, b6⟩ := id e4
          obtain ⟨τ2, w1, w2, w3, w4, w5, w6, w7, w8, w9, w10, w11⟩ := ps_take (v := nI (pz_ct S)) u5 b1 b3 b5
          have hall : ∀ k j, k < 45 → τ2.1 k j = σ4.1 k j := fun k j x => by
            rw [w10 k j (by omega) (by omega), u6.1 k j (by omega) (by omega), t4 k j (by omega)]
          have hallr : ∀ k, k < 45 → τ2.1 k = σ4.1 k := fun k x => funext fun j => hall k j x
          obtain ⟨s1, s2, ⟨r1, r2, r3, r4⟩, y1, y2, y3, y4, y5, y6, y7, y8, y9⟩ := id hsh4
          have p2 : σ4.1 1 0 = 0 ∧ σ4.1 1 1 = -1 := by
            refine ⟨?_, ?_⟩
            · rw [h4 1 0 (by omega) (by omega), k3.1 1 0 (by omega), hσ2]; exact e6.1
            · rw [h4 1 1 (by omega) (by omega), k3.1 1 1 (by omega), hσ2]; exact e6.2
          have p26 : σ4.1 1 6 = 0 := by
            rw [h4 1 6 (by omega) (by omega), k3.1 1 6 (by omega), hσ2, e8.1 1 6 (Or.inr rfl) (by omega), si_at, if_pos ⟨rfl, rfl⟩]
          have hpw : 0 < 2 ^ N := Nat.two_pow_pos N
          refine ⟨(N, S.1, S.2.1, S.2.2, 0, [], [], 0, none), τ2, ?_, ⟨e2, e3, b1, b2, b3, b4, b5, b6, hpw, Nat.zero_le _, (fun q hq => by cases hq), Nat.zero_le _, rfl, (fun b hb => by cases hb), Nat.zero_le _, (fun o ho => by cases ho)⟩, ?_, ?_, Or.inr ?_, fun k x y x29 => ⟨funext fun j => ?_, by rw [w11, u6.2, t5, h4s]⟩⟩
          · rw [jc_1]
            have e5' : f_SheetParser_read (ja_q 0 2) (a 1) (ja_q 0 4) σ = some (1, σ1) := by rw [hn]; exact e5
            have k1' : f_Sheet_copyFrom (ja_q 0 3) (ja_q 0 4) σ2 = some σ3 := k1
            have hct : (1 : Int32) + nI S.1.length + nI S.2.1.length + nI S.2.2.length = nI (pz_ct S) := by
              rw [show (1 : Int32) = nI 1 by decide +kernel, nI_add, nI_add, nI_add]
              rfl
            unfold f_Frame_parseSheet f_History_clear ja_pu
            rw [if_neg hneg, if_pos hle', e5', Option.bind_some, if_neg i1n0, ← hσ2, k1', Option.bind_some, Option.bind_some, show ja_q 0 5 = 13 from rfl, Option.bind_some, Option.bind_some, forgetF, Option.bind_some, ← hσ4, Option.bind_some, t1, u2, Option.bind_some, if_pos u3, w1, Option.bind_some, show ja_q 0 3 = 3 from rfl, r1, y1, y5, hct]
            exact if_pos rfl
          · refine ⟨?_, (fun i hi => by cases hi), ?_, ?_, ⟨?_, ?_, ?_, ?_, ?_, ?_, ?_, ?_, ?_⟩, ?_, [], rfl, trivial, ?_, (fun i hi => by cases hi)⟩
            · rw [hall 1 6 (by omega), p26]; exact am_z
            · rw [hall 1 0 (by omega), p2.1]; exact am_z
            · rw [hall 1 1 (by omega), p2.2]; rfl
            · rw [hallr 3 (by omega)]; exact s1
            · rw [hallr 3 (by omega)]; exact s2
            · rw [hallr 3 (by omega)]
              show σ4.1 3 3 = nI (S.1.map am_pk).length
              rw [List.length_map]; exact r1
            · rw [hallr 3 (by omega)]; exact y1
            · rw [hallr 3 (by omega)]; exact y5
            · intro i hi
              have hi' : i < S.1.length := by
                have h2 : i < (S.1.map am_pk).length := hi
                rw [List.length_map] at h2
                exact h2
              rw [hallr (3 + 1) (by omega)]
              show σ4.1 (3 + 1) i = nI ((S.1.map am_pk).getD i 0)
              rw [getD_map (d := (0, 0, 0, 0)) hi']
              exact r2 i hi'
            · rw [hallr (3 + 2) (by omega)]; exact y2
            · rw [hallr (3 + 3) (by omega)]; exact y6
            · rw [hallr (3 + 4) (by omega)]; exact y7
            · rw [hall 0 6 (by omega), p4.1]; exact am_z
            · rw [hall 13 0 (by omega), p4.2]; exact am_z
          · refine ⟨w2, w3, w4, w5, w6.trans am_z, (fun i hi => by cases hi), w7, w8, w9, ?_, (fun i hi => by cases hi), ?_, ?_, ?_⟩
            · rw [w10 45 11 (by omega) (by omega), u6.1 45 11 (by omega) (by omega)]; exact t3
            · rw [w10 45 14 (by omega) (by omega), u3]; exact am_z
            · rw [w10 45 15 (by omega) (by omega), u4]; rfl
            · rw [w10 45 36 (by omega) (by omega), u6.1 45 36 (by omega) (by omega), t4 45 36 (by omega), h4' 45 36 (by omega) (by omega)]
              exact hM.2.2.2.2.2.2.2.2.2.2.2.2.2
          · have := fg_fg (σ := ja_si (ja_si σ3 0 6 0) 13 0 0)
            rw [← hσ4] at this
            unfold am_fg at this ⊢
            rw [hall 0 8 (by omega), hall 29 0 (by omega), hall 0 11 (by omega)]
            exact this
          · rw [hall k j (by omega), h4' k j (by omega) x29]
    · refine am_ask_do hA hC (am_asked hM ?_)
      rw [jc_1]
      unfold f_Frame_parseSheet f_Model_parseSheet ja_pu
      rw [if_neg hneg, show ja_q 0 2 = 1 from rfl, c1, hn, if_neg (nI_ge (by omega) (by omega)), Option.bind_some, Option.bind_some, m11 σ hM, isIn_ok (nI_toInt (by omega)), nI_toInt (by omega), decide_eq_false (by omega), Option.bind_some, if_pos (am_bz0.mpr rfl), Option.bind_some]
      exact if_pos rfl
end C1
