/-! the class reads a sheet -/
/-- the parser at a token, its text below n -/
def ps_ok (f : Nat → Nat) (n : Nat) (σ : ja_S) (q e : Nat) : Prop := σ.1 1 3 = nI n ∧ σ.1 1 4 = nI q ∧ σ.1 1 5 = nI e ∧ (∀ i, i < n → σ.1 2 i = nI (f i)) ∧ n ≤ 900 ∧ (∀ i, i < n → f i < 256) ∧ q ≤ n ∧ e ≤ n
/-- the token that begins behind p -/
def tk_ok (f : Nat → Nat) (n : Nat) (σ : ja_S) (p : Nat) : Prop := ps_ok f n σ (pz_sk f n p) (pz_te f n (pz_sk f n p)) ∧ p ≤ n
def pz_i (f : Nat → Nat) (n i : Nat) : Int32 := if i < n then nI (f i) else -1
theorem pz_i_lt {f : Nat → Nat} {n i : Nat} (h : i < n) : pz_i f n i = nI (f i) := if_pos h
/-- only the parser and the draft change -/
def fr_z (σ σ' : ja_S) : Prop := (∀ k j, (k ≠ 1 ∨ j = 6) → (k < 8 ∨ 12 < k) → σ'.1 k j = σ.1 k j) ∧ σ'.2 = σ.2
theorem fr_z_rf {σ : ja_S} : fr_z σ σ := ⟨fun _ _ _ _ => rfl, rfl⟩
theorem fr_z_tr {a b c : ja_S} (h1 : fr_z a b) (h2 : fr_z b c) : fr_z a c := ⟨fun k j x y => (h2.1 k j x y).trans (h1.1 k j x y), h2.2.trans h1.2⟩
/-- only the parser's token changes -/
def fr_tk (σ σ' : ja_S) : Prop := (∀ k j, (k ≠ 1 ∨ (j ≠ 4 ∧ j ≠ 5)) → σ'.1 k j = σ.1 k j) ∧ σ'.2 = σ.2
theorem fr_tk_z {a b : ja_S} (h : fr_tk a b) : fr_z a b := ⟨fun k j x _ => h.1 k j (by omega), h.2⟩
section CPZ
variable {f : Nat → Nat} {n : Nat} {σ : ja_S}
theorem byteAt_ok {q e i : Nat} (h : ps_ok f n σ q e) (hi : i < 2 ^ 30) : f_SheetParser_byteAt 1 (nI i) σ = some (pz_i f n i, σ) := by
  obtain ⟨h1, h2, h3, h4, h5, h6, h7, h8⟩ := h
  unfold f_SheetParser_byteAt pz_i
  rw [if_neg (nI_pos (by omega)), h1, show ja_q 1 2 = 2 from rfl, L0_len (k := 2) (N := 900) rfl]
  by_cases hin : i < n
  · rw [if_neg (nI_ge hin (by omega)), if_neg (show ¬ Int32.ofNat 900 ≤ nI i from nI_ge (by omega) (by omega)), ld0 (N := 900) rfl (by omega) (by omega), Option.bind_some, if_pos hin, h4 i hin]
  · rw [if_pos (nI_le (by omega) (by omega)), if_neg hin]
theorem let_ok {i : Nat} (h6 : ∀ i, i < n → f i < 256) : f_SheetParser_isLetter (pz_i f n i) σ = some (am_bz (decide (i < n) && pz_L (f i)), σ) := by
  unfold f_SheetParser_isLetter pz_i
  by_cases hin : i < n
  · have := h6 i hin
    rw [if_pos hin, show (97 : Int32) = nI 97 by decide +kernel, show (122 : Int32) = nI 122 by decide +kernel, decide_eq_true hin, Bool.true_and]
    unfold pz_L
    by_cases c1 : f i < 97
    · rw [if_pos (nI_lt c1 (by omega)), decide_eq_false (by omega)]
      rfl
    · rw [if_neg (nI_nlt (by omega) (by omega))]
      by_cases c2 : 122 < f i
      · rw [if_pos (nI_lt c2 (by omega)), decide_eq_false (by omega)]
        rfl
      · rw [if_neg (nI_nlt (by omega) (by omega)), decide_eq_true (by omega)]
        rfl
  · rw [if_neg hin, if_pos (show (-1 : Int32) < 97 by decide), decide_eq_false hin]
    rfl
theorem dig_ok {i : Nat} (h6 : ∀ i, i < n → f i < 256) : f_SheetParser_isDigit (pz_i f n i) σ = some (am_bz (pz_d f n i), σ) := by
  unfold f_SheetParser_isDigit pz_i pz_d
  by_cases hin : i < n
  · have := h6 i hin
    rw [if_pos hin, show (48 : Int32) = nI 48 by decide +kernel, show (57 : Int32) = nI 57 by decide +kernel, decide_eq_true hin, Bool.true_and]
    unfold pz_D
    by_cases c1 : f i < 48
    · rw [if_pos (nI_lt c1 (by omega)), decide_eq_false (by omega)]
      rfl
    · rw [if_neg (nI_nlt (by omega) (by omega))]
      by_cases c2 : 57 < f i
      · rw [if_pos (nI_lt c2 (by omega)), decide_eq_false (by omega)]
        rfl
      · rw [if_neg (nI_nlt (by omega) (by omega)), decide_eq_true (by omega)]
        rfl
  · rw [if_neg hin, if_pos (show (-1 : Int32) < 48 by decide), decide_eq_false hin]
    rfl
theorem ps_si4 {q e q' : Nat} (h : ps_ok f n σ q e) (hq : q' ≤ n) : ps_ok f n (ja_si σ 1 4 (nI q')) q' e := by
  obtain ⟨h1, h2, h3, h4, h5, h6, h7, h8⟩ := h
  refine ⟨?_, ?_, ?_, fun i hi => ?_, h5, h6, hq, h8⟩
  · rw [si_at, if_neg (by omega)]; exact h1
  · rw [si_at, if_pos ⟨rfl, rfl⟩]
  · rw [si_at, if_neg (by omega)]; exact h3
  · rw [si_row (by omega)]; exact h4 i hi
theorem ps_si5 {q e e' : Nat} (h : ps_ok f n σ q e) (he : e' ≤ n) : ps_ok f n (ja_si σ 1 5 (nI e')) q e' := by
  obtain ⟨h1, h2, h3, h4, h5, h6, h7, h8⟩ := h
  refine ⟨?_, ?_, ?_, fun i hi => ?_, h5, h6, h7, he⟩
  · rw [si_at, if_neg (by omega)]; exact h1
  · rw [si_at, if_neg (by omega)]; exact h2
  · rw [si_at, if_pos ⟨rfl, rfl⟩]
  · rw [si_row (by omega)]; exact h4 i hi
theorem tk_si {j : Nat} {v : Int32} (hj : j = 4 ∨ j = 5) : fr_tk σ (ja_si σ 1 j v) := ⟨fun k i h => by rw [si_at, if_neg (by omega)], rfl⟩
theorem fr_tk_tr {a b c : ja_S} (h1 : fr_tk a b) (h2 : fr_tk b c) : fr_tk a c := ⟨fun k j x => (h2.1 k j x).trans (h1.1 k j x), h2.2.trans h1.2⟩
/-- the loop that lengthens a token -/
theorem step_L86 {P : Nat → Bool} {wl wd : Bool} (hP : ∀ i, i < n → P i = ((wl && pz_L (f i)) || (wd && pz_D (f i)))) : ∀ (m k : Nat) (σ : ja_S) (q e : Nat), ps_ok f n σ q e → n - e < k → ∃ σ', f_SheetParser_step_L86 k 1 (am_bz wl) (am_bz wd) σ = some σ' ∧ ps_ok f n σ' q (pz_end P n e) ∧ fr_tk σ σ' := by
  intro m k
  induction k with
  | zero => intro σ q e _ h; omega
  | succ k ih =>
    intro σ q e h hk
    obtain ⟨h1, h2, h3, h4, h5, h6, h7, h8⟩ := id h
    rw [f_SheetParser_step_L86, h1, h3, end_eq]
    by_cases hen : n ≤ e
    · rw [if_pos (nI_le hen (by omega)), if_neg (by omega)]
      exact ⟨σ, rfl, h, ⟨fun _ _ _ => rfl, rfl⟩⟩
    · have hb := byteAt_ok (i := e) h (by omega)
      have hl : f_SheetParser_isLetter (pz_i f n e) σ = some (am_bz (pz_L (f e)), σ) := by rw [let_ok h6, decide_eq_true (by omega), Bool.true_and]
      have hd : f_SheetParser_isDigit (pz_i f n e) σ = some (am_bz (pz_D (f e)), σ) := by
        rw [dig_ok h6]
        unfold pz_d
        rw [decide_eq_true (by omega), Bool.true_and]
      have hPe := hP e (by omega)
      have hmore : P e = true → ∃ σ', f_SheetParser_step_B133 (f_SheetParser_step_L86 k) 1 (am_bz wl) (am_bz wd) σ = some σ' ∧ ps_ok f n σ' q (if e < n ∧ P e = true then pz_end P n (e + 1) else e) ∧ fr_tk σ σ' := by
        intro hp
        unfold f_SheetParser_step_B133 ja_pu
        rw [Option.bind_some, h3, nI_1, if_pos ⟨by omega, hp⟩]
        obtain ⟨σ', e1, e2, e3⟩ := ih (ja_si σ 1 5 (nI (e + 1))) q (e + 1) (ps_si5 h (by omega)) (by omega)
        exact ⟨σ', e1, e2, fr_tk_tr (tk_si (by omega)) e3⟩
      have hstop : P e = false → ∃ σ', some σ = some σ' ∧ ps_ok f n σ' q (if e < n ∧ P e = true then pz_end P n (e + 1) else e) ∧ fr_tk σ σ' := by
        intro hp
        rw [if_neg (fun z => by rw [hp] at z; cases z.2)]
        exact ⟨σ, rfl, h, ⟨fun _ _ _ => rfl, rfl⟩⟩
      have hB115 : (wl && pz_L (f e)) = false → ∃ σ', f_SheetParser_step_B115 (f_SheetParser_step_L86 k) 1 (am_bz wl) (am_bz wd) σ = some σ' ∧ ps_ok f n σ' q (if e < n ∧ P e = true then pz_end P n (e + 1) else e) ∧ fr_tk σ σ' := by
        intro hw
        rw [hw, Bool.false_or] at hPe
        unfold f_SheetParser_step_B115
        cases wd with
        | false =>
          rw [if_pos (am_bz0.mpr rfl)]
          exact hstop (by rw [hPe]; rfl)
        | true =>
          rw [if_neg bz1, h3, hb, Option.bind_some, hd, Option.bind_some]
          rw [Bool.true_and] at hPe
          cases hD : pz_D (f e) with
          | false =>
            rw [if_pos (am_bz0.mpr rfl)]
            exact hstop (by rw [hPe, hD])
          | true =>
            rw [if_neg bz1]
            exact hmore (by rw [hPe, hD])
      rw [if_neg (nI_ge (by omega) (by omega))]
      by_cases hwl : wl = true
      · rw [if_neg (by rw [hwl]; exact bz1), hb, Option.bind_some, hl, Option.bind_some]
        cases hL : pz_L (f e) with
        | false =>
          rw [if_pos (am_bz0.mpr rfl)]
          exact hB115 (by rw [hL, Bool.and_false])
        | true =>
          rw [if_neg bz1]
          exact hmore (by rw [hPe, hwl, hL]; rfl)
      · have hwl' : wl = false := by simpa using hwl
        rw [if_pos (am_bz0.mpr hwl')]
        exact hB115 (by rw [hwl']; rfl)
theorem te_as {q : Nat} (hq : q ≤ n) : pz_te f n q = pz_end (fun i => ((decide (q < n) && pz_L (f q)) && pz_L (f i)) || (pz_d f n q && pz_D (f i))) n (min (q + 1) n) := by
  unfold pz_te pz_d
  by_cases h1 : q < n
  · rw [if_pos h1, decide_eq_true h1, Bool.true_and, Bool.true_and, show min (q + 1) n = q + 1 by omega]
    cases hL : pz_L (f q) with
    | true =>
      have hD : pz_D (f q) = false := by
        have := of_decide_eq_true hL
        exact decide_eq_false (by omega)
      rw [if_pos rfl, hD]
      unfold pz_lt
      rw [end_eq, if_pos ⟨h1, hL⟩]
      congr 1
      funext i
      rw [Bool.true_and, Bool.false_and, Bool.or_false]
    | false =>
      rw [if_neg (fun z => by cases z)]
      cases hD : pz_D (f q) with
      | true =>
        rw [if_pos rfl]
        unfold pz_dg
        rw [end_eq, if_pos ⟨h1, hD⟩]
        congr 1
      | false =>
        rw [if_neg (fun z => by cases z), end_eq, if_neg (fun z => by cases z.2)]
  · rw [if_neg h1, show min (q + 1) n = n by omega, end_eq, if_neg (by omega)]
theorem step_L8 : ∀ (k : Nat) (σ : ja_S) (q e : Nat), ps_ok f n σ q e → n - q < k → ∃ σ', f_SheetParser_step_L8 k 1 σ = some σ' ∧ ps_ok f n σ' (pz_sk f n q) (pz_te f n (pz_sk f n q)) ∧ fr_tk σ σ' := by
  intro k
  -- the token's end
  have hB45 : ∀ (σ : ja_S) (q e : Nat), ps_ok f n σ q e → ∃ σ', f_SheetParser_step_B45 1 σ = some σ' ∧ ps_ok f n σ' q (pz_te f n q) ∧ fr_tk σ σ' := by
    intro σ q e h
    obtain ⟨h1, h2, h3, h4, h5, h6, h7, h8⟩ := id h
    have hb := byteAt_ok (i := q) h (by omega)
    unfold f_SheetParser_step_B45 ja_pu
    rw [h2, hb, Option.bind_some, let_ok h6, Option.bind_some, h2, hb, Option.bind_some, dig_ok h6, Option.bind_some, Option.bind_some, h1, h2, nI_1]
    have hmin : (if nI n < nI (q + 1) then nI n else nI (q + 1)) = nI (min (q + 1) n) := by
      by_cases c : n < q + 1
      · rw [if_pos (nI_lt c (by omega)), show min (q + 1) n = n by omega]
      · rw [if_neg (nI_nlt (by omega) (by omega)), show min (q + 1) n = q + 1 by omega]
    rw [hmin, te_as h7]
    obtain ⟨σ', e1, e2, e3⟩ := step_L86 (P := fun i => ((decide (q < n) && pz_L (f q)) && pz_L (f i)) || (pz_d f n q && pz_D (f i))) (fun i _ => rfl) 0 ja_FU (ja_si σ 1 5 (nI (min (q + 1) n))) q (min (q + 1) n) (ps_si5 h (by omega)) (by unfold ja_FU; omega)
    exact ⟨σ', e1, e2, fr_tk_tr (tk_si (by omega)) e3⟩
  induction k with
  | zero => intro σ q e _ h; omega
  | succ k ih =>
    intro σ q e h hk
    obtain ⟨h1, h2, h3, h4, h5, h6, h7, h8⟩ := id h
    have hsk : pz_sk f n q = if q < n ∧ (f q == 32) = true then pz_sk f n (q + 1) else q := end_eq
    rw [f_SheetParser_step_L8, h1, h2]
    by_cases hqn : n ≤ q
    · rw [if_neg (by omega)] at hsk
      rw [if_pos (nI_le hqn (by omega)), hsk]
      exact hB45 σ q e h
    · have hfq := h6 q (by omega)
      rw [if_neg (nI_ge (by omega) (by omega)), byteAt_ok h (by omega), Option.bind_some, pz_i_lt (by omega), show (32 : Int32) = nI 32 by decide +kernel]
      by_cases hc : f q = 32
      · rw [if_pos ⟨by omega, by rw [hc]; rfl⟩] at hsk
        unfold ja_pu
        rw [if_pos (by rw [hc]), Option.bind_some, h2, nI_1, hsk]
        obtain ⟨σ', e1, e2, e3⟩ := ih (ja_si σ 1 4 (nI (q + 1))) (q + 1) e (ps_si4 h (by omega)) (by omega)
        exact ⟨σ', e1, e2, fr_tk_tr (tk_si (by omega)) e3⟩
      · rw [if_neg (fun z => hc (beq_iff_eq.mp z.2))] at hsk
        rw [if_neg (nI_ne hc (by omega) (by omega)), hsk]
        exact hB45 σ q e h
theorem step_ok {q e : Nat} (h : ps_ok f n σ q e) : ∃ σ', f_SheetParser_step 1 σ = some σ' ∧ tk_ok f n σ' e ∧ fr_tk σ σ' := by
  have h3 := h.2.2.1
  have h8 := h.2.2.2.2.2.2.2
  obtain ⟨σ', e1, e2, e3⟩ := step_L8 ja_FU (ja_si σ 1 4 (nI e)) e e (ps_si4 h h8) (by have := h.2.2.2.2.1; unfold ja_FU; omega)
  refine ⟨σ', ?_, ⟨e2, h8⟩, fr_tk_tr (tk_si (by omega)) e3⟩
  unfold f_SheetParser_step ja_pu
  rw [Option.bind_some, h3]
  exact e1
def cf_st (σ : ja_S) (c : Nat) : ja_S := ja_si (ja_si σ 1 0 (nI c)) 1 1 (σ.1 1 4)
theorem fail_ok {c : Nat} {v : Int32} (hv : v = nI c) : f_SheetParser_fail 1 v σ = some (0, cf_st σ c) := by
  unfold f_SheetParser_fail ja_pu cf_st
  rw [Option.bind_some, Option.bind_some, hv, si_at, if_neg (by omega)]
/-- what a failure leaves -/
def er_ok (σ : ja_S) (e : Nat × Nat) : Prop := σ.1 1 0 = nI e.1 ∧ σ.1 1 1 = nI e.2
theorem cf_er {q e c : Nat} (h : ps_ok f n σ q e) : er_ok (cf_st σ c) (c, q) ∧ fr_z σ (cf_st σ c) := by
  unfold er_ok cf_st
  refine ⟨⟨?_, ?_⟩, fun k j x y => ?_, rfl⟩
  · rw [si_at, if_neg (by omega), si_at, if_pos ⟨rfl, rfl⟩]
  · rw [si_at, if_pos ⟨rfl, rfl⟩]; exact h.2.1
  · rw [si_at, if_neg (by omega), si_at, if_neg (by omega)]
theorem num_L30 {q : Nat} {lo h : Int32} (hq : pz_d f n q = true) : ∀ (d k j : Nat), ps_ok f n σ q (pz_dg f n q) → j + d = min (pz_dg f n q - q) 4 → d < k → f_SheetParser_numberHere_L30 k 1 lo h (nI (pz_v f q j)) (nI (q + j)) σ = f_SheetParser_numberHere_B71 1 lo h (nI (pz_v f q (min (pz_dg f n q - q) 4))) σ := by
  obtain ⟨t1, t2, t3, t4⟩ := dg_te hq
  have hall : ∀ i, i < pz_dg f n q - q → pz_D (f (q + i)) = true := fun i hi => end_all (P := fun i => pz_D (f i)) (n := n) (p := q) (by omega) (by unfold pz_dg at hi; omega)
  intro d
  induction d with
  | zero =>
    intro k j hps hj hk
    obtain ⟨k, rfl⟩ : ∃ i, k = i + 1 := ⟨k - 1, by omega⟩
    obtain ⟨h1, h2, h3, h4, h5, h6, h7, h8⟩ := hps
    rw [f_SheetParser_numberHere_L30, h3, h2, show (4 : Int32) = nI 4 by decide +kernel, nI_add, show j = min (pz_dg f n q - q) 4 by omega]
    by_cases c : pz_dg f n q ≤ q + min (pz_dg f n q - q) 4
    · rw [if_pos (nI_le c (by omega))]
    · rw [if_neg (nI_ge (by omega) (by omega)), if_pos (nI_le (by omega) (by omega))]
  | succ d ih =>
    intro k j hps hj hk
    obtain ⟨k, rfl⟩ : ∃ i, k = i + 1 := ⟨k - 1, by omega⟩
    obtain ⟨h1, h2, h3, h4, h5, h6, h7, h8⟩ := id hps
    have hD := of_decide_eq_true (hall j (by omega))
    rw [f_SheetParser_numberHere_L30, h3, h2, show (4 : Int32) = nI 4 by decide +kernel, nI_add, if_neg (nI_ge (by omega) (by omega)), if_neg (nI_ge (by omega) (by omega)), byteAt_ok hps (by omega), Option.bind_some, pz_i_lt (by omega)]
    have hvs : pz_v f q (j + 1) = 10 * pz_v f q j + (f (q + j) - 48) := rfl
    rw [show (10 : Int32) = nI 10 by decide +kernel, pk_mul, nI_add, show (48 : Int32) = nI 48 by decide +kernel, pk_sub (by omega), nI_1, show 10 * pz_v f q j + f (q + j) - 48 = pz_v f q (j + 1) by rw [hvs]; omega]
    exact ih k (j + 1) hps (by omega) (by omega)
theorem numHere_ok {p lo h : Nat} (ht : tk_ok f n σ p) (hlo : lo < 100) (hh : h < 100) : (∃ e, pz_num f n lo h p = Sum.inl e ∧ ∃ σ', f_SheetParser_numberHere 1 (nI lo) (am_cd h) σ = some (-1, σ') ∧ er_ok σ' e ∧ fr_z σ σ') ∨ ∃ v p1, pz_num f n lo h p = Sum.inr (v, p1) ∧ f_SheetParser_numberHere 1 (nI lo) (am_cd h) σ = some (nI v, σ) ∧ v < h ∧ lo ≤ v ∧ ps_ok f n σ (pz_sk f n p) p1 ∧ p < p1 := by
  obtain ⟨hps, hpn⟩ := ht
  obtain ⟨h1, h2, h3, h4, h5, h6, h7, h8⟩ := id hps
  unfold f_SheetParser_numberHere
  rw [h2, byteAt_ok hps (by omega), Option.bind_some, dig_ok h6, Option.bind_some]
  cases hd : pz_d f n (pz_sk f n p) with
  | false =>
    refine Or.inl ⟨(1, pz_sk f n p), ?_, cf_st σ 1, ?_, (cf_er hps).1, (cf_er hps).2⟩
    · unfold pz_num
      rw [hd, if_neg (fun z => by cases z)]
    · rw [if_pos (am_bz0.mpr rfl), fail_ok (c := 1) (by decide +kernel), Option.bind_some]
  | true =>
    obtain ⟨t1, t2, t3, t4⟩ := dg_te hd
    rw [t1] at hps h3
    have hloop := num_L30 (σ := σ) (lo := nI lo) (h := am_cd h) hd (min (pz_dg f n (pz_sk f n p) - pz_sk f n p) 4) ja_FU 0 hps (by omega) (by unfold ja_FU; omega)
    have hall : ∀ i, i < pz_dg f n (pz_sk f n p) - pz_sk f n p → pz_D (f (pz_sk f n p + i)) = true := fun i hi => end_all (P := fun i => pz_D (f i)) (n := n) (p := pz_sk f n p) (by omega) (by unfold pz_dg at hi; omega)
    have hv := v_le (f := f) (q := pz_sk f n p) (min (pz_dg f n (pz_sk f n p) - pz_sk f n p) 4) (by omega) (fun i hi => hall i (by omega))
    have hz : nI (pz_v f (pz_sk f n p) 0) = 0 := am_z.symm
    rw [Nat.add_zero, hz] at hloop
    have hsk := sk_le (f := f) hpn
    have hcmp : ∀ v : Nat, v < 10000 → (nI v ≤ am_cd h ↔ v < h) := by
      intro v hv2
      rw [Int32.le_iff_toInt_le, nI_toInt (by omega)]
      unfold am_cd
      rw [nI_dec (by omega)]
      omega
    rw [if_neg bz1, h2, hloop]
    unfold f_SheetParser_numberHere_B71 f_SheetParser_numberHere_B94
    rw [h2, h3, show (4 : Int32) = nI 4 by decide +kernel, pk_sub (by omega), fail_ok (c := 2) (by decide +kernel), Option.bind_some]
    have bad : ¬ (pz_dg f n (pz_sk f n p) - pz_sk f n p ≤ 4 ∧ lo ≤ pz_v f (pz_sk f n p) (min (pz_dg f n (pz_sk f n p) - pz_sk f n p) 4) ∧ pz_v f (pz_sk f n p) (min (pz_dg f n (pz_sk f n p) - pz_sk f n p) 4) < h) → pz_num f n lo h p = Sum.inl (2, pz_sk f n p) := by
      intro hb
      unfold pz_num
      rw [if_pos hd, if_neg hb]
    by_cases c1 : 4 < pz_dg f n (pz_sk f n p) - pz_sk f n p
    · rw [if_pos (nI_lt c1 (by omega))]
      exact Or.inl ⟨_, bad (by omega), _, rfl, (cf_er hps).1, (cf_er hps).2⟩
    · rw [if_neg (nI_nlt (by omega) (by omega))]
      by_cases c2 : pz_v f (pz_sk f n p) (min (pz_dg f n (pz_sk f n p) - pz_sk f n p) 4) < lo
      · rw [if_pos (nI_lt c2 (by omega))]
        exact Or.inl ⟨_, bad (by omega), _, rfl, (cf_er hps).1, (cf_er hps).2⟩
      · rw [if_neg (nI_nlt (by omega) (by omega))]
        by_cases c3 : pz_v f (pz_sk f n p) (min (pz_dg f n (pz_sk f n p) - pz_sk f n p) 4) < h
        · rw [if_pos ((hcmp _ hv).mpr c3)]
          refine Or.inr ⟨_, _, ?_, rfl, c3, by omega, hps, by omega⟩
          unfold pz_num
          rw [if_pos hd, if_pos ⟨by omega, by omega, c3⟩]
        · rw [if_neg (fun z => c3 ((hcmp _ hv).mp z))]
          exact Or.inl ⟨_, bad (fun z => c3 z.2.2), _, rfl, (cf_er hps).1, (cf_er hps).2⟩
/-- the text constants of the class -/
def pz_cw (i : Nat) : List Nat := match i with
  | 0 => pz_ws 0
  | 1 => [59]
  | 2 => pz_ws 4
  | 3 => pz_ws 5
  | 4 => pz_ws 6
  | 5 => pz_ws 3
  | 6 => pz_ws 8
  | 7 => pz_ws 7
  | 8 => pz_ws 1
  | _ => pz_ws 2
theorem cw_len : ∀ i, i < 10 → ja_ln.getD i 0 = (pz_cw i).length ∧ (pz_cw i).length ≤ 8 ∧ ∀ j, j < (pz_cw i).length → ja_ch i j = nI ((pz_cw i).getD j 0) ∧ (pz_cw i).getD j 0 < 256 := by decide +kernel
theorem at_L20 {q e i : Nat} (hi : i < 10) (h : ps_ok f n σ q e) (he : e = q + (pz_cw i).length) : ∀ (d k j : Nat), j + d = (pz_cw i).length → d < k → f_SheetParser_atText_L20 k 1 (1000 + i) (nI j) σ = some (am_bz ((List.range' j d).all (fun t => f (q + t) == (pz_cw i).getD t 0)), σ) := by
  obtain ⟨c1, c2, c3⟩ := cw_len i hi
  obtain ⟨h1, h2, h3, h4, h5, h6, h7, h8⟩ := id h
  intro d
  induction d with
  | zero =>
    intro k j hj hk
    obtain ⟨k, rfl⟩ : ∃ t, k = t + 1 := ⟨k - 1, by omega⟩
    rw [f_SheetParser_atText_L20]
    unfold f_String_length
    rw [Option.bind_some, show 1000 + i - 1000 = i by omega, c1, if_pos (show Int32.ofNat (pz_cw i).length ≤ nI j from nI_le (by omega) (by omega))]
    rfl
  | succ d ih =>
    intro k j hj hk
    obtain ⟨k, rfl⟩ : ∃ t, k = t + 1 := ⟨k - 1, by omega⟩
    obtain ⟨g1, g2⟩ := c3 j (by omega)
    have hf := h6 (q + j) (by omega)
    rw [f_SheetParser_atText_L20]
    unfold f_String_length f_String_charAt
    rw [Option.bind_some, show 1000 + i - 1000 = i by omega, c1, if_neg (show ¬ Int32.ofNat (pz_cw i).length ≤ nI j from nI_ge (by omega) (by omega)), h2, nI_add, byteAt_ok h (by omega), Option.bind_some, nI_toInt (by omega), if_pos (by omega), Option.bind_some, Int.toNat_natCast, g1, pz_i_lt (by omega), nI_1]
    show _ = some (am_bz ((f (q + j) == (pz_cw i).getD j 0) && (List.range' (j + 1) d).all (fun t => f (q + t) == (pz_cw i).getD t 0)), σ)
    by_cases hc : f (q + j) = (pz_cw i).getD j 0
    · rw [if_pos (by rw [hc]), show (f (q + j) == (pz_cw i).getD j 0) = true from beq_iff_eq.mpr hc, Bool.true_and]
      exact ih k (j + 1) (by omega) (by omega)
    · rw [if_neg (nI_ne hc (by omega) (by omega)), show (f (q + j) == (pz_cw i).getD j 0) = false from beq_eq_false_iff_ne.mpr hc, Bool.false_and]
      rfl
theorem atText_ok {p i : Nat} (hi : i < 10) (ht : tk_ok f n σ p) : f_SheetParser_atText 1 (1000 + i) σ = some (am_bz (pz_w f n (pz_cw i) (pz_sk f n p)), σ) := by
  obtain ⟨hps, hpn⟩ := ht
  obtain ⟨c1, c2, c3⟩ := cw_len i hi
  obtain ⟨h1, h2, h3, h4, h5, h6, h7, h8⟩ := id hps
  have hte := te_le (f := f) h7
  unfold f_SheetParser_atText f_String_length pz_w
  rw [Option.bind_some, show 1000 + i - 1000 = i by omega, c1, h2, h3, pk_sub hte.1]
  by_cases hc : pz_te f n (pz_sk f n p) = pz_sk f n p + (pz_cw i).length
  · have hl := at_L20 hi hps hc (pz_cw i).length ja_FU 0 (by omega) (by unfold ja_FU; omega)
    rw [← am_z] at hl
    rw [if_pos (show nI (pz_te f n (pz_sk f n p) - pz_sk f n p) = Int32.ofNat (pz_cw i).length by rw [show pz_te f n (pz_sk f n p) - pz_sk f n p = (pz_cw i).length by omega]; rfl), hl, decide_eq_true hc, Bool.true_and, List.range_eq_range']
  · rw [if_neg (show ¬ nI (pz_te f n (pz_sk f n p) - pz_sk f n p) = Int32.ofNat (pz_cw i).length from nI_ne (by omega) (by omega) (by omega)), decide_eq_false hc]
    rfl
end CPZ
