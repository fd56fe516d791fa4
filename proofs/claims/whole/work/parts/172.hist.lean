/-! what is remembered: both sides -/
abbrev am_D : Type := Nat × Nat × Nat
def hs_ok (σ : ja_S) (ds : List am_D) : Prop := σ.1 13 0 = nI ds.length ∧ ds.length ≤ 12 ∧ ∀ i, i < ds.length → σ.1 14 i = nI (ds.getD (ds.length - 1 - i) (0, 0, 0)).1 ∧ σ.1 15 i = nI (ds.getD (ds.length - 1 - i) (0, 0, 0)).2.1 ∧ σ.1 16 i = nI (ds.getD (ds.length - 1 - i) (0, 0, 0)).2.2
def fr_hs (σ σ' : ja_S) : Prop := (∀ k j, (k < 13 ∨ 16 < k) → σ'.1 k j = σ.1 k j) ∧ σ'.2 = σ.2
theorem fr_hs_tr {a b c : ja_S} (h1 : fr_hs a b) (h2 : fr_hs b c) : fr_hs a c := ⟨fun x j h => (h2.1 x j h).trans (h1.1 x j h), h2.2.trans h1.2⟩
theorem cons_rev {α : Type} {d x : α} {ds : List α} {i : Nat} (h : i < ds.length + 1) : (d :: ds).getD ((d :: ds).length - 1 - i) x = if i = ds.length then d else ds.getD (ds.length - 1 - i) x := by
  rw [List.length_cons]
  by_cases hi : i = ds.length
  · rw [if_pos hi, hi, show ds.length + 1 - 1 - ds.length = 0 by omega]
    rfl
  · rw [if_neg hi, show ds.length + 1 - 1 - i = (ds.length - 1 - i) + 1 by omega]
    rfl
theorem note_B13 {σ : ja_S} {ds : List am_D} {d : am_D} (h : hs_ok σ ds) (hl : ds.length < 12) : ∃ σ', f_History_note_B13 13 (nI d.1) (nI d.2.1) (nI d.2.2) σ = some σ' ∧ hs_ok σ' (d :: ds) ∧ fr_hs σ σ' := by
  obtain ⟨h1, h2, h3⟩ := h
  unfold f_History_note_B13 ja_pu
  rw [show ja_q 13 4 = 14 from rfl, show ja_q 13 5 = 15 from rfl, show ja_q 13 6 = 16 from rfl, h1, st0' (N := 12) rfl hl (by omega), Option.bind_some, si_row (by omega), h1, st0' (N := 12) rfl hl (by omega), Option.bind_some, si_row (by omega), si_row (by omega), h1, st0' (N := 12) rfl hl (by omega), Option.bind_some, Option.bind_some, si_row (by omega), si_row (by omega), si_row (by omega), h1, nI_1]
  refine ⟨_, rfl, ⟨?_, by rw [List.length_cons]; omega, fun i hi => ?_⟩, fun k j hk => ?_, rfl⟩
  · rw [si_at, if_pos ⟨rfl, rfl⟩, List.length_cons]
  · rw [List.length_cons] at hi
    rw [cons_rev hi]
    by_cases hil : i = ds.length
    · rw [if_pos hil, hil]
      refine ⟨?_, ?_, ?_⟩
      · rw [si_row (by omega), si_row (by omega), si_row (by omega), si_at, if_pos ⟨rfl, rfl⟩]
      · rw [si_row (by omega), si_row (by omega), si_at, if_pos ⟨rfl, rfl⟩]
      · rw [si_row (by omega), si_at, if_pos ⟨rfl, rfl⟩]
    · rw [if_neg hil]
      have := h3 i (by omega)
      refine ⟨?_, ?_, ?_⟩
      · rw [si_row (by omega), si_row (by omega), si_row (by omega), si_at, if_neg (by omega)]; exact this.1
      · rw [si_row (by omega), si_row (by omega), si_at, if_neg (by omega), si_row (by omega)]; exact this.2.1
      · rw [si_row (by omega), si_at, if_neg (by omega), si_row (by omega), si_row (by omega)]; exact this.2.2
  · rw [si_at, if_neg (by omega), si_at, if_neg (by omega), si_at, if_neg (by omega), si_at, if_neg (by omega)]
/-- within one row: n places from sp to dp -/
theorem cps_ok {σ : ja_S} {a N sp dp n : Nat} (ha : ja_shl.getD a (0, 0) = (0, N)) (hN : N < 2 ^ 31) (h1 : sp + n ≤ N) (h2 : dp + n ≤ N) : ∃ σ', ja_cpi ja_L0 σ a (nI sp) a (nI dp) (nI n) = some σ' ∧ (∀ j, σ'.1 a j = if dp ≤ j ∧ j < dp + n then σ.1 a (sp + (j - dp)) else σ.1 a j) ∧ (∀ c j, c ≠ a → σ'.1 c j = σ.1 c j) ∧ σ'.2 = σ.2 := by
  unfold ja_cpi
  rw [L0_len ha, nI_toInt (by omega), nI_toInt (by omega), nI_toInt (by omega), if_pos (by omega)]
  refine ⟨_, rfl, fun j => ?_, fun c j hc => ?_, rfl⟩
  · show va_up σ.1 a (va_cpy (σ.1 a) (σ.1 a) sp dp n) a j = _
    rw [va_up_self]
    rfl
  · show va_up σ.1 a (va_cpy (σ.1 a) (σ.1 a) sp dp n) c j = _
    rw [va_up_ne _ _ hc]
theorem forget_old {σ : ja_S} {ds : List am_D} (h : hs_ok σ ds) (hl : ds.length = 12) : ∃ σ', f_History_forgetOldest 13 σ = some σ' ∧ hs_ok σ' (ds.take 11) ∧ fr_hs σ σ' := by
  obtain ⟨h1, h2, h3⟩ := h
  have hlen : (ds.take 11).length = 11 := by rw [List.length_take, hl]; rfl
  obtain ⟨σ1, a1, a2, a3, a4⟩ := cps_ok (σ := ja_si σ 13 0 11) (a := 14) (N := 12) (sp := 1) (dp := 0) (n := 11) rfl (by omega) (by omega) (by omega)
  obtain ⟨σ2, b1, b2, b3, b4⟩ := cps_ok (σ := σ1) (a := 15) (N := 12) (sp := 1) (dp := 0) (n := 11) rfl (by omega) (by omega) (by omega)
  obtain ⟨σ3, c1, c2, c3, c4⟩ := cps_ok (σ := σ2) (a := 16) (N := 12) (sp := 1) (dp := 0) (n := 11) rfl (by omega) (by omega) (by omega)
  have e0 : (ja_si σ 13 0 11).1 13 0 = nI 11 := by rw [si_at, if_pos ⟨rfl, rfl⟩]; decide +kernel
  refine ⟨σ3, ?_, ⟨?_, by omega, fun i hi => ?_⟩, fun k j hk => ?_, ?_⟩
  · unfold f_History_forgetOldest ja_pu
    rw [show ja_q 13 4 = 14 from rfl, show ja_q 13 5 = 15 from rfl, show ja_q 13 6 = 16 from rfl, Option.bind_some, e0, show (1 : Int32) = nI 1 by decide +kernel, show (0 : Int32) = nI 0 by decide +kernel]
    rw [show (11 : Int32) = nI 11 by decide +kernel] at a1
    have a1' : ja_cpi ja_L0 (ja_si σ 13 0 11) 14 (nI 1) 14 (nI 0) (nI 11) = some σ1 := by
      rw [show (11 : Int32) = nI 11 by decide +kernel]; exact a1
    rw [a1', Option.bind_some, a3 13 0 (by omega), e0, b1, Option.bind_some, b3 13 0 (by omega), a3 13 0 (by omega), e0, c1, Option.bind_some]
  · rw [c3 13 0 (by omega), b3 13 0 (by omega), a3 13 0 (by omega), e0, hlen]
  · rw [hlen] at hi ⊢
    have := h3 (i + 1) (by omega)
    rw [hl, show 12 - 1 - (i + 1) = 11 - 1 - i by omega] at this
    have hg : (ds.take 11).getD (11 - 1 - i) (0, 0, 0) = ds.getD (11 - 1 - i) (0, 0, 0) := by
      rw [List.getD_eq_getElem?_getD, List.getD_eq_getElem?_getD, List.getElem?_take_of_lt (by omega)]
    rw [hg]
    refine ⟨?_, ?_, ?_⟩
    · rw [c3 14 i (by omega), b3 14 i (by omega), a2 i, if_pos (by omega), show 1 + (i - 0) = i + 1 by omega, si_row (by omega)]; exact this.1
    · rw [c3 15 i (by omega), b2 i, if_pos (by omega), show 1 + (i - 0) = i + 1 by omega, a3 15 _ (by omega), si_row (by omega)]; exact this.2.1
    · rw [c2 i, if_pos (by omega), show 1 + (i - 0) = i + 1 by omega, b3 16 _ (by omega), a3 16 _ (by omega), si_row (by omega)]; exact this.2.2
  · rw [c3 k j (by omega), b3 k j (by omega), a3 k j (by omega), si_at, if_neg (by omega)]
  · rw [c4, b4, a4, si_l]
theorem note_ok {σ : ja_S} {ds : List am_D} {d : am_D} (h : hs_ok σ ds) : ∃ σ', f_History_note 13 (nI d.1) (nI d.2.1) (nI d.2.2) σ = some σ' ∧ hs_ok σ' (d :: ds.take 11) ∧ fr_hs σ σ' := by
  have h1 := h.1
  have h2 := h.2.1
  unfold f_History_note
  rw [h1, show (12 : Int32) = nI 12 by decide +kernel]
  by_cases hl : ds.length < 12
  · rw [if_pos (nI_lt hl (by omega)), List.take_of_length_le (by omega)]
    exact note_B13 h hl
  · rw [if_neg (nI_nlt (by omega) (by omega))]
    obtain ⟨σ1, e1, e2, e3⟩ := forget_old h (by omega)
    obtain ⟨σ2, g1, g2, g3⟩ := note_B13 (d := d) e2 (by rw [List.length_take]; omega)
    rw [e1, Option.bind_some, g1]
    exact ⟨σ2, rfl, g2, fr_hs_tr e3 g3⟩
/-! the reference remembers -/
abbrev am_O : Type := List am_R × Nat
def rm_ok (τ : ja_S) (os : List am_O) : Prop := τ.1 45 8 = nI os.length ∧ os.length ≤ 12 ∧ ∀ i, i < os.length → am_s (τ.1 47) (98 * i) (os.getD (os.length - 1 - i) ([], 0))
def fr_rm (τ τ' : ja_S) : Prop := (∀ k j, k ≠ 47 → (k ≠ 45 ∨ j ≠ 8) → τ'.1 k j = τ.1 k j) ∧ τ'.2 = τ.2
theorem rem_L51 {m : Nat} (hm : m < 12) : ∀ (n i : Nat) (τ : ja_S), i ≤ 98 → 98 - i < n → τ.1 45 8 = nI m → ∃ τ', f_Model_remembers_L51 n 45 (nI i) τ = some τ' ∧ τ'.1 45 8 = nI (m + 1) ∧ (∀ p, τ'.1 47 p = if 98 * m + i ≤ p ∧ p < 98 * m + 98 then τ.1 46 (p - 98 * m) else τ.1 47 p) ∧ fr_rm τ τ' := by
  intro n
  induction n with
  | zero => intro i τ _ h; omega
  | succ n ih =>
    intro i τ hi hn h8
    rw [f_Model_remembers_L51, show (98 : Int32) = nI 98 by decide +kernel]
    by_cases h : i = 98
    · unfold ja_pu
      rw [h, if_pos (nI_le (Nat.le_refl _) (by omega)), Option.bind_some, h8, nI_1]
      refine ⟨_, rfl, ?_, fun p => ?_, fun k j h1 h2 => ?_, rfl⟩
      · rw [si_at, if_pos ⟨rfl, rfl⟩]
      · rw [si_row (by omega), if_neg (by omega)]
      · rw [si_at, if_neg (by omega)]
    · rw [if_neg (nI_ge (by omega) (by omega)), show ja_q 45 3 = 46 from rfl, show ja_q 45 4 = 47 from rfl, ld0 (N := 98) rfl (by omega) (by omega), Option.bind_some, h8, pk_mul, nI_add, st0' (N := 1176) rfl (by omega) (by omega), Option.bind_some, nI_1]
      obtain ⟨τ', e1, e2, e3, e4, e5⟩ := ih (i + 1) (ja_si τ 47 (98 * m + i) (τ.1 46 i)) (by omega) (by omega) (by rw [si_row (by omega)]; exact h8)
      refine ⟨τ', e1, e2, fun p => ?_, fun k j h1 h2 => ?_, e5⟩
      · rw [e3 p, si_row (a := 46) (by omega), si_at]
        by_cases hp : p = 98 * m + i
        · rw [if_neg (by omega), if_pos ⟨rfl, hp⟩, if_pos (by omega), hp, show 98 * m + i - 98 * m = i by omega]
        · have hp2 : ¬ (47 = 47 ∧ p = 98 * m + i) := fun z => hp z.2
          by_cases hc : 98 * m + (i + 1) ≤ p ∧ p < 98 * m + 98
          · rw [if_pos hc, if_pos (by omega)]
          · rw [if_neg hc, if_neg hp2, if_neg (by omega)]
      · rw [e4 k j h1 h2, si_row h1]
theorem rem_L11 : ∀ (n i : Nat) (τ : ja_S), i ≤ 1078 → 1078 - i < n → τ.1 45 8 = nI 12 → ∃ τ', f_Model_remembers_L11 n 45 (nI i) τ = f_Model_remembers_L51 ja_FU 45 0 τ' ∧ τ'.1 45 8 = nI 11 ∧ (∀ p, τ'.1 47 p = if i ≤ p ∧ p < 1078 then τ.1 47 (p + 98) else τ.1 47 p) ∧ fr_rm τ τ' := by
  intro n
  induction n with
  | zero => intro i τ _ h; omega
  | succ n ih =>
    intro i τ hi hn h8
    rw [f_Model_remembers_L11, show (1078 : Int32) = nI 1078 by decide +kernel]
    by_cases h : i = 1078
    · unfold ja_pu
      rw [h, if_pos (nI_le (Nat.le_refl _) (by omega)), Option.bind_some, h8, show nI 12 - 1 = nI 11 by decide +kernel]
      refine ⟨_, rfl, ?_, fun p => ?_, fun k j h1 h2 => ?_, rfl⟩
      · rw [si_at, if_pos ⟨rfl, rfl⟩]
      · rw [si_row (by omega), if_neg (by omega)]
      · rw [si_at, if_neg (by omega)]
    · rw [if_neg (nI_ge (by omega) (by omega)), show ja_q 45 4 = 47 from rfl, ja_ad 98 98 (by decide +kernel), ld0 (N := 1176) rfl (by omega) (by omega), Option.bind_some, st0' (N := 1176) rfl (by omega) (by omega), Option.bind_some, nI_1]
      obtain ⟨τ', e1, e2, e3, e4, e5⟩ := ih (i + 1) (ja_si τ 47 i (τ.1 47 (i + 98))) (by omega) (by omega) (by rw [si_row (by omega)]; exact h8)
      refine ⟨τ', e1, e2, fun p => ?_, fun k j h1 h2 => ?_, e5⟩
      · rw [e3 p]
        by_cases hp : p = i
        · rw [if_neg (by omega), si_at, if_pos ⟨rfl, hp⟩, if_pos (by omega), hp]
        · by_cases hc : i + 1 ≤ p ∧ p < 1078
          · rw [if_pos hc, if_pos (by omega), si_at, if_neg (by omega)]
          · rw [if_neg hc, si_at, if_neg (by omega), if_neg (by omega)]
      · rw [e4 k j h1 h2, si_row h1]
theorem s_at {f g : Nat → Int32} {p r : Nat} {o : am_O} (h : am_s f p o) (h24 : o.1.length ≤ 24) (hfg : ∀ j, j < 98 → g (r + j) = f (p + j)) : am_s g r o := by
  obtain ⟨h1, h2, h3⟩ := h
  refine ⟨?_, ?_, fun i hi => ?_⟩
  · have := hfg 0 (by omega)
    rw [Nat.add_zero, Nat.add_zero] at this
    rw [this]; exact h1
  · rw [hfg 1 (by omega)]; exact h2
  · have := h3 i hi
    rw [show r + 2 + 4 * i = r + (2 + 4 * i) by omega, show r + (2 + 4 * i) + 1 = r + (2 + 4 * i + 1) by omega, show r + (2 + 4 * i) + 2 = r + (2 + 4 * i + 2) by omega, show r + (2 + 4 * i) + 3 = r + (2 + 4 * i + 3) by omega, hfg _ (by omega), hfg _ (by omega), hfg _ (by omega), hfg _ (by omega)]
    rw [show p + (2 + 4 * i) = p + 2 + 4 * i by omega, show p + (2 + 4 * i + 1) = p + 2 + 4 * i + 1 by omega, show p + (2 + 4 * i + 2) = p + 2 + 4 * i + 2 by omega, show p + (2 + 4 * i + 3) = p + 2 + 4 * i + 3 by omega]
    exact this
theorem remembers_ok {τ : ja_S} {os : List am_O} {o : am_O} (h : rm_ok τ os) (ho : am_s (τ.1 46) 0 o) (ho24 : o.1.length ≤ 24) (h24 : ∀ q ∈ os, q.1.length ≤ 24) : ∃ τ', f_Model_remembers 45 τ = some τ' ∧ rm_ok τ' (o :: os.take 11) ∧ fr_rm τ τ' := by
  obtain ⟨h1, h2, h3⟩ := h
  -- room for one more
  have room : ∀ (τ1 : ja_S) (os1 : List am_O), rm_ok τ1 os1 → os1.length < 12 → am_s (τ1.1 46) 0 o → (∀ q ∈ os1, q.1.length ≤ 24) → ∃ τ', f_Model_remembers_L51 ja_FU 45 0 τ1 = some τ' ∧ rm_ok τ' (o :: os1) ∧ fr_rm τ1 τ' := by
    intro τ1 os1 hr hl hs hq
    obtain ⟨r1, r2, r3⟩ := hr
    obtain ⟨τ', e1, e2, e3, e4⟩ := rem_L51 hl ja_FU 0 τ1 (by omega) (by unfold ja_FU; omega) r1
    rw [← am_z] at e1
    refine ⟨τ', e1, ⟨by rw [e2, List.length_cons], by rw [List.length_cons]; omega, fun i hi => ?_⟩, e4⟩
    rw [List.length_cons] at hi
    rw [cons_rev hi]
    by_cases hil : i = os1.length
    · rw [if_pos hil]
      refine s_at hs ho24 (fun j hj => ?_)
      rw [e3, hil, if_pos (by omega), show 98 * os1.length + j - 98 * os1.length = 0 + j by omega]
    · rw [if_neg hil]
      refine s_at (r3 i (by omega)) (hq _ (getD_mem (by omega))) (fun j hj => ?_)
      rw [e3, if_neg (by omega)]
  unfold f_Model_remembers
  rw [h1, show (12 : Int32) = nI 12 by decide +kernel]
  by_cases hl : os.length = 12
  · rw [if_pos (by rw [hl])]
    obtain ⟨τ1, e1, e2, e3, e4⟩ := rem_L11 ja_FU 0 τ (by omega) (by unfold ja_FU; omega) (by rw [h1, hl])
    have hlen : (os.take 11).length = 11 := by rw [List.length_take, hl]; rfl
    have hr : rm_ok τ1 (os.take 11) := by
      refine ⟨by rw [e2, hlen], by omega, fun i hi => ?_⟩
      rw [hlen] at hi ⊢
      have := h3 (i + 1) (by omega)
      rw [hl, show 12 - 1 - (i + 1) = 11 - 1 - i by omega] at this
      have hg : (os.take 11).getD (11 - 1 - i) ([], 0) = os.getD (11 - 1 - i) ([], 0) := by
        rw [List.getD_eq_getElem?_getD, List.getD_eq_getElem?_getD, List.getElem?_take_of_lt (by omega)]
      rw [hg]
      refine s_at this (h24 _ (getD_mem (by omega))) (fun j hj => ?_)
      rw [e3, if_pos (by omega), show 98 * i + j + 98 = 98 * (i + 1) + j by omega]
    obtain ⟨τ2, g1, g2, g3⟩ := room τ1 (os.take 11) hr (by omega) (by rw [show τ1.1 46 = τ.1 46 from funext fun j => e4.1 46 j (by omega) (by omega)]; exact ho) (fun q hq => h24 q (List.mem_of_mem_take hq))
    rw [← am_z] at e1
    rw [e1, g1]
    exact ⟨τ2, rfl, g2, fun k j x y => (g3.1 k j x y).trans (e4.1 k j x y), g3.2.trans e4.2⟩
  · rw [if_neg (nI_ne hl (by omega) (by omega)), List.take_of_length_le (by omega)]
    exact room τ os ⟨h1, h2, h3⟩ (by omega) ho h24
/-! the chain of remembered calls -/
theorem hist_take : ∀ (n : Nat) (ds : List am_D) (now : am_O) (os : List am_O), am_hist ds now os → am_hist (ds.take n) now (os.take n)
  | 0, ds, now, os, _ => by
    rw [List.take_zero, List.take_zero]
    exact trivial
  | n + 1, [], now, [], h => h
  | n + 1, [], now, o :: os, h => by cases h
  | n + 1, d :: ds, now, [], h => by cases h
  | n + 1, d :: ds, now, o :: os, h => ⟨h.1, hist_take n ds o os h.2⟩
theorem hist_len : ∀ (ds : List am_D) (now : am_O) (os : List am_O), am_hist ds now os → ds.length = os.length
  | [], now, [], h => rfl
  | [], now, o :: os, h => by cases h
  | d :: ds, now, [], h => by cases h
  | d :: ds, now, o :: os, h => by
    rw [List.length_cons, List.length_cons, hist_len ds o os h.2]
