/-! the class's locking, spread out over all states -/
def am_hold (r : am_R) (l s : Nat) : Bool := r.1 == 2 && (r.2.2.1 == l && (r.2.1 != r.2.2.1 && (s.testBit r.2.1 && am_act r.2.2.2 s)))
theorem am_blk_split (r : am_R) (s l : Nat) : am_blk r s l = (am_forb r (s ^^^ 2 ^ l) || am_hold r l s) := by
  unfold am_blk am_hold
  by_cases h : r.1 = 2
  · rw [if_pos h]
    unfold am_forb
    simp [h]
  · rw [if_neg h, show (r.1 == 2) = false by simp [h], Bool.false_and, Bool.or_false]
def lk_bit (v : Int64) (t : Nat) : Bool := v.toBitVec.getLsbD t
def lk_ok (σ : ja_S) (X : Nat) (L : List am_R) : Prop := (∀ s, s < 4096 → lk_bit (σ.2 (X + 1) (s / 64)) (s % 64) = L.any (fun r => am_forb r s)) ∧ ∀ l, l < 12 → ∀ s, s < 4096 → lk_bit (σ.2 (X + 2) (64 * l + s / 64)) (s % 64) = L.any (fun r => am_hold r l s)
theorem lk_fr {σ σ' : ja_S} {X : Nat} {L : List am_R} (h : lk_ok σ X L) (h1 : σ'.2 (X + 1) = σ.2 (X + 1)) (h2 : σ'.2 (X + 2) = σ.2 (X + 2)) : lk_ok σ' X L := by
  unfold lk_ok at h ⊢
  rw [h1, h2]
  exact h
theorem L0_lenl {k N : Nat} (h : ja_shl.getD k (0, 0) = (1, N)) : ja_len ja_L0 k = N := by unfold ja_len; show (ja_shl.getD k (0, 0)).2 = N; rw [h]
theorem ldl0 {σ : ja_S} {k j N : Nat} (hk : ja_shl.getD k (0, 0) = (1, N)) (h : j < N) (hN : N < 2 ^ 31) : ja_ldl ja_L0 σ k (nI j) = some (σ.2 k j) := ja_ldl_n (by rw [L0_lenl hk]; exact h) (by omega)
theorem stl0 {σ : ja_S} {k j N : Nat} {v : Int64} (hk : ja_shl.getD k (0, 0) = (1, N)) (h : j < N) (hN : N < 2 ^ 31) : ja_stl ja_L0 σ k (nI j) v = some (ja_sl σ k j v) := ja_stl_n (by rw [L0_lenl hk]; exact h) (by omega)
def lk_X (X : Nat) : Prop := X = 18 ∨ X = 24 ∨ X = 30
theorem lk_sh {X : Nat} (h : lk_X X) : ja_shl.getD (X + 1) (0, 0) = (1, 64) ∧ ja_shl.getD (X + 2) (0, 0) = (1, 768) ∧ ja_q X 0 = X + 1 ∧ ja_q X 1 = X + 2 := by
  rcases h with rfl | rfl | rfl <;> exact ⟨rfl, rfl, rfl, rfl⟩
theorem lgc0 {x : Int64} : lg_cmp x 0 = 0 ↔ x = 0 := by
  unfold lg_cmp
  constructor
  · intro h
    by_cases h1 : x > 0
    · rw [if_pos h1] at h
      exact absurd h (by decide)
    · rw [if_neg h1] at h
      by_cases h2 : x = 0
      · exact h2
      · rw [if_neg h2] at h
        exact absurd h (by decide)
  · intro h
    rw [h]
    decide
theorem and1_64 (y : BitVec 64) : y &&& 1#64 = 0#64 ↔ y.getLsbD 0 = false := by
  constructor
  · intro h
    have h1 := congrArg (fun z => z.getLsbD 0) h
    simpa using h1
  · intro h
    rw [BitVec.and_one_eq_setWidth_ofBool_getLsbD, h]
    decide
theorem lsc {t : Nat} (h : t < 64) : (((nI t).toInt64.toUInt64 &&& Int64.toUInt64 63).toBitVec % 64).toNat = t := by
  have h2 : ∀ t, t < 64 → (((nI t).toInt64.toUInt64 &&& Int64.toUInt64 63).toBitVec % 64).toNat = t := by decide +kernel
  exact h2 t h
theorem lk_test {v : Int64} {t : Nat} (h : t < 64) : lg_cmp ((v.toUInt64 >>> ((nI t).toInt64.toUInt64 &&& Int64.toUInt64 63)).toInt64 &&& 1) 0 = 0 ↔ lk_bit v t = false := by
  rw [lgc0, ← Int64.toBitVec_inj]
  have e : (v.toUInt64 >>> ((nI t).toInt64.toUInt64 &&& Int64.toUInt64 63)).toInt64.toBitVec = v.toBitVec >>> t := by
    have h3 : (v.toUInt64 >>> ((nI t).toInt64.toUInt64 &&& Int64.toUInt64 63)).toInt64.toBitVec = v.toBitVec >>> (((nI t).toInt64.toUInt64 &&& Int64.toUInt64 63).toBitVec % 64).toNat := UInt64.toBitVec_shiftRight _ _
    rw [h3, lsc h]
  show (v.toUInt64 >>> ((nI t).toInt64.toUInt64 &&& Int64.toUInt64 63)).toInt64.toBitVec &&& 1#64 = 0#64 ↔ _
  rw [e, and1_64, BitVec.getLsbD_ushiftRight, Nat.add_zero]
  exact Iff.rfl
section LK
variable {σ : ja_S} {X : Nat} {L : List am_R} {s l : Nat}
theorem allows_ok (hX : lk_X X) (h : lk_ok σ X L) (hs : s < 4096) (hl : l < 12) : f_Locking_allows X (nI s) (nI l) σ = some (am_bz (am_al L s l), σ) := by
  have hx : s ^^^ 2 ^ l < 4096 := xor_lt30 hs hl
  obtain ⟨a1, a2, a3, a4⟩ := lk_sh hX
  have e : am_al L s l = (!(L.any (fun r => am_forb r (s ^^^ 2 ^ l))) && !(L.any (fun r => am_hold r l s))) := by
    rw [Bool.eq_iff_iff, am_al_t, Bool.and_eq_true, Bool.not_eq_true', Bool.not_eq_true', List.any_eq_false, List.any_eq_false]
    constructor
    · intro h2
      refine ⟨fun r hr => ?_, fun r hr => ?_⟩
      · have := h2 r hr
        rw [am_blk_split, Bool.or_eq_false_iff] at this
        simp [this.1]
      · have := h2 r hr
        rw [am_blk_split, Bool.or_eq_false_iff] at this
        simp [this.2]
    · intro h2 r hr
      have h3 := h2.1 r hr
      have h4 := h2.2 r hr
      rw [am_blk_split]
      simp at h3 h4
      simp [h3, h4]
  have g1 := h.1 (s ^^^ 2 ^ l) hx
  have g2 := h.2 l hl s hs
  unfold f_Locking_allows
  rw [a3, a4, if_neg (nI_pos (by omega)), show (4096 : Int32) = nI 4096 by decide +kernel, if_neg (nI_ge hs (by omega)), if_neg (nI_pos (by omega)), show (12 : Int32) = nI 12 by decide +kernel, if_pos (nI_lt hl (by omega)), nI_pow (by omega), nI_xor, show (64 : Int32) = nI 64 by decide +kernel, pk_div (a := s ^^^ 2 ^ l) (by omega) (by omega) (by omega), ldl0 a1 (by omega) (by omega), Option.bind_some, pk_div (a := s) (by omega) (by omega) (by omega), pk_mul, nI_add, ldl0 a2 (by omega) (by omega), Option.bind_some, Nat.mul_comm l 64, ← pk_div (a := s ^^^ 2 ^ l) (d := 64) (by omega) (by omega) (by omega), ← pk_div (a := s) (d := 64) (by omega) (by omega) (by omega), pk_rem (by omega) (by omega) (by omega), pk_rem (by omega) (by omega) (by omega), e]
  cases b1 : L.any (fun r => am_forb r (s ^^^ 2 ^ l)) with
  | true =>
    rw [b1] at g1
    rw [if_neg (fun z => by rw [lk_test (by omega), g1] at z; cases z)]
    rfl
  | false =>
    rw [b1] at g1
    rw [if_pos ((lk_test (by omega)).mpr g1)]
    cases b2 : L.any (fun r => am_hold r l s) with
    | true =>
      rw [b2] at g2
      rw [if_neg (fun z => by rw [lk_test (by omega), g2] at z; cases z)]
      rfl
    | false =>
      rw [b2] at g2
      rw [if_pos ((lk_test (by omega)).mpr g2)]
      rfl
end LK
/-! one rule more -/
def sw_b (rv nv n t : Nat) : Bool := (List.range n).all (fun j => (!rv.testBit j || t.testBit j) && (!nv.testBit j || !t.testBit j))
theorem sw_succ (rv nv n t : Nat) : sw_b rv nv (n + 1) t = (sw_b rv nv n t && ((!rv.testBit n || t.testBit n) && (!nv.testBit n || !t.testBit n))) := by
  unfold sw_b
  rw [List.range_succ, List.all_append]
  simp
theorem ja_rv_bit {l t : Nat} (hl : l < 6) (ht : t < 64) : lk_bit (ja_rv l) t = t.testBit l := by
  have h : ∀ l, l < 6 → ∀ t, t < 64 → lk_bit (ja_rv l) t = t.testBit l := by decide +kernel
  exact h l hl t ht
theorem lk_and (a b : Int64) (t : Nat) : lk_bit (a &&& b) t = (lk_bit a t && lk_bit b t) := by
  unfold lk_bit
  show (a.toBitVec &&& b.toBitVec).getLsbD t = _
  rw [BitVec.getLsbD_and]
theorem lk_or (a b : Int64) (t : Nat) : lk_bit (a ||| b) t = (lk_bit a t || lk_bit b t) := by
  unfold lk_bit
  show (a.toBitVec ||| b.toBitVec).getLsbD t = _
  rw [BitVec.getLsbD_or]
theorem lk_not (a : Int64) {t : Nat} (ht : t < 64) : lk_bit (a ^^^ (-1)) t = !lk_bit a t := by
  unfold lk_bit
  show (a.toBitVec ^^^ BitVec.allOnes 64).getLsbD t = _
  rw [BitVec.getLsbD_xor, BitVec.getLsbD_allOnes]
  simp [ht]
theorem ldt_ok {l : Nat} (h : l < 6) : ja_ldt (nI l) = some (ja_rv l) := by
  unfold ja_ldt
  rw [nI_toInt (by omega), if_pos (by omega)]
  rfl
theorem siw_L7 {rv nv : Nat} {σ : ja_S} (hr : rv < 4096) (hn : nv < 4096) : ∀ (n l : Nat) (v : Int64), l ≤ 6 → 6 - l < n → (∀ t, t < 64 → lk_bit v t = sw_b rv nv l t) → ∃ w, f_Locking_statesInWord_L7 n (nI rv) (nI nv) v (nI l) σ = some (w, σ) ∧ ∀ t, t < 64 → lk_bit w t = sw_b rv nv 6 t := by
  intro n
  induction n with
  | zero => intro l v _ h; omega
  | succ n ih =>
    intro l v hl hn2 hv
    rw [f_Locking_statesInWord_L7, show (6 : Int32) = nI 6 by decide +kernel]
    by_cases h : l = 6
    · rw [h, if_pos (nI_le (Nat.le_refl _) (by omega))]
      exact ⟨v, rfl, by rw [h] at hv; exact hv⟩
    · have key : ∀ (u : Int64), (∀ t, t < 64 → lk_bit u t = (sw_b rv nv l t && (!rv.testBit l || t.testBit l))) → ∃ w, f_Locking_statesInWord_B33 (f_Locking_statesInWord_L7 n) (nI rv) (nI nv) u (nI l) σ = some (w, σ) ∧ ∀ t, t < 64 → lk_bit w t = sw_b rv nv 6 t := by
        intro u hu
        unfold f_Locking_statesInWord_B33
        by_cases hb : nv.testBit l = true
        · rw [if_pos ((nI_bit32 (by omega)).mpr hb), ldt_ok (by omega), Option.bind_some, nI_1]
          refine ih (l + 1) _ (by omega) (by omega) (fun t ht => ?_)
          rw [lk_and, lk_not _ ht, ja_rv_bit (by omega) ht, hu t ht, sw_succ, hb]
          cases sw_b rv nv l t <;> cases rv.testBit l <;> cases t.testBit l <;> rfl
        · rw [if_neg (fun z => hb ((nI_bit32 (by omega)).mp z)), nI_1]
          refine ih (l + 1) _ (by omega) (by omega) (fun t ht => ?_)
          rw [hu t ht, sw_succ, show nv.testBit l = false by simpa using hb]
          cases sw_b rv nv l t <;> cases rv.testBit l <;> cases t.testBit l <;> rfl
      rw [if_neg (nI_ge (by omega) (by omega))]
      by_cases hb : rv.testBit l = true
      · rw [if_pos ((nI_bit32 (by omega)).mpr hb), ldt_ok (by omega), Option.bind_some]
        refine key _ (fun t ht => ?_)
        rw [lk_and, ja_rv_bit (by omega) ht, hv t ht, hb]
        cases sw_b rv nv l t <;> cases t.testBit l <;> rfl
      · rw [if_neg (fun z => hb ((nI_bit32 (by omega)).mp z))]
        refine key _ (fun t ht => ?_)
        rw [hv t ht, show rv.testBit l = false by simpa using hb]
        cases sw_b rv nv l t <;> cases t.testBit l <;> rfl
theorem sl_at {σ : ja_S} {k j : Nat} {v : Int64} (a b : Nat) : (ja_sl σ k j v).2 a b = if a = k ∧ b = j then v else σ.2 a b := by
  unfold ja_sl
  dsimp only
  by_cases h : a = k
  · subst h
    rw [va_up_self]
    unfold vp_updL
    by_cases h2 : b = j
    · rw [if_pos h2, if_pos ⟨rfl, h2⟩]
    · rw [if_neg h2, if_neg (fun q => h2 q.2)]
  · rw [va_up_ne _ _ h, if_neg (fun q => h q.1)]
theorem add_L22 {R N st hr hn : Nat} {v : Int64} (hR : ja_shl.getD R (0, 0) = (1, N)) (hN : N < 2 ^ 20) (hst : st + 64 ≤ N) (h1 : hr < 2 ^ 20) (h2 : hn < 2 ^ 20) : ∀ (n w : Nat) (σ : ja_S), w ≤ 64 → 64 - w < n → ∃ σ', f_Locking_addStates_L22 n R (nI st) v (nI hr) (nI hn) (nI w) σ = some σ' ∧ σ'.1 = σ.1 ∧ (∀ k, k ≠ R → σ'.2 k = σ.2 k) ∧ ∀ j, σ'.2 R j = if st + w ≤ j ∧ j < st + 64 ∧ (j - st) &&& hr = hr ∧ (j - st) &&& hn = 0 then σ.2 R j ||| v else σ.2 R j := by
  intro n
  induction n with
  | zero => intro w σ _ h; omega
  | succ n ih =>
    intro w σ hw hn2
    have ha : w &&& hr < 2 ^ 31 := Nat.lt_of_le_of_lt Nat.and_le_left (by omega)
    have hb : w &&& hn < 2 ^ 31 := Nat.lt_of_le_of_lt Nat.and_le_left (by omega)
    rw [f_Locking_addStates_L22, show (64 : Int32) = nI 64 by decide +kernel]
    by_cases h : w = 64
    · rw [h, if_pos (nI_le (Nat.le_refl _) (by omega))]
      refine ⟨σ, rfl, rfl, fun _ _ => rfl, fun j => ?_⟩
      rw [if_neg (by omega)]
    · rw [if_neg (nI_ge (by omega) (by omega)), L0_lenl hR, nI_add, if_neg (show ¬ Int32.ofNat N ≤ nI (st + w) from nI_ge (by omega) (by omega)), nI_and, nI_and, nI_1]
      by_cases c1 : w &&& hr = hr
      · by_cases c2 : w &&& hn = 0
        · rw [if_pos (by rw [c1]), if_pos (by rw [c2]; exact am_z.symm), ldl0 hR (by omega) (by omega), Option.bind_some, stl0 hR (by omega) (by omega), Option.bind_some]
          obtain ⟨σ', e1, e2, e3, e4⟩ := ih (w + 1) (ja_sl σ R (st + w) (σ.2 R (st + w) ||| v)) (by omega) (by omega)
          refine ⟨σ', e1, e2, fun k hk => (e3 k hk).trans (sl_row hk), fun j => ?_⟩
          rw [e4 j, sl_at]
          by_cases hj : j = st + w
          · rw [if_neg (by omega), if_pos ⟨rfl, hj⟩, if_pos (by rw [hj, show st + w - st = w by omega]; exact ⟨by omega, by omega, c1, c2⟩), hj]
          · have hj2 : ¬ (R = R ∧ j = st + w) := fun z => hj z.2
            by_cases hc : st + (w + 1) ≤ j ∧ j < st + 64 ∧ (j - st) &&& hr = hr ∧ (j - st) &&& hn = 0
            · rw [if_pos hc, if_neg hj2, if_pos ⟨by omega, hc.2⟩]
            · rw [if_neg hc, if_neg hj2, if_neg (fun z => hc ⟨by omega, z.2⟩)]
        · rw [if_pos (by rw [c1]), if_neg (nI_ne0' c2 (by omega))]
          obtain ⟨σ', e1, e2, e3, e4⟩ := ih (w + 1) σ (by omega) (by omega)
          refine ⟨σ', e1, e2, e3, fun j => ?_⟩
          rw [e4 j]
          by_cases hj : j = st + w
          · rw [if_neg (by omega), if_neg (fun z => c2 (by have := z.2.2.2; rw [hj, show st + w - st = w by omega] at this; exact this))]
          · by_cases hc : st + (w + 1) ≤ j ∧ j < st + 64 ∧ (j - st) &&& hr = hr ∧ (j - st) &&& hn = 0
            · rw [if_pos hc, if_pos ⟨by omega, hc.2⟩]
            · rw [if_neg hc, if_neg (fun z => hc ⟨by omega, z.2⟩)]
      · rw [if_neg (nI_ne c1 (by omega) (by omega))]
        obtain ⟨σ', e1, e2, e3, e4⟩ := ih (w + 1) σ (by omega) (by omega)
        refine ⟨σ', e1, e2, e3, fun j => ?_⟩
        rw [e4 j]
        by_cases hj : j = st + w
        · rw [if_neg (by omega), if_neg (fun z => c1 (by have := z.2.2.1; rw [hj, show st + w - st = w by omega] at this; exact this))]
        · by_cases hc : st + (w + 1) ≤ j ∧ j < st + 64 ∧ (j - st) &&& hr = hr ∧ (j - st) &&& hn = 0
          · rw [if_pos hc, if_pos ⟨by omega, hc.2⟩]
          · rw [if_neg hc, if_neg (fun z => hc ⟨by omega, z.2⟩)]
theorem sub_bits {s r : Nat} : s &&& r = r ↔ ∀ i, r.testBit i = true → s.testBit i = true := by
  constructor
  · intro h i hi
    have := congrArg (fun z => z.testBit i) h
    simp only [Nat.testBit_and, hi, Bool.and_true] at this
    exact this
  · intro h
    apply Nat.eq_of_testBit_eq
    intro i
    rw [Nat.testBit_and]
    cases hr : r.testBit i with
    | false => simp
    | true => rw [h i hr]; rfl
theorem dis_bits {s r : Nat} : s &&& r = 0 ↔ ∀ i, r.testBit i = true → s.testBit i = false := by
  constructor
  · intro h i hi
    have := congrArg (fun z => z.testBit i) h
    simp only [Nat.testBit_and, hi, Bool.and_true, Nat.zero_testBit] at this
    exact this
  · intro h
    apply Nat.eq_of_testBit_eq
    intro i
    rw [Nat.testBit_and, Nat.zero_testBit]
    cases hr : r.testBit i with
    | false => simp
    | true => rw [h i hr]; rfl
theorem div64_bit (s i : Nat) : (s / 64).testBit i = s.testBit (i + 6) := by
  have := Nat.testBit_div_two_pow (n := 6) s i
  rw [show 2 ^ 6 = 64 from rfl] at this
  rw [this, Nat.add_comm]
theorem mod64_bit {s i : Nat} (h : i < 6) : (s % 64).testBit i = s.testBit i := by
  have := Nat.testBit_mod_two_pow s 6 i
  rw [show 2 ^ 6 = 64 from rfl] at this
  rw [this]
  simp [h]
theorem word_split (s rv nv : Nat) : (s &&& rv = rv ∧ s &&& nv = 0) ↔ ((s / 64 &&& rv / 64 = rv / 64 ∧ s / 64 &&& nv / 64 = 0) ∧ sw_b rv nv 6 (s % 64) = true) := by
  rw [sub_bits, dis_bits, sub_bits, dis_bits]
  have hsw : sw_b rv nv 6 (s % 64) = true ↔ ∀ i, i < 6 → (rv.testBit i = true → s.testBit i = true) ∧ (nv.testBit i = true → s.testBit i = false) := by
    unfold sw_b
    rw [List.all_eq_true]
    constructor
    · intro h i hi
      have h1 := h i (List.mem_range.mpr hi)
      rw [mod64_bit hi] at h1
      cases h2 : rv.testBit i <;> cases h3 : nv.testBit i <;> cases h4 : s.testBit i <;> simp_all
    · intro h i hi
      have hi2 := List.mem_range.mp hi
      have h1 := h i hi2
      rw [mod64_bit hi2]
      cases h2 : rv.testBit i <;> cases h3 : nv.testBit i <;> cases h4 : s.testBit i <;> simp_all
  rw [hsw]
  constructor
  · intro h
    refine ⟨⟨fun i hi => ?_, fun i hi => ?_⟩, fun i _ => ⟨h.1 i, h.2 i⟩⟩
    · rw [div64_bit] at hi ⊢
      exact h.1 _ hi
    · rw [div64_bit] at hi ⊢
      exact h.2 _ hi
  · intro h
    refine ⟨fun i hi => ?_, fun i hi => ?_⟩
    · by_cases h6 : i < 6
      · exact (h.2 i h6).1 hi
      · have h1 := h.1.1 (i - 6)
        rw [div64_bit, div64_bit, show i - 6 + 6 = i by omega] at h1
        exact h1 hi
    · by_cases h6 : i < 6
      · exact (h.2 i h6).2 hi
      · have h1 := h.1.2 (i - 6)
        rw [div64_bit, div64_bit, show i - 6 + 6 = i by omega] at h1
        exact h1 hi
theorem addStates_ok {R N st rv nv : Nat} {σ : ja_S} (hR : ja_shl.getD R (0, 0) = (1, N)) (hN : N < 2 ^ 20) (hst : st + 64 ≤ N) (h1 : rv < 4096) (h2 : nv < 4096) : ∃ σ', f_Locking_addStates R (nI st) (nI rv) (nI nv) σ = some σ' ∧ σ'.1 = σ.1 ∧ (∀ k, k ≠ R → σ'.2 k = σ.2 k) ∧ (∀ j, (j < st ∨ st + 64 ≤ j) → σ'.2 R j = σ.2 R j) ∧ ∀ s, s < 4096 → lk_bit (σ'.2 R (st + s / 64)) (s % 64) = (lk_bit (σ.2 R (st + s / 64)) (s % 64) || decide (s &&& rv = rv ∧ s &&& nv = 0)) := by
  obtain ⟨v, a1, a2⟩ := siw_L7 (σ := σ) h1 h2 ja_FU 0 (-1) (by omega) (by unfold ja_FU; omega) (fun t ht => by
    unfold lk_bit sw_b
    show (BitVec.allOnes 64).getLsbD t = true
    rw [BitVec.getLsbD_allOnes, decide_eq_true ht])
  obtain ⟨σ', e1, e2, e3, e4⟩ := add_L22 (hr := rv / 64) (hn := nv / 64) (v := v) hR hN hst (by omega) (by omega) ja_FU 0 σ (by omega) (by unfold ja_FU; omega)
  refine ⟨σ', ?_, e2, e3, ?_, ?_⟩
  · unfold f_Locking_addStates f_Locking_statesInWord
    rw [am_z, a1, Option.bind_some, show (6 : Int32) = nI 6 by decide +kernel, nI_shr (by omega) (by omega), nI_shr (by omega) (by omega)]
    exact e1
  · intro j hj
    rw [e4 j, if_neg (by omega)]
  · intro s hs
    have hw := word_split s rv nv
    rw [e4, show st + s / 64 - st = s / 64 by omega]
    by_cases hc : s / 64 &&& rv / 64 = rv / 64 ∧ s / 64 &&& nv / 64 = 0
    · rw [if_pos ⟨by omega, by omega, hc⟩, lk_or, a2 _ (by omega)]
      congr 1
      by_cases hb : sw_b rv nv 6 (s % 64) = true
      · rw [hb, decide_eq_true (hw.mpr ⟨hc, hb⟩)]
      · rw [decide_eq_false (fun z => hb (hw.mp z).2)]
        simpa using hb
    · rw [if_neg (fun z => hc z.2.2), decide_eq_false (fun z => hc (hw.mp z).1), Bool.or_false]
/-- only the longs of one locking have changed -/
def fr_l (X : Nat) (σ σ' : ja_S) : Prop := σ'.1 = σ.1 ∧ ∀ k, k ≠ X + 1 → k ≠ X + 2 → σ'.2 k = σ.2 k
theorem fr_l_rf {X : Nat} {σ : ja_S} : fr_l X σ σ := ⟨rfl, fun _ _ _ => rfl⟩
theorem fr_l_tr {X : Nat} {a b c : ja_S} (h1 : fr_l X a b) (h2 : fr_l X b c) : fr_l X a c := ⟨h2.1.trans h1.1, fun k x y => (h2.2 k x y).trans (h1.2 k x y)⟩
theorem enforce_ok {X : Nat} {L : List am_R} {σ : ja_S} {r : am_R} (hX : lk_X X) (h : lk_ok σ X L) (hr : am_rb r) : ∃ σ', f_Locking_enforce X (nI (am_pk r)) σ = some σ' ∧ lk_ok σ' X (L ++ [r]) ∧ fr_l X σ σ' := by
  have h16 := am_rb16 hr
  have hlt := am_rev_lt hr
  obtain ⟨r1, r2, r3, r4⟩ := id hr
  obtain ⟨a1, a2, a3, a4⟩ := lk_sh hX
  unfold f_Locking_enforce
  rw [rev_ok hr, Option.bind_some, nor_ok hr, Option.bind_some, rk_ok h16, Option.bind_some, a3, a4]
  by_cases hk : r.1 = 2
  · rw [if_pos (show nI r.1 = 2 by rw [hk]; decide +kernel), ra_ok h16, Option.bind_some, rlb_ok h16, Option.bind_some]
    have hf : ∀ s, am_forb r s = false := fun s => by unfold am_forb; simp [hk]
    by_cases hab : r.2.1 = r.2.2.1
    · rw [if_pos (show nI r.2.1 = nI r.2.2.1 by rw [hab])]
      have hh : ∀ l s, am_hold r l s = false := fun l s => by unfold am_hold; simp [hab]
      refine ⟨σ, rfl, ⟨fun s hs => ?_, fun l hl s hs => ?_⟩, fr_l_rf⟩
      · rw [h.1 s hs, List.any_append]; simp [hf]
      · rw [h.2 l hl s hs, List.any_append]; simp [hh]
    · rw [if_neg (nI_ne hab (by omega) (by omega)), rlb_ok h16, Option.bind_some, show (64 : Int32) = nI 64 by decide +kernel, pk_mul]
      obtain ⟨σ', e1, e2, e3, e4, e5⟩ := addStates_ok (σ := σ) (st := r.2.2.1 * 64) a2 (by omega) (by omega) hlt.1 hlt.2
      rw [e1, Option.bind_some]
      refine ⟨σ', rfl, ⟨fun s hs => ?_, fun l hl s hs => ?_⟩, e2, fun k _ h2 => e3 k h2⟩
      · rw [e3 (X + 1) (by omega), h.1 s hs, List.any_append]; simp [hf]
      · rw [List.any_append, ← h.2 l hl s hs]
        have hh : am_hold r l s = (r.2.2.1 == l && am_bite r s) := by
          unfold am_hold am_bite
          have hn' : (r.2.1 != r.2.2.1) = true := by simp [hab]
          rw [if_neg (by omega), if_neg (by omega), hn']
          simp [hk]
        by_cases hl2 : r.2.2.1 = l
        · have := e5 s hs
          rw [show r.2.2.1 * 64 + s / 64 = 64 * l + s / 64 by omega] at this
          rw [this, ← am_bite_ok r s (by omega)]
          simp [hh, hl2]
        · rw [e4 _ (by omega)]
          simp [hh, hl2]
  · rw [if_neg (nI_ne2 hk (by omega)), am_z]
    obtain ⟨σ', e1, e2, e3, e4, e5⟩ := addStates_ok (σ := σ) (st := 0) a1 (by omega) (by omega) hlt.1 hlt.2
    rw [e1, Option.bind_some]
    refine ⟨σ', rfl, ⟨fun s hs => ?_, fun l hl s hs => ?_⟩, e2, fun k h1 _ => e3 k h1⟩
    · have := e5 s hs
      rw [Nat.zero_add] at this
      rw [this, ← am_bite_ok r s (by omega), h.1 s hs, List.any_append]
      have hf : am_forb r s = am_bite r s := by rw [am_forb_bite r s r1]; simp [hk]
      simp [hf]
    · have hh : am_hold r l s = false := by unfold am_hold; simp [hk]
      rw [e3 (X + 2) (by omega), h.2 l hl s hs, List.any_append]
      simp [hh]
theorem fillJ_L6 {R N : Nat} {v : Int64} (hR : ja_shl.getD R (0, 0) = (1, N)) (hN : N < 2 ^ 20) : ∀ (n i : Nat) (σ : ja_S), i ≤ N → N - i < n → ∃ σ', f_Arrays_fillJ_L6 n R v (nI i) (Int32.ofNat N) σ = some σ' ∧ σ'.1 = σ.1 ∧ (∀ k, k ≠ R → σ'.2 k = σ.2 k) ∧ ∀ j, σ'.2 R j = if i ≤ j ∧ j < N then v else σ.2 R j := by
  intro n
  induction n with
  | zero => intro i σ _ h; omega
  | succ n ih =>
    intro i σ hi hn
    rw [f_Arrays_fillJ_L6]
    by_cases h : i = N
    · rw [h, if_pos (show Int32.ofNat N ≤ nI N from nI_le (Nat.le_refl _) (by omega))]
      refine ⟨σ, rfl, rfl, fun _ _ => rfl, fun j => ?_⟩
      rw [if_neg (by omega)]
    · rw [if_neg (show ¬ Int32.ofNat N ≤ nI i from nI_ge (by omega) (by omega)), stl0 hR (by omega) (by omega), Option.bind_some, nI_1]
      obtain ⟨σ', e1, e2, e3, e4⟩ := ih (i + 1) (ja_sl σ R i v) (by omega) (by omega)
      refine ⟨σ', e1, e2, fun k hk => (e3 k hk).trans (sl_row hk), fun j => ?_⟩
      rw [e4 j, sl_at]
      by_cases hj : j = i
      · rw [if_neg (by omega), if_pos ⟨rfl, hj⟩, if_pos (by omega)]
      · have hj2 : ¬ (R = R ∧ j = i) := fun z => hj z.2
        by_cases hc : i + 1 ≤ j ∧ j < N
        · rw [if_pos hc, if_pos (by omega)]
        · rw [if_neg hc, if_neg hj2, if_neg (by omega)]
theorem fillJ_ok {R N : Nat} {v : Int64} {σ : ja_S} (hR : ja_shl.getD R (0, 0) = (1, N)) (hN : N < 2 ^ 13) : ∃ σ', f_Arrays_fillJ R v σ = some σ' ∧ σ'.1 = σ.1 ∧ (∀ k, k ≠ R → σ'.2 k = σ.2 k) ∧ ∀ j, j < N → σ'.2 R j = v := by
  obtain ⟨σ', e1, e2, e3, e4⟩ := fillJ_L6 (v := v) hR (by omega) ja_FU 0 σ (by omega) (by unfold ja_FU; omega)
  refine ⟨σ', ?_, e2, e3, fun j hj => ?_⟩
  · unfold f_Arrays_fillJ
    rw [am_z, L0_lenl hR]
    exact e1
  · rw [e4 j, if_pos (by omega)]
/-- rules in a sheet of the class at cell k -/
def sh_r (σ : ja_S) (k : Nat) (rs : List am_R) : Prop := σ.1 k 3 = nI rs.length ∧ (∀ i, i < rs.length → σ.1 (k + 1) i = nI (am_pk (am_rd rs i))) ∧ rs.length ≤ 24 ∧ ∀ r ∈ rs, am_rb r
def sh_k (k : Nat) : Prop := k = 3 ∨ k = 8 ∨ k = 35 ∨ k = 40
theorem sh_q {k : Nat} (h : sh_k k) : ja_q k 2 = k + 1 ∧ ja_q k 4 = k + 2 ∧ ja_q k 6 = k + 3 ∧ ja_q k 7 = k + 4 ∧ ja_shl.getD (k + 1) (0, 0) = (0, 24) ∧ ja_shl.getD (k + 2) (0, 0) = (0, 8) ∧ ja_shl.getD (k + 3) (0, 0) = (0, 8) ∧ ja_shl.getD (k + 4) (0, 0) = (0, 8) := by
  rcases h with rfl | rfl | rfl | rfl <;> exact ⟨rfl, rfl, rfl, rfl, rfl, rfl, rfl, rfl⟩
def am_seln (rs : List am_R) (m i : Nat) : List am_R := ((List.range i).filter (fun k => m.testBit k)).map (am_rd rs)
theorem seln_succ (rs : List am_R) (m i : Nat) : am_seln rs m (i + 1) = if m.testBit i = true then am_seln rs m i ++ [am_rd rs i] else am_seln rs m i := by
  unfold am_seln
  rw [List.range_succ, List.filter_append, List.map_append]
  by_cases h : m.testBit i = true
  · simp [h]
  · simp [h]
theorem enfAll_L18 {X k : Nat} {rs : List am_R} {m : Nat} (hX : lk_X X) (hk : sh_k k) : ∀ (n i : Nat) (σ : ja_S), sh_r σ k rs → i ≤ rs.length → rs.length - i < n → lk_ok σ X (am_seln rs m i) → ∃ σ', f_Locking_enforceAll_L18 n X k (nI m) (nI i) σ = some σ' ∧ lk_ok σ' X (am_sel rs m) ∧ fr_l X σ σ' := by
  intro n
  induction n with
  | zero => intro i σ _ _ h; omega
  | succ n ih =>
    intro i σ hs hi hn hl
    have h24 := hs.2.2.1
    rw [f_Locking_enforceAll_L18, hs.1, (sh_q hk).1]
    by_cases h : i = rs.length
    · rw [h, if_pos (nI_le (Nat.le_refl _) (by omega))]
      rw [h] at hl
      exact ⟨σ, rfl, hl, fr_l_rf⟩
    · rw [if_neg (nI_ge (by omega) (by omega)), nI_1]
      by_cases hb : m.testBit i = true
      · rw [if_pos ((nI_bit32 (by omega)).mpr hb), ld0 (sh_q hk).2.2.2.2.1 (by omega) (by omega), Option.bind_some, hs.2.1 i (by omega)]
        obtain ⟨σ1, e1, e2, e3⟩ := enforce_ok hX hl (hs.2.2.2 _ (getD_mem (l := rs) (i := i) (d := (0, 0, 0, 0)) (by omega)))
        have e1' : f_Locking_enforce X (nI (am_pk (am_rd rs i))) σ = some σ1 := e1
        rw [e1', Option.bind_some]
        obtain ⟨σ2, g1, g2, g3⟩ := ih (i + 1) σ1 (by unfold sh_r at hs ⊢; rw [e3.1]; exact hs) (by omega) (by omega) (by rw [seln_succ, if_pos hb]; exact e2)
        exact ⟨σ2, g1, g2, fr_l_tr e3 g3⟩
      · rw [if_neg (fun z => hb ((nI_bit32 (by omega)).mp z))]
        exact ih (i + 1) σ hs (by omega) (by omega) (by rw [seln_succ, if_neg hb]; exact hl)
theorem enforceAll_ok {X k : Nat} {rs : List am_R} {m : Nat} {σ : ja_S} (hX : lk_X X) (hk : sh_k k) (hs : sh_r σ k rs) : ∃ σ', f_Locking_enforceAll X k (nI m) σ = some σ' ∧ lk_ok σ' X (am_sel rs m) ∧ fr_l X σ σ' := by
  obtain ⟨a1, a2, a3, a4⟩ := lk_sh hX
  have h24 := hs.2.2.1
  obtain ⟨σ1, e1, e2, e3, e4⟩ := fillJ_ok (σ := σ) (v := 0) a1 (by omega)
  obtain ⟨σ2, g1, g2, g3, g4⟩ := fillJ_ok (σ := σ1) (v := 0) a2 (by omega)
  have hz : ∀ t, lk_bit 0 t = false := fun t => by
    unfold lk_bit
    show (0#64).getLsbD t = false
    simp
  have hl : lk_ok σ2 X (am_seln rs m 0) := by
    refine ⟨fun s hs => ?_, fun l hl s hs => ?_⟩
    · rw [g3 (X + 1) (by omega), e4 _ (by omega), hz]; rfl
    · rw [g4 _ (by omega), hz]; rfl
  obtain ⟨σ3, k1, k2, k3⟩ := enfAll_L18 (rs := rs) (m := m) hX hk ja_FU 0 σ2 (by unfold sh_r at hs ⊢; rw [g2, e2]; exact hs) (by omega) (by unfold ja_FU; omega) hl
  refine ⟨σ3, ?_, k2, k3.1.trans (g2.trans e2), fun j h1 h2 => (k3.2 j h1 h2).trans ((g3 j h2).trans (e3 j h1))⟩
  unfold f_Locking_enforceAll
  rw [a3, e1, Option.bind_some, a4, g1, Option.bind_some, am_z]
  exact k1
theorem lkcopy_ok {X Y : Nat} {L : List am_R} {σ : ja_S} (hX : lk_X X) (hY : lk_X Y) (hXY : X ≠ Y) (h : lk_ok σ Y L) : ∃ σ', f_Locking_copyFrom X Y σ = some σ' ∧ lk_ok σ' X L ∧ fr_l X σ σ' := by
  obtain ⟨a1, a2, a3, a4⟩ := lk_sh hX
  obtain ⟨b1, b2, b3, b4⟩ := lk_sh hY
  have hne : X + 1 ≠ Y + 2 ∧ X + 2 ≠ Y + 1 ∧ X + 1 ≠ Y + 1 ∧ X + 2 ≠ Y + 2 := by
    rcases hX with rfl | rfl | rfl <;> rcases hY with rfl | rfl | rfl <;> omega
  unfold f_Locking_copyFrom
  rw [a3, a4, b3, b4]
  unfold ja_cpl
  rw [L0_lenl a1, L0_lenl a2, L0_lenl b1, L0_lenl b2, if_pos (by decide +kernel), Option.bind_some, if_pos (by decide +kernel), Option.bind_some]
  refine ⟨_, rfl, ⟨fun s hs => ?_, fun l hl s hs => ?_⟩, rfl, fun k h1 h2 => ?_⟩
  · rw [← h.1 s hs]
    dsimp only
    rw [va_up_ne _ _ (by omega), va_up_self]
    congr 1
    show va_cpy (σ.2 (Y + 1)) (σ.2 (X + 1)) 0 0 64 (s / 64) = _
    rw [pk_cpy_in (by omega) (by omega), show 0 + (s / 64 - 0) = s / 64 by omega]
  · rw [← h.2 l hl s hs]
    dsimp only
    rw [va_up_self, va_up_ne _ _ hne.1.symm, va_up_ne _ _ (show X + 2 ≠ X + 1 by omega)]
    congr 1
    show va_cpy (σ.2 (Y + 2)) (σ.2 (X + 2)) 0 0 768 (64 * l + s / 64) = _
    rw [pk_cpy_in (by omega) (by omega), show 0 + (64 * l + s / 64 - 0) = 64 * l + s / 64 by omega]
  · dsimp only
    rw [va_up_ne _ _ h2, va_up_ne _ _ h1]
