/-! the reference reads a text -/
theorem isIn2 {x y z : Int32} {σ : ja_S} : f_Model_isIn x.toInt64 y.toInt64 z.toInt64 σ = some (am_bz (decide (y.toInt ≤ x.toInt ∧ x.toInt ≤ z.toInt)), σ) := by
  unfold f_Model_isIn am_bz
  have e1 : lg_cmp x.toInt64 y.toInt64 < 0 ↔ x.toInt < y.toInt := by
    rw [lgc.1, Int64.lt_iff_toInt_lt, Int32.toInt_toInt64, Int32.toInt_toInt64]
  have e2 : 0 < lg_cmp x.toInt64 z.toInt64 ↔ z.toInt < x.toInt := by
    rw [lgc.2, Int64.lt_iff_toInt_lt, Int32.toInt_toInt64, Int32.toInt_toInt64]
  by_cases h1 : x.toInt < y.toInt
  · rw [if_pos (e1.mpr h1), if_neg (by simp; omega)]
  · rw [if_neg (fun h => h1 (e1.mp h))]
    by_cases h2 : z.toInt < x.toInt
    · rw [if_pos (e2.mpr h2), if_neg (by simp; omega)]
    · rw [if_neg (fun h => h2 (e2.mp h)), if_pos (by simp; omega)]
/-- the text, its size and the spot -/
def mb_ok (f : Nat → Nat) (n : Nat) (τ : ja_S) (s : Nat) : Prop := τ.1 45 12 = nI n ∧ τ.1 45 13 = nI s ∧ (∀ i, i < n → τ.1 51 i = nI (f i)) ∧ n ≤ 900 ∧ (∀ i, i < n → f i < 256) ∧ s ≤ n
def mt_ok (f : Nat → Nat) (n : Nat) (τ : ja_S) (s : Nat) : Prop := mb_ok f n τ s ∧ τ.1 45 14 = 0 ∧ τ.1 45 15 = -1
/-- at p, blanks aside -/
def mzp_ok (f : Nat → Nat) (n : Nat) (τ : ja_S) (p : Nat) : Prop := ∃ s, mt_ok f n τ s ∧ pz_sk f n s = pz_sk f n p ∧ p ≤ n
/-- it has failed -/
def fe_ok (τ : ja_S) (e : Nat × Nat) : Prop := τ.1 45 14 = nI e.1 ∧ τ.1 45 15 = nI e.2 ∧ e.1 ≠ 0 ∧ e.1 < 100
/-- only the spot, the error and the place of a number change -/
def fr_mp (τ τ' : ja_S) : Prop := (∀ k j, (k ≠ 45 ∨ j < 13 ∨ 16 < j) → τ'.1 k j = τ.1 k j) ∧ τ'.2 = τ.2
theorem fr_mp_rf {τ : ja_S} : fr_mp τ τ := ⟨fun _ _ _ => rfl, rfl⟩
theorem fr_mp_tr {a b c : ja_S} (h1 : fr_mp a b) (h2 : fr_mp b c) : fr_mp a c := ⟨fun k j x => (h2.1 k j x).trans (h1.1 k j x), h2.2.trans h1.2⟩
theorem fr_mp_si {τ : ja_S} {j : Nat} {v : Int32} (hj : 13 ≤ j ∧ j ≤ 16) : fr_mp τ (ja_si τ 45 j v) := ⟨fun k i h => by rw [si_at, if_neg (by omega)], rfl⟩
section MTX
variable {f : Nat → Nat} {n : Nat} {τ : ja_S}
theorem fe_n0 {e : Nat × Nat} (h : fe_ok τ e) : ¬ τ.1 45 14 = 0 := by
  rw [h.1]
  exact nI_ne0' h.2.2.1 (by have := h.2.2.2; omega)
theorem mt_mq {p : Nat} (h : mt_ok f n τ (pz_sk f n p)) (hp : p ≤ n) : mzp_ok f n τ p := ⟨_, h, sk_idem hp, hp⟩
theorem mt_mq' {p : Nat} (h : mt_ok f n τ p) : mzp_ok f n τ p := ⟨_, h, rfl, h.1.2.2.2.2.2⟩
theorem mb_si {s s' : Nat} (h : mb_ok f n τ s) (hs : s' ≤ n) : mb_ok f n (ja_si τ 45 13 (nI s')) s' := by
  obtain ⟨h1, h2, h3, h4, h5, h6⟩ := h
  refine ⟨?_, ?_, fun i hi => ?_, h4, h5, hs⟩
  · rw [si_at, if_neg (by omega)]; exact h1
  · rw [si_at, if_pos ⟨rfl, rfl⟩]
  · rw [si_row (by omega)]; exact h3 i hi
theorem mt_si {s s' : Nat} (h : mt_ok f n τ s) (hs : s' ≤ n) : mt_ok f n (ja_si τ 45 13 (nI s')) s' := ⟨mb_si h.1 hs, (by rw [si_at, if_neg (by omega)]; exact h.2.1), (by rw [si_at, if_neg (by omega)]; exact h.2.2)⟩
theorem mt_16 {s : Nat} {v : Int32} (h : mt_ok f n τ s) : mt_ok f n (ja_si τ 45 16 v) s := by
  obtain ⟨⟨h1, h2, h3, h4, h5, h6⟩, h7, h8⟩ := h
  refine ⟨⟨?_, ?_, fun i hi => ?_, h4, h5, h6⟩, ?_, ?_⟩
  · rw [si_at, if_neg (by omega)]; exact h1
  · rw [si_at, if_neg (by omega)]; exact h2
  · rw [si_row (by omega)]; exact h3 i hi
  · rw [si_at, if_neg (by omega)]; exact h7
  · rw [si_at, if_neg (by omega)]; exact h8
/-- the first failure -/
def fl_st (τ : ja_S) (c o : Int32) : ja_S := ja_si (ja_si τ 45 14 c) 45 15 o
theorem fails0 {c o : Int32} (h : τ.1 45 14 = 0) : f_Model_fails 45 c o τ = some (fl_st τ c o) := by
  unfold f_Model_fails ja_pu fl_st
  rw [if_pos h, Option.bind_some, Option.bind_some]
theorem fails1 {c o : Int32} {e : Nat × Nat} (h : fe_ok τ e) : f_Model_fails 45 c o τ = some τ := by
  unfold f_Model_fails
  rw [if_neg (fe_n0 h)]
theorem fl_fe {c o : Nat} (h : c ≠ 0) (hc : c < 100) : fe_ok (fl_st τ (nI c) (nI o)) (c, o) := by
  refine ⟨?_, ?_, h, hc⟩
  · unfold fl_st; rw [si_at, if_neg (by omega), si_at, if_pos ⟨rfl, rfl⟩]
  · unfold fl_st; rw [si_at, if_pos ⟨rfl, rfl⟩]
theorem fl_fr {c o : Int32} : fr_mp τ (fl_st τ c o) := fr_mp_tr (fr_mp_si (j := 14) (by omega)) (fr_mp_si (j := 15) (by omega))
theorem fl_mb {s : Nat} {c o : Int32} (h : mb_ok f n τ s) : mb_ok f n (fl_st τ c o) s := by
  obtain ⟨h1, h2, h3, h4, h5, h6⟩ := h
  unfold fl_st
  refine ⟨?_, ?_, fun i hi => ?_, h4, h5, h6⟩
  · rw [si_at, if_neg (by omega), si_at, if_neg (by omega)]; exact h1
  · rw [si_at, if_neg (by omega), si_at, if_neg (by omega)]; exact h2
  · rw [si_row (by omega), si_row (by omega)]; exact h3 i hi
theorem fe_p {τ' : ja_S} {e : Nat × Nat} (h : fe_ok τ e) (h14 : τ'.1 45 14 = τ.1 45 14) (h15 : τ'.1 45 15 = τ.1 45 15) : fe_ok τ' e := ⟨h14.trans h.1, h15.trans h.2.1, h.2.2⟩
theorem mld {s i : Nat} (h : mb_ok f n τ s) (hi : i < n) : ja_ld ja_L0 τ 51 (nI i) = some (nI (f i)) := by
  rw [ld0 (N := 900) rfl (by have := h.2.2.2.1; omega) (by omega), h.2.2.1 i hi]
theorem peek_L0 : ∀ (k : Nat) (τ : ja_S) (s : Nat), mt_ok f n τ s → n - s < k → ∃ τ', f_Model_peek_L0 k 45 τ = some (pz_i f n (pz_sk f n s), τ') ∧ mt_ok f n τ' (pz_sk f n s) ∧ fr_mp τ τ' := by
  intro k
  have hB : ∀ (τ : ja_S) (s : Nat), mt_ok f n τ s → f_Model_peek_B38 45 τ = some (pz_i f n s, τ) := by
    intro τ s h
    obtain ⟨h1, h2, h3, h4, h5, h6⟩ := id h.1
    unfold f_Model_peek_B38 pz_i
    rw [h1, h2, show ja_q 45 10 = 51 from rfl]
    by_cases c : s < n
    · rw [if_neg (nI_ge c (by omega)), if_pos c, mld h.1 c, Option.bind_some]
    · rw [if_pos (nI_le (by omega) (by omega)), if_neg c]
  induction k with
  | zero => intro τ s _ h; omega
  | succ k ih =>
    intro τ s h hk
    obtain ⟨h1, h2, h3, h4, h5, h6⟩ := id h.1
    have hsk : pz_sk f n s = if s < n ∧ (f s == 32) = true then pz_sk f n (s + 1) else s := end_eq
    rw [f_Model_peek_L0, h1, h2, show ja_q 45 10 = 51 from rfl]
    by_cases c : s < n
    · have hfs := h5 s c
      rw [if_neg (nI_ge c (by omega)), mld h.1 c, Option.bind_some, show (32 : Int32) = nI 32 by decide +kernel]
      by_cases c2 : f s = 32
      · unfold ja_pu
        rw [if_pos ⟨c, by rw [c2]; rfl⟩] at hsk
        rw [if_pos (by rw [c2]), nI_1, Option.bind_some, hsk]
        obtain ⟨τ', e1, e2, e3⟩ := ih (ja_si τ 45 13 (nI (s + 1))) (s + 1) (mt_si h (by omega)) (by omega)
        exact ⟨τ', e1, e2, fr_mp_tr (fr_mp_si (by omega)) e3⟩
      · rw [if_neg (fun z => c2 (beq_iff_eq.mp z.2))] at hsk
        rw [if_neg (nI_ne c2 (by omega) (by omega)), hB τ s h, hsk]
        exact ⟨τ, rfl, h, fr_mp_rf⟩
    · rw [if_neg (fun z => c z.1)] at hsk
      rw [if_pos (nI_le (by omega) (by omega)), hB τ s h, hsk]
      exact ⟨τ, rfl, h, fr_mp_rf⟩
theorem peek_ok {p : Nat} (h : mzp_ok f n τ p) : ∃ τ', f_Model_peek 45 τ = some (pz_i f n (pz_sk f n p), τ') ∧ mt_ok f n τ' (pz_sk f n p) ∧ fr_mp τ τ' := by
  obtain ⟨s, h1, h2, h3⟩ := h
  have := peek_L0 ja_FU τ s h1 (by have := h1.1.2.2.2.1; unfold ja_FU; omega)
  rw [h2] at this
  exact this
theorem pzi_in {a b : Nat} {i : Nat} {σ : ja_S} {x y : Int64} (h6 : ∀ i, i < n → f i < 256) (ha : a < 1000) (hb : b < 1000) (hx : x = (nI a).toInt64) (hy : y = (nI b).toInt64) : f_Model_isIn (pz_i f n i).toInt64 x y σ = some (am_bz (decide (i < n) && decide (a ≤ f i ∧ f i ≤ b)), σ) := by
  rw [hx, hy, isIn2, nI_toInt (by omega), nI_toInt (by omega)]
  congr 3
  unfold pz_i
  by_cases c : i < n
  · have := h6 i c
    rw [if_pos c, decide_eq_true c, Bool.true_and, nI_toInt (by omega)]
    congr 1
    apply propext
    constructor <;> intro h <;> omega
  · rw [if_neg c, decide_eq_false c, Bool.false_and, show (-1 : Int32).toInt = -1 by decide +kernel]
    exact decide_eq_false (by omega)
theorem isDig_ok {p : Nat} (h : mzp_ok f n τ p) : ∃ τ', f_Model_isDigitHere 45 τ = some (am_bz (pz_d f n (pz_sk f n p)), τ') ∧ mt_ok f n τ' (pz_sk f n p) ∧ fr_mp τ τ' := by
  obtain ⟨τ', e1, e2, e3⟩ := peek_ok h
  have h0 : τ.1 45 14 = 0 := by obtain ⟨s, h1, _⟩ := h; exact h1.2.1
  refine ⟨τ', ?_, e2, e3⟩
  unfold f_Model_isDigitHere
  rw [if_pos h0, e1, Option.bind_some, pzi_in (a := 48) (b := 57) e2.1.2.2.2.2.1 (by omega) (by omega) (by decide +kernel) (by decide +kernel), Option.bind_some]
  unfold pz_d pz_D
  cases hc : (decide (pz_sk f n p < n) && decide (48 ≤ f (pz_sk f n p) ∧ f (pz_sk f n p) ≤ 57)) with
  | false => rw [if_pos (am_bz0.mpr rfl)]; rfl
  | true => rw [if_neg bz1]; rfl
/-- the letters from the spot on -/
theorem let_L2 {s : Nat} (h : mb_ok f n τ s) : ∀ (d k j : Nat), s + j + d = pz_lt f n s → d < k → f_Model_lettersHere_L2 k 45 (nI j) τ = some (nI (pz_lt f n s - s), τ) := by
  obtain ⟨h1, h2, h3, h4, h5, h6⟩ := id h
  have hle : s ≤ pz_lt f n s ∧ pz_lt f n s ≤ n := end_le h6
  intro d
  induction d with
  | zero =>
    intro k j hj hk
    obtain ⟨k, rfl⟩ : ∃ t, k = t + 1 := ⟨k - 1, by omega⟩
    rw [f_Model_lettersHere_L2, h1, h2, nI_add, show ja_q 45 10 = 51 from rfl]
    by_cases c : s + j < n
    · have hst : pz_L (f (pz_lt f n s)) = false := end_stop (P := fun i => pz_L (f i)) h6 (show pz_lt f n s < n by omega)
      have hv : f_Model_isIn (nI (f (s + j))).toInt64 97 122 τ = some (am_bz false, τ) := by
        have := pzi_in (f := f) (n := n) (σ := τ) (a := 97) (b := 122) (i := s + j) h5 (by omega) (by omega) rfl rfl
        rw [pz_i_lt c, decide_eq_true c, Bool.true_and] at this
        rw [show decide (97 ≤ f (s + j) ∧ f (s + j) ≤ 122) = pz_L (f (s + j)) from rfl, show s + j = pz_lt f n s by omega, hst] at this
        rw [show s + j = pz_lt f n s by omega]
        exact this
      rw [if_neg (nI_ge c (by omega)), mld h c, Option.bind_some, hv, Option.bind_some, if_pos (am_bz0.mpr rfl), show pz_lt f n s - s = j by omega]
    · rw [if_pos (nI_le (by omega) (by omega)), show pz_lt f n s - s = j by omega]
  | succ d ih =>
    intro k j hj hk
    obtain ⟨k, rfl⟩ : ∃ t, k = t + 1 := ⟨k - 1, by omega⟩
    have c : s + j < n := by omega
    have hall : pz_L (f (s + j)) = true := end_all (P := fun i => pz_L (f i)) (n := n) (p := s) (by omega) (show s + j < pz_lt f n s by omega)
    have hv : f_Model_isIn (nI (f (s + j))).toInt64 97 122 τ = some (am_bz true, τ) := by
      have := pzi_in (f := f) (n := n) (σ := τ) (a := 97) (b := 122) (i := s + j) h5 (by omega) (by omega) rfl rfl
      rw [pz_i_lt c, decide_eq_true c, Bool.true_and] at this
      rw [show decide (97 ≤ f (s + j) ∧ f (s + j) ≤ 122) = pz_L (f (s + j)) from rfl, hall] at this
      exact this
    rw [f_Model_lettersHere_L2, h1, h2, nI_add, show ja_q 45 10 = 51 from rfl, if_neg (nI_ge c (by omega)), mld h c, Option.bind_some, hv, Option.bind_some, if_neg bz1, nI_1]
    exact ih k (j + 1) (by omega) (by omega)
theorem lets_ok {s : Nat} (h : mb_ok f n τ s) : f_Model_lettersHere 45 τ = some (nI (pz_lt f n s - s), τ) := by
  have hle : s ≤ pz_lt f n s ∧ pz_lt f n s ≤ n := end_le h.2.2.2.2.2
  have := let_L2 h (pz_lt f n s - s) ja_FU 0 (by omega) (by have := h.2.2.2.1; unfold ja_FU; omega)
  rw [← am_z] at this
  exact this
/-- the nine words in one text -/
def kw_st (i : Nat) : Nat := match i with
  | 0 => 1
  | 1 => 8
  | 2 => 14
  | 3 => 23
  | 4 => 28
  | 5 => 34
  | 6 => 43
  | 7 => 49
  | 8 => 56
  | _ => 65
theorem kw_ok : ja_ln.getD 10 0 = 65 ∧ ∀ i, i < 9 → kw_st i + (pz_ws i).length + 1 = kw_st (i + 1) ∧ kw_st (i + 1) ≤ 65 ∧ (pz_ws i).length ≤ 8 ∧ 0 < (pz_ws i).length ∧ ja_ch 10 (kw_st i + (pz_ws i).length) = nI 32 ∧ ∀ j, j < (pz_ws i).length → ja_ch 10 (kw_st i + j) = nI ((pz_ws i).getD j 0) ∧ pz_L ((pz_ws i).getD j 0) = true := by decide +kernel
theorem chr_ok {j : Nat} (h : j < 65) : f_String_charAt (1000 + 10) (nI j) τ = some (ja_ch 10 j, τ) := by
  unfold f_String_charAt
  rw [show 1000 + 10 - 1000 = 10 from rfl, nI_toInt (by omega), if_pos (by rw [kw_ok.1]; omega), Int.toNat_natCast]
theorem wh_L83 {s i len : Nat} {K : Nat → Int32 → Int32 → Int32 → ja_S → Option (Int32 × ja_S)} (h : mb_ok f n τ s) (hi : i < 9) (hl : len = (pz_ws i).length) (hsn : s + len ≤ n) : ∀ (d k j : Nat), j + d = len → d < k → f_Model_wordHere_L83 K k 45 (nI len) (nI i) (nI (kw_st i)) (nI (kw_st i + len)) (am_bz true) (nI j) τ = f_Model_wordHere_B131 K 45 (nI len) (nI i) (nI (kw_st i + len)) (am_bz ((List.range' j d).all (fun t => f (s + t) == (pz_ws i).getD t 0))) τ := by
  obtain ⟨w1, w2, w3, w4, w5, w6⟩ := kw_ok.2 i hi
  obtain ⟨h1, h2, h3, h4, h5, h6⟩ := id h
  intro d
  induction d with
  | zero =>
    intro k j hj hk
    obtain ⟨k, rfl⟩ : ∃ t, k = t + 1 := ⟨k - 1, by omega⟩
    rw [f_Model_wordHere_L83, if_pos (nI_le (by omega) (by omega))]
    rfl
  | succ d ih =>
    intro k j hj hk
    obtain ⟨k, rfl⟩ : ∃ t, k = t + 1 := ⟨k - 1, by omega⟩
    obtain ⟨g1, g2⟩ := w6 j (by omega)
    have g3 := of_decide_eq_true g2
    have hf := h5 (s + j) (by omega)
    rw [f_Model_wordHere_L83, if_neg (nI_ge (by omega) (by omega)), if_neg bz1, nI_add, chr_ok (by omega), Option.bind_some, g1, show ja_q 45 10 = 51 from rfl, h2, nI_add, mld h (by omega), Option.bind_some]
    show _ = f_Model_wordHere_B131 K 45 (nI len) (nI i) (nI (kw_st i + len)) (am_bz ((f (s + j) == (pz_ws i).getD j 0) && (List.range' (j + 1) d).all (fun t => f (s + t) == (pz_ws i).getD t 0))) τ
    by_cases hc : f (s + j) = (pz_ws i).getD j 0
    · rw [if_pos (by rw [hc]), show (f (s + j) == (pz_ws i).getD j 0) = true from beq_iff_eq.mpr hc, Bool.true_and, nI_1]
      exact ih k (j + 1) (by omega) (by omega)
    · rw [if_neg (nI_ne (fun z => hc z.symm) (by omega) (by omega)), show (f (s + j) == (pz_ws i).getD j 0) = false from beq_eq_false_iff_ne.mpr hc, Bool.false_and]
      have hK : ∀ (k : Nat) (x : Int32), 0 < k → f_Model_wordHere_L83 K k 45 (nI len) (nI i) (nI (kw_st i)) (nI (kw_st i + len)) 0 x τ = f_Model_wordHere_B131 K 45 (nI len) (nI i) (nI (kw_st i + len)) (am_bz false) τ := by
        intro k x hk0
        obtain ⟨k, rfl⟩ : ∃ t, k = t + 1 := ⟨k - 1, by omega⟩
        rw [f_Model_wordHere_L83, if_pos (show (0 : Int32) = 0 from rfl)]
        by_cases cc : nI len ≤ x
        · rw [if_pos cc]; rfl
        · rw [if_neg cc]; rfl
      exact hK k _ (by omega)
theorem wh_step {s i k : Nat} (h : mb_ok f n τ s) (hi : i < 9) (hL : s < n ∧ pz_L (f s) = true) : f_Model_wordHere_L35 (k + 1) 45 (nI (pz_lt f n s - s)) (nI i) (nI (kw_st i)) τ = if pz_w f n (pz_ws i) s = true then some (nI i, τ) else f_Model_wordHere_L35 k 45 (nI (pz_lt f n s - s)) (nI (i + 1)) (nI (kw_st (i + 1))) τ := by
  obtain ⟨w1, w2, w3, w4, w5, w6⟩ := kw_ok.2 i hi
  obtain ⟨h1, h2, h3, h4, h5, h6⟩ := id h
  have hle : s ≤ pz_lt f n s ∧ pz_lt f n s ≤ n := end_le h6
  have hte : pz_te f n s = pz_lt f n s := by unfold pz_te; rw [if_pos hL.1, if_pos hL.2]
  obtain ⟨K, hK⟩ : ∃ K, K = f_Model_wordHere_L35 k := ⟨_, rfl⟩
  -- to the blank behind the word
  have hL47 : ∀ (d m j : Nat), j + d = (pz_ws i).length → d < m → f_Model_wordHere_L47 K m 45 (nI (pz_lt f n s - s)) (nI i) (nI (kw_st i)) (nI (kw_st i + j)) τ = f_Model_wordHere_L47 K 1 45 (nI (pz_lt f n s - s)) (nI i) (nI (kw_st i)) (nI (kw_st i + (pz_ws i).length)) τ := by
    intro d
    induction d with
    | zero =>
      intro m j hj hm
      obtain ⟨m, rfl⟩ : ∃ t, m = t + 1 := ⟨m - 1, by omega⟩
      rw [show j = (pz_ws i).length by omega, f_Model_wordHere_L47, f_Model_wordHere_L47, chr_ok (by omega), Option.bind_some, Option.bind_some, w5, if_pos (show nI 32 = 32 by decide +kernel), if_pos (show nI 32 = 32 by decide +kernel)]
    | succ d ih =>
      intro m j hj hm
      obtain ⟨m, rfl⟩ : ∃ t, m = t + 1 := ⟨m - 1, by omega⟩
      obtain ⟨g1, g2⟩ := w6 j (by omega)
      have g3 := of_decide_eq_true g2
      have hstep : f_Model_wordHere_L47 K (m + 1) 45 (nI (pz_lt f n s - s)) (nI i) (nI (kw_st i)) (nI (kw_st i + j)) τ = f_Model_wordHere_L47 K m 45 (nI (pz_lt f n s - s)) (nI i) (nI (kw_st i)) (nI (kw_st i + (j + 1))) τ := by
        rw [f_Model_wordHere_L47, chr_ok (by omega), Option.bind_some, g1, show (32 : Int32) = nI 32 by decide +kernel, if_neg (nI_ne (by omega) (by omega) (by omega)), nI_1]
        rfl
      rw [hstep]
      exact ih m (j + 1) (by omega) (by omega)
  rw [f_Model_wordHere_L35]
  unfold f_String_length
  have h0 := hL47 (pz_ws i).length ja_FU 0 (by omega) (by unfold ja_FU; omega)
  rw [Nat.add_zero] at h0
  rw [Option.bind_some, show 1000 + 10 - 1000 = 10 from rfl, kw_ok.1, if_neg (show ¬ Int32.ofNat 65 ≤ nI (kw_st i) from nI_ge (by omega) (by omega)), ← hK, h0, f_Model_wordHere_L47, chr_ok (by omega), Option.bind_some, w5, if_pos (show nI 32 = 32 by decide +kernel), pk_sub (by omega), show kw_st i + (pz_ws i).length - kw_st i = (pz_ws i).length by omega]
  have hB : ∀ b : Bool, f_Model_wordHere_B131 K 45 (nI (pz_lt f n s - s)) (nI i) (nI (kw_st i + (pz_ws i).length)) (am_bz b) τ = if b = true then some (nI i, τ) else K 45 (nI (pz_lt f n s - s)) (nI (i + 1)) (nI (kw_st (i + 1))) τ := by
    intro b
    unfold f_Model_wordHere_B131
    cases b with
    | false => rw [if_pos (am_bz0.mpr rfl), nI_1, nI_1, w1, if_neg (show ¬ (false = true) by decide)]
    | true => rw [if_neg bz1, if_pos rfl]
  by_cases hc : pz_lt f n s - s = (pz_ws i).length
  · have := wh_L83 (K := K) (len := (pz_ws i).length) h hi rfl (by omega) (pz_ws i).length ja_FU 0 (by omega) (by unfold ja_FU; omega)
    rw [← am_z, ← List.range_eq_range'] at this
    rw [if_pos (show nI (pz_ws i).length = nI (pz_lt f n s - s) by rw [hc])]
    have hw : pz_w f n (pz_ws i) s = (List.range (pz_ws i).length).all (fun t => f (s + t) == (pz_ws i).getD t 0) := by
      unfold pz_w
      rw [decide_eq_true (by omega), Bool.true_and]
    rw [hw, ← hB, hc]
    exact this
  · rw [if_neg (show ¬ nI (pz_ws i).length = nI (pz_lt f n s - s) from nI_ne (by omega) (by omega) (by omega))]
    have hw : pz_w f n (pz_ws i) s = false := by
      unfold pz_w
      rw [decide_eq_false (by omega), Bool.false_and]
    rw [hw, ← hB, show ja_FU = 9999 + 1 from rfl, f_Model_wordHere_L83, if_pos (show (0 : Int32) = 0 from rfl), ite_self]
    rfl
theorem wh_L35 {s : Nat} (h : mb_ok f n τ s) (hL : s < n ∧ pz_L (f s) = true) : ∀ (d i k : Nat), i + d = 9 → d < k → f_Model_wordHere_L35 k 45 (nI (pz_lt f n s - s)) (nI i) (nI (kw_st i)) τ = some (am_io (am_first (fun i => pz_w f n (pz_ws i) s) d i), τ) := by
  intro d
  induction d with
  | zero =>
    intro i k hi hk
    obtain ⟨k, rfl⟩ : ∃ t, k = t + 1 := ⟨k - 1, by omega⟩
    rw [f_Model_wordHere_L35]
    unfold f_String_length
    rw [Option.bind_some, show 1000 + 10 - 1000 = 10 from rfl, kw_ok.1, show i = 9 by omega, if_pos (show Int32.ofNat 65 ≤ nI (kw_st 9) by decide +kernel)]
    rfl
  | succ d ih =>
    intro i k hi hk
    obtain ⟨k, rfl⟩ : ∃ t, k = t + 1 := ⟨k - 1, by omega⟩
    rw [wh_step h (by omega) hL, first_succ]
    by_cases c : pz_w f n (pz_ws i) s = true
    · rw [if_pos c, if_pos c]
      rfl
    · rw [if_neg c, if_neg c]
      exact ih (i + 1) k (by omega) (by omega)
/-- a word begins with a letter -/
theorem w_let {q i : Nat} (hi : i < 9) (hq : q ≤ n) (h : pz_w f n (pz_ws i) q = true) : q < n ∧ pz_L (f q) = true ∧ pz_te f n q = pz_lt f n q := by
  obtain ⟨w1, w2, w3, w4, w5, w6⟩ := kw_ok.2 i hi
  unfold pz_w at h
  rw [Bool.and_eq_true, List.all_eq_true] at h
  have h1 := of_decide_eq_true h.1
  have h2 := beq_iff_eq.mp (h.2 0 (List.mem_range.mpr w4))
  have hte := te_le (f := f) hq
  have hL : pz_L (f q) = true := by
    rw [show f q = f (q + 0) from rfl, h2]
    exact (w6 0 w4).2
  have hqn : q < n := by omega
  refine ⟨hqn, hL, ?_⟩
  unfold pz_te
  rw [if_pos hqn, if_pos hL]
theorem word_ok {p : Nat} (h : mzp_ok f n τ p) : ∃ τ', f_Model_wordHere 45 τ = some (am_io (pz_wd f n (pz_sk f n p)), τ') ∧ mt_ok f n τ' (pz_sk f n p) ∧ fr_mp τ τ' := by
  obtain ⟨τ', e1, e2, e3⟩ := peek_ok h
  have h0 : τ.1 45 14 = 0 := by obtain ⟨s, h1, _⟩ := h; exact h1.2.1
  have hpn : p ≤ n := by obtain ⟨s, _, _, h3⟩ := h; exact h3
  have hsk := sk_le (f := f) hpn
  refine ⟨τ', ?_, e2, e3⟩
  unfold f_Model_wordHere
  rw [if_pos h0, e1, Option.bind_some, pzi_in (a := 97) (b := 122) e2.1.2.2.2.2.1 (by omega) (by omega) (by decide +kernel) (by decide +kernel), Option.bind_some]
  cases hc : (decide (pz_sk f n p < n) && decide (97 ≤ f (pz_sk f n p) ∧ f (pz_sk f n p) ≤ 122)) with
  | false =>
    have hn : pz_wd f n (pz_sk f n p) = none := by
      cases hw : pz_wd f n (pz_sk f n p) with
      | none => rfl
      | some i =>
        have hi := wd_lt hw
        obtain ⟨a1, a2, a3⟩ := w_let hi hsk.2 ((wd_iff hi).mp hw)
        unfold pz_L at a2
        rw [decide_eq_true a1, a2] at hc
        cases hc
    rw [if_pos (am_bz0.mpr rfl), hn]
    rfl
  | true =>
    rw [Bool.and_eq_true] at hc
    have hl := wh_L35 (τ := τ') e2.1 ⟨of_decide_eq_true hc.1, hc.2⟩ 9 0 ja_FU (by omega) (by unfold ja_FU; omega)
    rw [if_neg bz1, lets_ok e2.1, Option.bind_some]
    rw [← am_z] at hl
    exact hl
end MTX
