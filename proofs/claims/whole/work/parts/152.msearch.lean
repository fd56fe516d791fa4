/-! the reference's search holds the same list -/
theorem and1_32 (y : BitVec 32) : y &&& 1#32 = 1#32 ↔ y.getLsbD 0 = true := by
  constructor
  · intro h
    have h1 := congrArg (fun z => z.getLsbD 0) h
    simpa using h1
  · intro h
    rw [BitVec.and_one_eq_setWidth_ofBool_getLsbD, h]
    decide
theorem nI_bit32 {a l : Nat} (h : l < 32) : ((nI a >>> (nI l &&& 31)) &&& 1 = 1) ↔ a.testBit l = true := by
  rw [← Int32.toBitVec_inj]
  show (BitVec.ofNat 32 a).sshiftRight ((nI l &&& 31).toBitVec.smod 32).toNat &&& 1#32 = 1#32 ↔ _
  rw [nI_sc h, and1_32, BitVec.getLsbD_sshiftRight, Nat.add_zero, if_pos h, BitVec.getLsbD_ofNat]
  simp [h]
theorem has32 {s l : Nat} {σ : ja_S} (hl : l < 32) : f_Model_has (nI s) (nI l) σ = some (am_bz (s.testBit l), σ) := by
  unfold f_Model_has
  by_cases h : s.testBit l = true
  · rw [if_pos ((nI_bit32 hl).mpr h), h]
    rfl
  · rw [if_neg (fun q => h ((nI_bit32 hl).mp q)), show s.testBit l = false by simpa using h]
    rfl
theorem first_none {p : Nat → Bool} : ∀ (n i : Nat), am_first p n i = none ↔ ∀ k, i ≤ k → k < i + n → p k = false
  | 0, i => ⟨fun _ k h1 h2 => by omega, fun _ => rfl⟩
  | n + 1, i => by
    unfold am_first
    by_cases h : p i = true
    · rw [if_pos h]
      exact ⟨fun q => (by cases q), fun q => (by have := q i (by omega) (by omega); rw [h] at this; cases this)⟩
    · rw [if_neg h, first_none n (i + 1)]
      constructor
      · intro h2 k h3 h4
        by_cases hk : k = i
        · rw [hk]; simpa using h
        · exact h2 k (by omega) (by omega)
      · intro h2 k h3 h4
        exact h2 k (by omega) (by omega)
/-- no rule of a list blocks the move -/
def am_al (L : List am_R) (s l : Nat) : Bool := !(L.any (fun r => am_blk r s l))
/-- the rules of a set -/
def am_sel (rs : List am_R) (us : Nat) : List am_R := ((List.range rs.length).filter (fun k => us.testBit k)).map (am_rd rs)
theorem am_sel_mem {rs : List am_R} {us : Nat} {r : am_R} : r ∈ am_sel rs us ↔ ∃ k, k < rs.length ∧ us.testBit k = true ∧ am_rd rs k = r := by
  unfold am_sel
  rw [List.mem_map]
  constructor
  · rintro ⟨k, hk, rfl⟩
    have := List.mem_filter.mp hk
    exact ⟨k, List.mem_range.mp this.1, this.2, rfl⟩
  · rintro ⟨k, h1, h2, rfl⟩
    exact ⟨k, List.mem_filter.mpr ⟨List.mem_range.mpr h1, h2⟩, rfl⟩
theorem am_al_t {L : List am_R} {s l : Nat} : am_al L s l = true ↔ ∀ r ∈ L, am_blk r s l = false := by
  unfold am_al
  rw [Bool.not_eq_true', List.any_eq_false]
  constructor
  · intro h r hr
    simpa using h r hr
  · intro h r hr
    simp [h r hr]
theorem am_sel_al {rs : List am_R} {us s l : Nat} : (am_first (fun k => us.testBit k && am_blk (am_rd rs k) s l) rs.length 0).isNone = am_al (am_sel rs us) s l := by
  rw [Bool.eq_iff_iff, Option.isNone_iff_eq_none, first_none, am_al_t]
  constructor
  · intro h r hr
    obtain ⟨k, h1, h2, rfl⟩ := am_sel_mem.mp hr
    have := h k (by omega) (by omega)
    rw [h2, Bool.true_and] at this
    exact this
  · intro h k _ hk
    cases hu : us.testBit k with
    | false => rfl
    | true =>
      rw [Bool.true_and]
      exact h _ (am_sel_mem.mpr ⟨k, by omega, hu, rfl⟩)
/-- what the reference asks: levers, rules, which of them count, levers that are gone -/
def mq_ok (σ : ja_S) (N : Nat) (rs : List am_R) (us gn : Nat) : Prop := am_q rs σ ∧ σ.1 45 0 = nI N ∧ σ.1 45 27 = nI rs.length ∧ σ.1 45 28 = nI us ∧ σ.1 45 29 = nI gn ∧ N ≤ 12
def fr_m (σ σ' : ja_S) : Prop := (∀ k j, k ≠ 58 → k ≠ 59 → (k ≠ 45 ∨ j ≠ 32) → σ'.1 k j = σ.1 k j) ∧ σ'.2 = σ.2
theorem fr_m_rf {σ : ja_S} : fr_m σ σ := ⟨fun _ _ _ _ _ => rfl, rfl⟩
theorem fr_m_tr {a b c : ja_S} (h1 : fr_m a b) (h2 : fr_m b c) : fr_m a c := ⟨fun k j x y z => (h2.1 k j x y z).trans (h1.1 k j x y z), h2.2.trans h1.2⟩
theorem am_q_fr {rs : List am_R} {σ σ' : ja_S} (h : am_q rs σ) (hc : ∀ j, σ'.1 56 j = σ.1 56 j) : am_q rs σ' := by
  have : σ'.1 56 = σ.1 56 := funext hc
  unfold am_q at h ⊢
  rw [this]
  exact h
theorem mq_fr {σ σ' : ja_S} {N : Nat} {rs : List am_R} {us gn : Nat} (h : mq_ok σ N rs us gn) (hf : fr_m σ σ') : mq_ok σ' N rs us gn := by
  obtain ⟨h1, h2, h3, h4, h5, h6⟩ := h
  exact ⟨am_q_fr h1 (fun j => hf.1 56 j (by omega) (by omega) (by omega)), (hf.1 45 0 (by omega) (by omega) (by omega)).trans h2, (hf.1 45 27 (by omega) (by omega) (by omega)).trans h3, (hf.1 45 28 (by omega) (by omega) (by omega)).trans h4, (hf.1 45 29 (by omega) (by omega) (by omega)).trans h5, h6⟩
section MS
variable {σ : ja_S} {N : Nat} {rs : List am_R} {us gn : Nat}
theorem mblock_L2 (h : mq_ok σ N rs us gn) {s l : Nat} (hs : s < 4096) (hl : l < 12) : ∀ (n i : Nat), i ≤ rs.length → rs.length - i < n → f_Model_blockOf_L2 n 45 (nI s) (nI l) (nI i) σ = some (am_io (am_first (fun k => us.testBit k && am_blk (am_rd rs k) s l) (rs.length - i) i), σ) := by
  obtain ⟨h1, h2, h3, h4, h5, h6⟩ := h
  have hlen := h1.2.1
  intro n
  induction n with
  | zero => intro i _ h; omega
  | succ n ih =>
    intro i hi hn
    unfold f_Model_blockOf_L2
    rw [h3, h4]
    by_cases h : i = rs.length
    · subst h
      rw [if_pos (nI_le (Nat.le_refl _) (by omega)), Nat.sub_self]
      rfl
    · rw [if_neg (nI_ge (by omega) (by omega)), has32 (by omega), Option.bind_some, show rs.length - i = (rs.length - (i + 1)) + 1 by omega]
      unfold am_first
      cases us.testBit i with
      | false =>
        rw [if_pos (am_bz0.mpr rfl), if_neg (by simp), nI_1, ih (i + 1) (by omega) (by omega)]
      | true =>
        rw [if_neg bz1, mblk_ok h1 (by omega) hs hl, Option.bind_some, Bool.true_and]
        cases am_blk (am_rd rs i) s l with
        | false => rw [if_pos (am_bz0.mpr rfl), if_neg (by simp), nI_1, ih (i + 1) (by omega) (by omega)]
        | true => rw [if_neg bz1, if_pos rfl]; rfl
theorem mfree_ok (h : mq_ok σ N rs us gn) {s l : Nat} (hs : s < 4096) (hl : l < 12) : f_Model_isFree 45 (nI s) (nI l) σ = some (am_bz (!gn.testBit l && am_al (am_sel rs us) s l), σ) := by
  have hlen := h.1.2.1
  have hb := mblock_L2 h hs hl ja_FU 0 (by omega) (by unfold ja_FU; omega)
  rw [Nat.sub_zero, ← am_z] at hb
  unfold f_Model_isFree f_Model_blockOf
  rw [h.2.2.2.2.1, has32 (by omega), Option.bind_some]
  cases gn.testBit l with
  | true => rw [if_neg bz1]; rfl
  | false =>
    rw [if_pos (am_bz0.mpr rfl), hb, Option.bind_some, ← am_sel_al]
    cases hf : am_first (fun k => us.testBit k && am_blk (am_rd rs k) s l) rs.length 0 with
    | none => rw [if_pos (show am_io none = -1 from rfl)]; rfl
    | some k =>
      have := first_lt _ _ _ hf
      rw [if_neg (show ¬ am_io (some k) = -1 from nI_m1 (a := k) (by omega))]; rfl
end MS
def mf_ok (σ : ja_S) (q : List bq_E) : Prop := σ.1 45 32 = nI q.length ∧ (∀ (i : Nat) (e : bq_E), q[i]? = some e → σ.1 59 i = nI e.1) ∧ ∀ s, s < 4096 → σ.1 58 s = bs_d (bq_see q s)
section MF
variable {σ : ja_S} {q : List bq_E} {s : Nat}
theorem clears_L2 : ∀ (n i : Nat) (σ : ja_S), i ≤ 4096 → 4096 - i < n → ∃ σ', f_Model_clears_L2 n 45 (nI i) σ = some σ' ∧ σ'.1 45 32 = 0 ∧ (∀ t, t < 4096 → i ≤ t → σ'.1 58 t = -1) ∧ (∀ t, t < i → σ'.1 58 t = σ.1 58 t) ∧ (∀ k j, k ≠ 58 → (k ≠ 45 ∨ j ≠ 32) → σ'.1 k j = σ.1 k j) ∧ σ'.2 = σ.2 := by
  intro n
  induction n with
  | zero => intro i σ _ h; omega
  | succ n ih =>
    intro i σ hi hn
    unfold f_Model_clears_L2 ja_pu
    rw [show (4096 : Int32) = nI 4096 by decide +kernel, show ja_q 45 30 = 58 from rfl]
    by_cases h : i = 4096
    · rw [h, if_pos (nI_le (Nat.le_refl _) (by omega)), Option.bind_some]
      refine ⟨_, rfl, ?_, ?_, ?_, ?_, rfl⟩
      · rw [si_at, if_pos ⟨rfl, rfl⟩]
      · intro t h1 h2; omega
      · intro t h1
        rw [si_at, if_neg (by omega)]
      · intro k j h1 h2
        rw [si_at, if_neg (by omega)]
    · rw [if_neg (nI_ge (by omega) (by omega)), st0' (N := 4096) rfl (by omega) (by omega), Option.bind_some, nI_1]
      obtain ⟨σ', e1, e2, e3, e4, e5, e6⟩ := ih (i + 1) (ja_si σ 58 i (-1)) (by omega) (by omega)
      refine ⟨σ', e1, e2, ?_, ?_, ?_, e6⟩
      · intro t h1 h2
        by_cases h3 : t = i
        · rw [h3, e4 i (by omega), si_at, if_pos ⟨rfl, rfl⟩]
        · exact e3 t h1 (by omega)
      · intro t h1
        rw [e4 t (by omega), si_at, if_neg (by omega)]
      · intro k j h1 h2
        rw [e5 k j h1 h2, si_at, if_neg (by omega)]
theorem clears_ok : ∃ σ', f_Model_clears 45 σ = some σ' ∧ mf_ok σ' [] ∧ (∀ k j, k ≠ 58 → (k ≠ 45 ∨ j ≠ 32) → σ'.1 k j = σ.1 k j) ∧ σ'.2 = σ.2 := by
  obtain ⟨σ', e1, e2, e3, e4, e5, e6⟩ := clears_L2 ja_FU 0 σ (by omega) (by unfold ja_FU; omega)
  refine ⟨σ', ?_, ⟨?_, ?_, ?_⟩, e5, e6⟩
  · unfold f_Model_clears
    rw [am_z]
    exact e1
  · rw [e2]; exact am_z
  · intro i e he; simp at he
  · intro t ht
    rw [e3 t ht (by omega)]
    rfl
theorem reaches_ok (hm : mf_ok σ q) (hq : bq_ok q) (hs : s < 4096) {d l : Nat} (hd : d ≤ q.length) (hl : l < 12) : ∃ σ', f_Model_reaches 45 (nI s) (nI d) σ = some σ' ∧ mf_ok σ' (if bq_see q s = none then q ++ [(s, d, l)] else q) ∧ fr_m σ σ' := by
  have hlen := bq_ok_len hq
  unfold f_Model_reaches ja_pu
  rw [show ja_q 45 30 = 58 from rfl, show ja_q 45 31 = 59 from rfl, ld0 (N := 4096) rfl hs (by omega), Option.bind_some, hm.2.2 s hs]
  cases h : bq_see q s with
  | some x =>
    have := bq_bd hq h
    rw [bs_d_some, if_neg (nI_m1 (by omega)), if_neg (fun z => by cases z)]
    exact ⟨σ, rfl, hm, fr_m_rf⟩
  | none =>
    have hq2 := bq_ok_len (bq_ok_app hq hs hl hd h)
    rw [List.length_append, List.length_singleton] at hq2
    rw [bs_d_none, if_pos rfl, if_pos rfl, st0' (N := 4096) rfl hs (by omega), Option.bind_some, si_row (by omega), hm.1, st0' (N := 4096) rfl (by omega) (by omega), Option.bind_some, Option.bind_some, si_row (by omega), si_row (by omega), hm.1, nI_1]
    refine ⟨_, rfl, ⟨?_, ?_, ?_⟩, ?_, rfl⟩
    · rw [si_at, if_pos ⟨rfl, rfl⟩, List.length_append]
      rfl
    · intro i e he
      rw [si_at, if_neg (by omega), si_at]
      by_cases hi : i < q.length
      · rw [if_neg (by omega), si_at, if_neg (by omega)]
        rw [List.getElem?_append_left hi] at he
        exact hm.2.1 i e he
      · rw [List.getElem?_append_right (by omega)] at he
        have h3 : i - q.length = 0 := by
          have := (List.getElem?_eq_some_iff.mp he).1
          simp at this
          omega
        rw [h3] at he
        have h4 : (s, d, l) = e := by simpa using he
        rw [if_pos ⟨rfl, by omega⟩, ← h4]
    · intro t ht
      rw [si_at, if_neg (by omega), si_at, if_neg (by omega), si_at, bq_see_app]
      by_cases h1 : t = s
      · subst h1
        rw [if_pos ⟨rfl, rfl⟩, h]
        show _ = bs_d (if t = t then some (d, l) else none)
        rw [if_pos rfl, bs_d_some]
      · rw [if_neg (fun z => h1 z.2), hm.2.2 t ht]
        cases bq_see q t with
        | some x => rfl
        | none =>
          show bs_d none = bs_d (if s = t then some (d, l) else none)
          rw [if_neg (fun z => h1 z.symm)]
    · intro k j h1 h2 h3
      rw [si_at, if_neg (by omega), si_at, if_neg (by omega), si_at, if_neg (by omega)]
theorem sp_L19 {al : Nat → Nat → Bool} {N d p x : Nat} (hN : N ≤ 12) (hs : s < 4096) {σ0 : ja_S} (h0N : σ0.1 45 0 = nI N) (hal : ∀ τ : ja_S, fr_m σ0 τ → ∀ l, l < N → f_Model_isFree 45 (nI s) (nI l) τ = some (am_bz (al s l), τ)) (hal2 : ∀ l, N ≤ l → al s l = false) (k2 : Nat → Int32 → ja_S → Option ja_S) : ∀ (m n l : Nat) (σ : ja_S) (q : List bq_E), l + m = 12 → m < n → fr_m σ0 σ → mf_ok σ q → bq_ok q → q[p]? = some (s, d, x) → ∃ σ', f_Model_spreads_L19 k2 n 45 (nI p) (nI s) (nI l) σ = k2 45 (nI (p + 1)) σ' ∧ mf_ok σ' (bq_lev al s d (List.range' l m) q) ∧ fr_m σ σ' := by
  intro m
  induction m with
  | zero =>
    intro n l σ q hl hn h0 hb hq hp
    obtain ⟨n, rfl⟩ : ∃ j, n = j + 1 := ⟨n - 1, by omega⟩
    refine ⟨σ, ?_, hb, fr_m_rf⟩
    rw [f_Model_spreads_L19, (h0.1 45 0 (by omega) (by omega) (by omega)).trans h0N, if_pos (nI_le (by omega) (by omega)), nI_1]
  | succ m ih =>
    intro n l σ q hl hn h0 hb hq hp
    obtain ⟨n, rfl⟩ : ∃ j, n = j + 1 := ⟨n - 1, by omega⟩
    have hx : s ^^^ 2 ^ l < 4096 := xor_lt30 hs (by omega)
    rw [f_Model_spreads_L19, (h0.1 45 0 (by omega) (by omega) (by omega)).trans h0N]
    by_cases hz : N ≤ l
    · refine ⟨σ, ?_, ?_, fr_m_rf⟩
      · rw [if_pos (nI_le (by omega) (by omega)), nI_1]
      · rw [bq_lev_skip]
        · exact hb
        · intro l2 hl2
          have := (List.mem_range'_1.mp hl2).1
          exact hal2 l2 (by omega)
    · rw [if_neg (nI_ge (by omega) (by omega)), hal σ h0 l (by omega), Option.bind_some]
      show ∃ σ', _ ∧ mf_ok σ' (bq_lev al s d (List.range' (l + 1) m) (if al s l = true ∧ bq_see q (s ^^^ 2 ^ l) = none then q ++ [(s ^^^ 2 ^ l, d + 1, l)] else q)) ∧ _
      cases ha : al s l with
      | false =>
        rw [if_pos (am_bz0.mpr rfl), if_neg (fun z => by cases z.1), nI_1]
        exact ih n (l + 1) σ q (by omega) (by omega) h0 hb hq hp
      | true =>
        have hd : bq_see q s = some (d, x) := bq_see_mem hq.1 (List.mem_of_getElem? hp)
        have hpl := (List.getElem?_eq_some_iff.mp hp).1
        have hdp : d ≤ p := hq.2.2 p _ hp
        obtain ⟨σ1, e1, e2, e3⟩ := reaches_ok hb hq hx (d := d + 1) (l := l) (by omega) (by omega)
        rw [if_neg bz1, show ja_q 45 30 = 58 from rfl, ld0 (N := 4096) rfl hs (by omega), Option.bind_some, hb.2.2 s hs, hd, bs_d_some, nI_1, nI_pow (by omega), nI_xor, e1, Option.bind_some, nI_1]
        by_cases hsee : bq_see q (s ^^^ 2 ^ l) = none
        · rw [if_pos hsee] at e2
          rw [if_pos ⟨rfl, hsee⟩]
          obtain ⟨σ2, g1, g2, g3⟩ := ih n (l + 1) σ1 _ (by omega) (by omega) (fr_m_tr h0 e3) e2 (bq_ok_app hq hx (by omega) (by omega) hsee) (pre_get hp)
          exact ⟨σ2, g1, g2, fr_m_tr e3 g3⟩
        · rw [if_neg hsee] at e2
          rw [if_neg (fun z => hsee z.2)]
          obtain ⟨σ2, g1, g2, g3⟩ := ih n (l + 1) σ1 _ (by omega) (by omega) (fr_m_tr h0 e3) e2 hq hp
          exact ⟨σ2, g1, g2, fr_m_tr e3 g3⟩
theorem sp_L2 {al : Nat → Nat → Bool} {N : Nat} (hN : N ≤ 12) {σ0 : ja_S} (h0N : σ0.1 45 0 = nI N) (hal : ∀ τ : ja_S, fr_m σ0 τ → ∀ s l, s < 4096 → l < N → f_Model_isFree 45 (nI s) (nI l) τ = some (am_bz (al s l), τ)) (hal2 : ∀ s l, N ≤ l → al s l = false) : ∀ (n p : Nat) (σ : ja_S) (q : List bq_E), p ≤ q.length → 4096 - p < n → fr_m σ0 σ → mf_ok σ q → bq_ok q → ∃ σ', f_Model_spreads_L2 n 45 (nI p) σ = some σ' ∧ mf_ok σ' (bq_go al n p q) ∧ fr_m σ σ' := by
  intro n
  induction n with
  | zero => intro p σ q _ h; omega
  | succ n ih =>
    intro p σ q hp hn h0 hb hq
    have hlen := bq_ok_len hq
    rw [f_Model_spreads_L2, hb.1]
    unfold bq_go
    by_cases h : p = q.length
    · rw [if_pos (nI_le (by omega) (by omega)), List.getElem?_eq_none (by omega)]
      exact ⟨σ, rfl, hb, fr_m_rf⟩
    · have hi2 : p < q.length := by omega
      have he : q[p]? = some q[p] := List.getElem?_eq_getElem hi2
      have hs := (hq.2.1 _ (List.mem_of_getElem? he)).1
      have he' : q[p]? = some (q[p].1, q[p].2.1, q[p].2.2) := he
      rw [if_neg (nI_ge (by omega) (by omega)), show ja_q 45 31 = 59 from rfl, ld0 (N := 4096) rfl (by omega) (by omega), Option.bind_some, hb.2.1 p _ he, he, am_z]
      obtain ⟨σ1, e1, e2, e3⟩ := sp_L19 hN hs h0N (fun τ ht l hl => hal τ ht _ l hs hl) (fun l hl => hal2 _ l hl) (f_Model_spreads_L2 n) 12 ja_FU 0 σ q (by omega) (by unfold ja_FU; omega) h0 hb hq he'
      rw [e1]
      obtain ⟨t, ht⟩ := bq_lev_pre (al := al) (s := q[p].1) (d := q[p].2.1) bq_12 q
      obtain ⟨σ2, g1, g2, g3⟩ := ih (p + 1) σ1 _ (by show p + 1 ≤ (bq_lev _ _ _ bq_12 q).length; rw [ht, List.length_append]; omega) (by omega) (fr_m_tr h0 e3) e2 (bq_lev_ok bq_12 q hs bq_12_lt he' hq)
      exact ⟨σ2, g1, g2, fr_m_tr e3 g3⟩
/-- the moves that the reference allows -/
def mq_al (N : Nat) (rs : List am_R) (us gn : Nat) (s l : Nat) : Bool := decide (l < N) && (!gn.testBit l && am_al (am_sel rs us) s l)
theorem spreads_ok {N : Nat} {rs : List am_R} {us gn : Nat} (h : mq_ok σ N rs us gn) (hm : mf_ok σ q) (hq : bq_ok q) : ∃ σ', f_Model_spreads 45 σ = some σ' ∧ mf_ok σ' (bq_go (mq_al N rs us gn) ja_FU 0 q) ∧ fr_m σ σ' := by
  unfold f_Model_spreads
  rw [am_z]
  refine sp_L2 (al := mq_al N rs us gn) h.2.2.2.2.2 h.2.1 ?_ ?_ ja_FU 0 σ q (by omega) (by unfold ja_FU; omega) fr_m_rf hm hq
  · intro τ ht s l hs hl
    have := h.2.2.2.2.2
    rw [mfree_ok (mq_fr h ht) hs (by omega)]
    unfold mq_al
    rw [decide_eq_true hl, Bool.true_and]
  · intro s l hl
    unfold mq_al
    rw [decide_eq_false (by omega), Bool.false_and]
theorem laysFrom_ok {N : Nat} {rs : List am_R} {us gn : Nat} (h : mq_ok σ N rs us gn) (hs : s < 4096) : ∃ σ', f_Model_laysFrom 45 (nI s) σ = some σ' ∧ mf_ok σ' (bq_all (mq_al N rs us gn) s) ∧ fr_m σ σ' := by
  obtain ⟨σ1, e1, e2, e3, e4⟩ := clears_ok (σ := σ)
  obtain ⟨σ2, g1, g2, g3⟩ := reaches_ok e2 bq_ok_nil hs (d := 0) (l := 0) (by simp) (by omega)
  have f2 : fr_m σ σ2 := fr_m_tr ⟨fun k j x _ z => e3 k j x z, e4⟩ g3
  rw [if_pos (show bq_see [] s = none from rfl)] at g2
  obtain ⟨σ3, k1, k2, k3⟩ := spreads_ok (mq_fr h f2) g2 (bq_ok_one hs)
  refine ⟨σ3, ?_, k2, fr_m_tr f2 k3⟩
  unfold f_Model_laysFrom
  rw [e1, Option.bind_some, am_z, g1, Option.bind_some, k1, Option.bind_some]
end MF
