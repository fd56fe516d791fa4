/-! the class's search holds the list -/
theorem ja_qs {K : Nat} (hK : K = 17 ∨ K = 23) : ja_q K 0 = K + 1 ∧ ja_q K 3 = K + 4 ∧ ja_q K 4 = K + 5 := by
  rcases hK with rfl | rfl <;> exact ⟨rfl, rfl, rfl⟩
theorem ld_or {K j : Nat} {σ : ja_S} (hK : K = 17 ∨ K = 23) (h : j < 4096) : ja_ld ja_L0 σ (K + 4) (nI j) = some (σ.1 (K + 4) j) := by
  rcases hK with rfl | rfl
  · exact ld0 (N := 4096) rfl h (by omega)
  · exact ld0 (N := 4096) rfl h (by omega)
theorem ld_wy {K j : Nat} {σ : ja_S} (hK : K = 17 ∨ K = 23) (h : j < 4096) : ja_ld ja_L0 σ (K + 5) (nI j) = some (σ.1 (K + 5) j) := by
  rcases hK with rfl | rfl
  · exact ld0 (N := 4096) rfl h (by omega)
  · exact ld0 (N := 4096) rfl h (by omega)
theorem st_or {K j : Nat} {σ : ja_S} {v : Int32} (hK : K = 17 ∨ K = 23) (h : j < 4096) : ja_st ja_L0 σ (K + 4) (nI j) v = some (ja_si σ (K + 4) j v) := by
  rcases hK with rfl | rfl
  · exact st0' (N := 4096) rfl h (by omega)
  · exact st0' (N := 4096) rfl h (by omega)
theorem st_wy {K j : Nat} {σ : ja_S} {v : Int32} (hK : K = 17 ∨ K = 23) (h : j < 4096) : ja_st ja_L0 σ (K + 5) (nI j) v = some (ja_si σ (K + 5) j v) := by
  rcases hK with rfl | rfl
  · exact st0' (N := 4096) rfl h (by omega)
  · exact st0' (N := 4096) rfl h (by omega)
def bs_w (o : Option (Nat × Nat)) : Int32 := match o with
  | none => -1
  | some x => nI (16 * x.1 + x.2)
def bs_d (o : Option (Nat × Nat)) : Int32 := match o with
  | none => -1
  | some x => nI x.1
theorem bs_w_none : bs_w none = -1 := rfl
theorem bs_d_none : bs_d none = -1 := rfl
theorem bs_w_some {x : Nat × Nat} : bs_w (some x) = nI (16 * x.1 + x.2) := rfl
theorem bs_d_some {x : Nat × Nat} : bs_d (some x) = nI x.1 := rfl
def bs_ok (σ : ja_S) (K : Nat) (q : List bq_E) : Prop := σ.1 K 1 = nI q.length ∧ (∀ (i : Nat) (e : bq_E), q[i]? = some e → σ.1 (K + 4) i = nI e.1) ∧ ∀ s, s < 4096 → σ.1 (K + 5) s = bs_w (bq_see q s)
/-- only the search's own cells have changed -/
def fr_s (K : Nat) (σ σ' : ja_S) : Prop := (∀ k j, k ≠ K → k ≠ K + 4 → k ≠ K + 5 → σ'.1 k j = σ.1 k j) ∧ σ'.2 = σ.2
theorem fr_s_rf {K : Nat} {σ : ja_S} : fr_s K σ σ := ⟨fun _ _ _ _ _ => rfl, rfl⟩
theorem fr_s_tr {K : Nat} {a b c : ja_S} (h1 : fr_s K a b) (h2 : fr_s K b c) : fr_s K a c := ⟨fun k j x y z => (h2.1 k j x y z).trans (h1.1 k j x y z), h2.2.trans h1.2⟩
theorem bs_ok_fr {K : Nat} {σ σ' : ja_S} {q : List bq_E} (h : bs_ok σ K q) (hc : ∀ k, (k = K ∨ k = K + 4 ∨ k = K + 5) → σ'.1 k = σ.1 k) : bs_ok σ' K q := by
  unfold bs_ok at h ⊢
  rw [hc K (by omega), hc (K + 4) (by omega), hc (K + 5) (by omega)]
  exact h
theorem bq_bd {q : List bq_E} {s : Nat} {x : Nat × Nat} (h : bq_ok q) (hs : bq_see q s = some x) : x.1 < 4096 ∧ x.2 < 12 ∧ s < 4096 := by
  have h1 := bq_see_some hs
  obtain ⟨i, hi⟩ := List.getElem?_of_mem h1
  have h2 := h.2.2 i _ hi
  have h3 := (List.getElem?_eq_some_iff.mp hi).1
  have h4 := bq_ok_len h
  have h5 := h.2.1 _ h1
  dsimp only at h2 h5
  omega
section CS
variable {K : Nat} {σ : ja_S} {q : List bq_E} {s : Nat}
theorem reached_ok (hK : K = 17 ∨ K = 23) (hb : bs_ok σ K q) (hq : bq_ok q) (hs : s < 4096) : f_Search_reached K (nI s) σ = some (am_bz (bq_see q s).isSome, σ) := by
  unfold f_Search_reached
  rw [(ja_qs hK).2.2, if_neg (nI_pos (by omega)), show (4096 : Int32) = nI 4096 by decide +kernel, if_neg (nI_ge hs (by omega)), ld_wy hK hs, Option.bind_some, hb.2.2 s hs]
  cases h : bq_see q s with
  | none => rw [if_pos bs_w_none]; rfl
  | some x =>
    have := bq_bd hq h
    rw [bs_w_some, if_neg (nI_m1 (by omega))]; rfl
theorem movesTo_ok (hK : K = 17 ∨ K = 23) (hb : bs_ok σ K q) (hq : bq_ok q) (hs : s < 4096) : f_Search_movesTo K (nI s) σ = some (bs_d (bq_see q s), σ) := by
  unfold f_Search_movesTo
  rw [reached_ok hK hb hq hs, Option.bind_some]
  cases h : bq_see q s with
  | none => rw [Option.isSome_none, if_pos (am_bz0.mpr rfl)]; rfl
  | some x =>
    have := bq_bd hq h
    rw [Option.isSome_some, if_neg bz1, (ja_qs hK).2.2, ld_wy hK hs, Option.bind_some, hb.2.2 s hs, h, bs_w_some, show (16 : Int32) = nI 16 by decide +kernel, pk_div (by omega) (by omega) (by omega), bs_d_some, show (16 * x.1 + x.2) / 16 = x.1 by omega]
theorem enter_ok (hK : K = 17 ∨ K = 23) (hb : bs_ok σ K q) (hs : s < 4096) (hn : bq_see q s = none) (hl : q.length < 4096) (d l : Nat) : ∃ σ', f_Search_enter K (nI s) (nI (16 * d + l)) σ = some σ' ∧ bs_ok σ' K (q ++ [(s, d, l)]) ∧ σ'.1 K 2 = σ.1 K 2 ∧ fr_s K σ σ' := by
  unfold f_Search_enter ja_pu
  rw [(ja_qs hK).2.1, (ja_qs hK).2.2, if_neg (nI_pos (by omega)), show (4096 : Int32) = nI 4096 by decide +kernel, if_neg (nI_ge hs (by omega)), hb.1, if_neg (nI_ge hl (by omega)), st_or hK hl, Option.bind_some, Option.bind_some, st_wy hK hs, Option.bind_some, si_at, if_neg (by omega), hb.1, nI_1]
  refine ⟨_, rfl, ⟨?_, ?_, ?_⟩, ?_, ?_, ?_⟩
  · rw [si_at, if_neg (by omega), si_at, if_pos ⟨rfl, rfl⟩, List.length_append]
    rfl
  · intro i e he
    rw [si_at, if_neg (by omega), si_at, if_neg (by omega), si_at]
    by_cases hi : i < q.length
    · rw [if_neg (by omega)]
      rw [List.getElem?_append_left hi] at he
      exact hb.2.1 i e he
    · rw [List.getElem?_append_right (by omega)] at he
      have h3 : i - q.length = 0 := by
        have := (List.getElem?_eq_some_iff.mp he).1
        simp at this
        omega
      rw [h3] at he
      have h4 : (s, d, l) = e := by simpa using he
      rw [if_pos ⟨rfl, by omega⟩, ← h4]
  · intro t ht
    rw [si_at, bq_see_app]
    by_cases h1 : t = s
    · subst h1
      rw [if_pos ⟨rfl, rfl⟩, hn]
      show _ = bs_w (if t = t then some (d, l) else none)
      rw [if_pos rfl, bs_w_some]
    · rw [if_neg (fun z => h1 z.2), si_at, if_neg (by omega), si_at, if_neg (by omega), hb.2.2 t ht]
      cases bq_see q t with
      | some x => rfl
      | none =>
        show bs_w none = bs_w (if s = t then some (d, l) else none)
        rw [if_neg (fun z => h1 z.symm)]
  · rw [si_at, if_neg (by omega), si_at, if_neg (by omega), si_at, if_neg (by omega)]
  · intro k j h1 h2 h3
    rw [si_at, if_neg (by omega), si_at, if_neg (by omega), si_at, if_neg (by omega)]
  · rfl
theorem forget_L2 (hK : K = 17 ∨ K = 23) (hq : bq_ok q) : ∀ (n i : Nat) (σ : ja_S), i ≤ q.length → q.length - i < n → σ.1 K 1 = nI q.length → (∀ (i : Nat) (e : bq_E), q[i]? = some e → σ.1 (K + 4) i = nI e.1) → ∃ σ', f_Search_forget_L2 n K (nI i) σ = some σ' ∧ σ'.1 K 1 = 0 ∧ (∀ t, σ'.1 (K + 5) t = if t ∈ (q.drop i).map Prod.fst then -1 else σ.1 (K + 5) t) ∧ fr_s K σ σ' := by
  have hlen := bq_ok_len hq
  intro n
  induction n with
  | zero => intro i σ _ h; omega
  | succ n ih =>
    intro i σ hi hn h1 h2
    unfold f_Search_forget_L2 ja_pu
    rw [(ja_qs hK).2.1, (ja_qs hK).2.2, h1]
    by_cases h : i = q.length
    · rw [h, if_pos (nI_le (Nat.le_refl _) (by omega)), Option.bind_some]
      refine ⟨_, rfl, ?_, ?_, ?_, rfl⟩
      · rw [si_at, if_pos ⟨rfl, rfl⟩]
      · intro t
        rw [si_at, if_neg (by omega), List.drop_length, if_neg (by simp)]
      · intro k j h3 h4 h5
        rw [si_at, if_neg (by omega)]
    · have hi2 : i < q.length := by omega
      have he : q[i]? = some q[i] := List.getElem?_eq_getElem hi2
      have hs := (hq.2.1 _ (List.mem_of_getElem? he)).1
      rw [if_neg (nI_ge (by omega) (by omega)), ld_or hK (by omega), Option.bind_some, h2 i _ he, st_wy hK hs, Option.bind_some, nI_1]
      obtain ⟨σ', e1, e2, e3, e4⟩ := ih (i + 1) (ja_si σ (K + 5) q[i].1 (-1)) (by omega) (by omega) (by rw [si_at, if_neg (by omega)]; exact h1) (fun i e he => by rw [si_at, if_neg (by omega)]; exact h2 i e he)
      refine ⟨σ', e1, e2, ?_, ?_, ?_⟩
      · intro t
        rw [e3 t, List.drop_eq_getElem_cons hi2, List.map_cons, si_at]
        by_cases hm : t ∈ (q.drop (i + 1)).map Prod.fst
        · rw [if_pos hm, if_pos (List.mem_cons_of_mem _ hm)]
        · rw [if_neg hm]
          by_cases ht : t = q[i].1
          · rw [if_pos ⟨rfl, ht⟩, if_pos (by rw [ht]; exact List.mem_cons_self)]
          · rw [if_neg (fun z => ht z.2), if_neg (fun z => by rcases List.mem_cons.mp z with z | z; exact ht z; exact hm z)]
      · intro k j h3 h4 h5
        rw [e4.1 k j h3 h4 h5, si_at, if_neg (by omega)]
      · exact e4.2
theorem forget_ok (hK : K = 17 ∨ K = 23) (hb : bs_ok σ K q) (hq : bq_ok q) : ∃ σ', f_Search_forget K σ = some σ' ∧ bs_ok σ' K [] ∧ fr_s K σ σ' := by
  have hlen := bq_ok_len hq
  obtain ⟨σ', e1, e2, e3, e4⟩ := forget_L2 hK hq ja_FU 0 σ (by omega) (by unfold ja_FU; omega) hb.1 hb.2.1
  refine ⟨σ', ?_, ⟨?_, ?_, ?_⟩, e4⟩
  · unfold f_Search_forget
    rw [am_z]
    exact e1
  · rw [e2]; exact am_z
  · intro i e he
    simp at he
  · intro t ht
    rw [e3 t, List.drop_zero]
    by_cases hm : t ∈ q.map Prod.fst
    · rw [if_pos hm]; rfl
    · rw [if_neg hm, hb.2.2 t ht]
      have h1 : bq_see q t = none := bq_see_none.mpr (fun e he h2 => hm (h2 ▸ List.mem_map_of_mem he))
      rw [h1]
      rfl
theorem bit_ge {mv l l2 : Nat} (h : mv / 2 ^ l = 0) (h2 : l ≤ l2) : mv.testBit l2 = false := by
  have hp : 0 < 2 ^ l := Nat.two_pow_pos l
  have h3 : mv < 2 ^ l := by
    rcases Nat.lt_or_ge mv (2 ^ l) with h4 | h4
    · exact h4
    · have := Nat.div_pos h4 hp
      omega
  exact Nat.testBit_lt_two_pow (Nat.lt_of_lt_of_le h3 (Nat.pow_le_pow_right (by omega) h2))
theorem ex_L43 (hK : K = 17 ∨ K = 23) {al : Nat → Nat → Bool} {mv d p x : Nat} (hmv : mv < 4096) {σ0 : ja_S} (hs : s < 4096) (hal : ∀ τ : ja_S, τ.2 = σ0.2 → ∀ l, l < 12 → f_Locking_allows (K + 1) (nI s) (nI l) τ = some (am_bz (al s l), τ)) (k17 : Nat → Int32 → ja_S → Option ja_S) : ∀ (m n l : Nat) (σ : ja_S) (q : List bq_E), l + m = 12 → m < n → σ.2 = σ0.2 → bs_ok σ K q → bq_ok q → σ.1 K 2 = nI mv → q[p]? = some (s, d, x) → ∃ σ', f_Search_explore_L43 k17 n K (nI p) (nI s) (nI l) σ = k17 K (nI (p + 1)) σ' ∧ bs_ok σ' K (bq_lev (fun s l => mv.testBit l && al s l) s d (List.range' l m) q) ∧ σ'.1 K 2 = nI mv ∧ fr_s K σ σ' := by
  intro m
  induction m with
  | zero =>
    intro n l σ q hl hn h0 hb hq h2 hp
    obtain ⟨n, rfl⟩ : ∃ j, n = j + 1 := ⟨n - 1, by omega⟩
    refine ⟨σ, ?_, hb, h2, fr_s_rf⟩
    rw [f_Search_explore_L43, show (12 : Int32) = nI 12 by decide +kernel, if_pos (nI_le (by omega) (by omega)), nI_1]
  | succ m ih =>
    intro n l σ q hl hn h0 hb hq h2 hp
    obtain ⟨n, rfl⟩ : ∃ j, n = j + 1 := ⟨n - 1, by omega⟩
    have hx : s ^^^ 2 ^ l < 4096 := xor_lt30 hs (by omega)
    rw [f_Search_explore_L43, show (12 : Int32) = nI 12 by decide +kernel, if_neg (nI_ge (by omega) (by omega)), h2, nI_shr (by omega) (by omega)]
    by_cases hz : mv / 2 ^ l = 0
    · refine ⟨σ, ?_, ?_, h2, fr_s_rf⟩
      · rw [if_pos (by rw [hz]; exact am_z.symm), nI_1]
      · rw [bq_lev_skip]
        · exact hb
        · intro l2 hl2
          have := (List.mem_range'_1.mp hl2).1
          rw [bit_ge hz this]
          rfl
    · have hdl : mv / 2 ^ l ≤ mv := Nat.div_le_self _ _
      rw [if_neg (nI_ne0' hz (by omega)), ← nI_shr (a := mv) (l := l) (by omega) (by omega)]
      show ∃ σ', _ ∧ bs_ok σ' K (bq_lev (fun s l => mv.testBit l && al s l) s d (List.range' (l + 1) m) (if (mv.testBit l && al s l) = true ∧ bq_see q (s ^^^ 2 ^ l) = none then q ++ [(s ^^^ 2 ^ l, d + 1, l)] else q)) ∧ _
      by_cases hm : mv.testBit l = true
      · rw [if_pos ((nI_bit1 (by omega) (by omega)).mpr hm), nI_pow (by omega), nI_xor, reached_ok hK hb hq hx, Option.bind_some]
        cases hsee : bq_see q (s ^^^ 2 ^ l) with
        | some y =>
          rw [Option.isSome_some, if_neg bz1, if_neg (fun z => by cases z.2), nI_1]
          exact ih n (l + 1) σ q (by omega) (by omega) h0 hb hq h2 hp
        | none =>
          rw [Option.isSome_none, if_pos (am_bz0.mpr rfl), (ja_qs hK).1, hal σ h0 l (by omega), Option.bind_some, hm, Bool.true_and]
          cases ha : al s l with
          | false =>
            rw [if_pos (am_bz0.mpr rfl), if_neg (fun z => by cases z.1), nI_1]
            exact ih n (l + 1) σ q (by omega) (by omega) h0 hb hq h2 hp
          | true =>
            have hd : bq_see q s = some (d, x) := bq_see_mem hq.1 (List.mem_of_getElem? hp)
            have hpl := (List.getElem?_eq_some_iff.mp hp).1
            have hdp : d ≤ p := hq.2.2 p _ hp
            have hq2 : bq_ok (q ++ [(s ^^^ 2 ^ l, d + 1, l)]) := bq_ok_app hq hx (by omega) (by omega) hsee
            have hl2 := bq_ok_len hq2
            rw [List.length_append, List.length_singleton] at hl2
            obtain ⟨σ1, e1, e2, e3, e4⟩ := enter_ok hK hb hx hsee (by omega) (d + 1) l
            rw [if_neg bz1, movesTo_ok hK hb hq hs, hd, Option.bind_some, bs_d_some, nI_1, show (16 : Int32) = nI 16 by decide +kernel, pk_mul, nI_add, e1, Option.bind_some, if_pos ⟨rfl, rfl⟩, nI_1]
            obtain ⟨σ2, g1, g2, g3, g4⟩ := ih n (l + 1) σ1 _ (by omega) (by omega) (e4.2.trans h0) e2 hq2 (e3.trans h2) (pre_get hp)
            exact ⟨σ2, g1, g2, g3, fr_s_tr e4 g4⟩
      · rw [if_neg (fun z => hm ((nI_bit1 (by omega) (by omega)).mp z)), if_neg (fun z => by have := z.1; rw [show mv.testBit l = false by simpa using hm] at this; cases this), nI_1]
        exact ih n (l + 1) σ q (by omega) (by omega) h0 hb hq h2 hp
theorem ex_L17 (hK : K = 17 ∨ K = 23) {al : Nat → Nat → Bool} {mv : Nat} (hmv : mv < 4096) {σ0 : ja_S} (hal : ∀ τ : ja_S, τ.2 = σ0.2 → ∀ s l, s < 4096 → l < 12 → f_Locking_allows (K + 1) (nI s) (nI l) τ = some (am_bz (al s l), τ)) : ∀ (n p : Nat) (σ : ja_S) (q : List bq_E), p ≤ q.length → 4096 - p < n → σ.2 = σ0.2 → bs_ok σ K q → bq_ok q → σ.1 K 2 = nI mv → ∃ σ', f_Search_explore_L17 n K (nI p) σ = some σ' ∧ bs_ok σ' K (bq_go (fun s l => mv.testBit l && al s l) n p q) ∧ σ'.1 K 2 = nI mv ∧ fr_s K σ σ' := by
  intro n
  induction n with
  | zero => intro p σ q _ h; omega
  | succ n ih =>
    intro p σ q hp hn h0 hb hq h2
    have hlen := bq_ok_len hq
    rw [f_Search_explore_L17, hb.1]
    unfold bq_go
    by_cases h : p = q.length
    · rw [if_pos (nI_le (by omega) (by omega)), List.getElem?_eq_none (by omega)]
      exact ⟨σ, rfl, hb, h2, fr_s_rf⟩
    · have hi2 : p < q.length := by omega
      have he : q[p]? = some q[p] := List.getElem?_eq_getElem hi2
      have hs := (hq.2.1 _ (List.mem_of_getElem? he)).1
      rw [if_neg (nI_ge (by omega) (by omega)), show (4096 : Int32) = nI 4096 by decide +kernel, if_neg (nI_ge (by omega) (by omega)), (ja_qs hK).2.1, ld_or hK (by omega), Option.bind_some, hb.2.1 p _ he, he, am_z]
      have he' : q[p]? = some (q[p].1, q[p].2.1, q[p].2.2) := he
      obtain ⟨σ1, e1, e2, e3, e4⟩ := ex_L43 hK hmv hs (fun τ ht l hl => hal τ ht _ l hs hl) (f_Search_explore_L17 n) 12 ja_FU 0 σ q (by omega) (by unfold ja_FU; omega) h0 hb hq h2 he'
      rw [e1]
      obtain ⟨t, ht⟩ := bq_lev_pre (al := fun s l => mv.testBit l && al s l) (s := q[p].1) (d := q[p].2.1) bq_12 q
      obtain ⟨σ2, g1, g2, g3, g4⟩ := ih (p + 1) σ1 _ (by show p + 1 ≤ (bq_lev _ _ _ bq_12 q).length; rw [ht, List.length_append]; omega) (by omega) (e4.2.trans h0) e2 (bq_lev_ok bq_12 q hs bq_12_lt he' hq) e3
      exact ⟨σ2, g1, g2, g3, fr_s_tr e4 g4⟩
theorem explore_ok (hK : K = 17 ∨ K = 23) {al : Nat → Nat → Bool} {mv : Nat} (hmv : mv < 4096) (hs : s < 4096) (hal : ∀ τ : ja_S, τ.2 = σ.2 → ∀ s l, s < 4096 → l < 12 → f_Locking_allows (K + 1) (nI s) (nI l) τ = some (am_bz (al s l), τ)) (hb : bs_ok σ K q) (hq : bq_ok q) : ∃ σ', f_Search_explore K (nI s) (nI mv) σ = some σ' ∧ bs_ok σ' K (bq_all (fun s l => mv.testBit l && al s l) s) ∧ σ'.1 K 2 = nI mv ∧ fr_s K σ σ' := by
  obtain ⟨σ1, e1, e2, e3⟩ := forget_ok hK hb hq
  have hb1 : bs_ok (ja_si σ1 K 2 (nI mv)) K [] := by
    refine ⟨?_, ?_, ?_⟩
    · rw [si_at, if_neg (by omega)]; exact e2.1
    · intro i e he; simp at he
    · intro t ht
      rw [si_at, if_neg (by omega)]; exact e2.2.2 t ht
  obtain ⟨σ2, g1, g2, g3, g4⟩ := enter_ok hK hb1 hs rfl (by simp) 0 0
  have h2 : σ2.2 = σ.2 := g4.2.trans e3.2
  obtain ⟨σ3, k1, k2, k3, k4⟩ := ex_L17 hK hmv (σ0 := σ) hal ja_FU 0 σ2 _ (by omega) (by unfold ja_FU; omega) h2 g2 (bq_ok_one hs) (by rw [g3, si_at, if_pos ⟨rfl, rfl⟩])
  refine ⟨σ3, ?_, k2, k3, ?_, ?_⟩
  · unfold f_Search_explore ja_pu
    rw [e1, Option.bind_some, Option.bind_some, am_z, g1, Option.bind_some]
    exact k1
  · intro k j h3 h4 h5
    rw [k4.1 k j h3 h4 h5, g4.1 k j h3 h4 h5, si_at, if_neg (by omega), e3.1 k j h3 h4 h5]
  · exact k4.2.trans h2
end CS
