/-! the nearest and the farthest state -/
def ns_p (q : List bq_E) (P : bq_E → Prop) (m : Nat) (o : Option Nat) : Prop := match o with
  | none => ∀ e ∈ q, P e → ¬ e.1 &&& m = m
  | some t => ∃ x : Nat × Nat, (t, x) ∈ q ∧ P (t, x) ∧ t &&& m = m ∧ ∀ e ∈ q, P e → e.1 &&& m = m → x.1 < e.2.1 ∨ (x.1 = e.2.1 ∧ t ≤ e.1)
theorem ns_uniq {q : List bq_E} {P P2 : bq_E → Prop} {m : Nat} {o1 o2 : Option Nat} (hP : ∀ e ∈ q, P e) (hP2 : ∀ e ∈ q, P2 e) (h1 : ns_p q P m o1) (h2 : ns_p q P2 m o2) : o1 = o2 := by
  cases o1 with
  | none =>
    cases o2 with
    | none => rfl
    | some t =>
      obtain ⟨x, a1, a2, a3, a4⟩ := h2
      exact absurd a3 (h1 _ a1 (hP _ a1))
  | some t =>
    obtain ⟨x, a1, a2, a3, a4⟩ := h1
    cases o2 with
    | none => exact absurd a3 (h2 _ a1 (hP2 _ a1))
    | some u =>
      obtain ⟨y, b1, b2, b3, b4⟩ := h2
      have c1 := a4 _ b1 (hP _ b1) b3
      have c2 := b4 _ a1 (hP2 _ a1) a3
      dsimp only at c1 c2
      rw [show t = u by omega]
theorem sub_pos' {a b : Nat} (ha : a < 2 ^ 30) (hb : b < 2 ^ 30) : (0 < nI a - nI b ↔ b < a) ∧ (nI a - nI b = 0 ↔ a = b) := by
  have h := pk_sub_toInt ha hb
  constructor
  · rw [Int32.lt_iff_toInt_lt, Int32.toInt_zero, h]
    omega
  · rw [← Int32.toInt_inj, h, Int32.toInt_zero]
    omega
section NS
variable {al : Nat → Nat → Bool} {K : Nat} {σ : ja_S} {q : List bq_E} {pl : Nat → Nat} {m : Nat}
theorem ns_L4 (hK : K = 17 ∨ K = 23) (hb : bs_ok σ K q) (hq : bq_ok q) (ht : bt_all al q 1 pl) (hm : m < 4096) : ∀ (n i : Nat) (o : Option Nat), i ≤ q.length → q.length - i < n → ns_p q (fun e => ∃ j, j < i ∧ q[j]? = some e) m o → ∃ o', f_Search_nearestSetting_L4 n K (nI m) (am_io o) (nI i) σ = some (am_io o', σ) ∧ ns_p q (fun e => ∃ j, j < q.length ∧ q[j]? = some e) m o' := by
  have hlen := bq_ok_len hq
  intro n
  induction n with
  | zero => intro i o _ h; omega
  | succ n ih =>
    intro i o hi hn ho
    rw [f_Search_nearestSetting_L4, hb.1, (ja_qs hK).2.1]
    by_cases h : i = q.length
    · rw [h, if_pos (nI_le (Nat.le_refl _) (by omega))]
      rw [h] at ho
      exact ⟨o, rfl, ho⟩
    · have hi2 : i < q.length := by omega
      have hs := q_lt hq hi2
      have hal := and_lt (b := m) hs
      have hei : q[i]? = some q[i] := List.getElem?_eq_getElem hi2
      have hmem : q[i] ∈ q := List.getElem_mem hi2
      have hdi : bq_see q q[i].1 = some q[i].2 := bq_see_mem hq.1 hmem
      have hbi := bq_bd hq hdi
      rw [if_neg (nI_ge (by omega) (by omega)), ld_or hK (by omega), Option.bind_some, q_at hb hi2, nI_and]
      have hkeep : ∀ (o2 : Option Nat), o2 = o → ¬ (q[i].1 &&& m = m) → ns_p q (fun e => ∃ j, j < i + 1 ∧ q[j]? = some e) m o2 := by
        intro o2 ho2 hc
        rw [ho2]
        cases o with
        | none =>
          intro e he ⟨j, hj, hje⟩
          by_cases hji : j = i
          · rw [hji, hei] at hje
            cases hje
            exact hc
          · exact ho e he ⟨j, by omega, hje⟩
        | some t =>
          obtain ⟨x, a1, ⟨j0, a2, a2'⟩, a3, a4⟩ := ho
          refine ⟨x, a1, ⟨j0, by omega, a2'⟩, a3, ?_⟩
          intro e he ⟨j, hj, hje⟩ hse
          by_cases hji : j = i
          · rw [hji, hei] at hje
            cases hje
            exact absurd hse hc
          · exact a4 e he ⟨j, by omega, hje⟩ hse
      by_cases hc : q[i].1 &&& m = m
      · rw [if_pos (by rw [hc])]
        unfold f_Search_nearestSetting_B33
        rw [if_neg (by decide), nI_1]
        cases o with
        | none =>
          rw [if_pos (show am_io none = -1 from rfl)]
          refine ih (i + 1) (some q[i].1) (by omega) (by omega) ⟨q[i].2, hmem, ⟨i, by omega, hei⟩, hc, ?_⟩
          intro e he ⟨j, hj, hje⟩ hse
          by_cases hji : j = i
          · rw [hji, hei] at hje
            cases hje
            exact Or.inr ⟨rfl, Nat.le_refl _⟩
          · exact absurd hse (ho e he ⟨j, by omega, hje⟩)
        | some t =>
          obtain ⟨x, a1, ⟨j0, a2, a2'⟩, a3, a4⟩ := ho
          have ht4 := (hq.2.1 _ a1).1
          have hdt : bq_see q t = some x := bq_see_mem hq.1 a1
          have hbt := bq_bd hq hdt
          have hmo : x.1 ≤ q[i].2.1 := bt_mono ht i j0 _ _ (by omega) a2' hei
          rw [if_neg (show ¬ am_io (some t) = -1 from nI_m1 (a := t) (by omega)), movesTo_ok hK hb hq hs, hdi, Option.bind_some, show am_io (some t) = nI t from rfl, movesTo_ok hK hb hq ht4, hdt, Option.bind_some, bs_d_some, bs_d_some]
          have hkeep2 : (x.1 < q[i].2.1 ∨ (x.1 = q[i].2.1 ∧ t ≤ q[i].1)) → ns_p q (fun e => ∃ j, j < i + 1 ∧ q[j]? = some e) m (some t) := by
            intro hx
            refine ⟨x, a1, ⟨j0, by omega, a2'⟩, a3, ?_⟩
            intro e he ⟨j, hj, hje⟩ hse
            by_cases hji : j = i
            · rw [hji, hei] at hje
              cases hje
              exact hx
            · exact a4 e he ⟨j, by omega, hje⟩ hse
          by_cases hd : q[i].2.1 = x.1
          · rw [if_pos (by rw [hd])]
            by_cases hte : t ≤ q[i].1
            · rw [if_pos ((nI_leI (by omega) (by omega)).mpr hte)]
              exact ih (i + 1) (some t) (by omega) (by omega) (hkeep2 (Or.inr ⟨hd.symm, hte⟩))
            · rw [if_neg (fun z => hte ((nI_leI (by omega) (by omega)).mp z))]
              refine ih (i + 1) (some q[i].1) (by omega) (by omega) ⟨q[i].2, hmem, ⟨i, by omega, hei⟩, hc, ?_⟩
              intro e he ⟨j, hj, hje⟩ hse
              by_cases hji : j = i
              · rw [hji, hei] at hje
                cases hje
                exact Or.inr ⟨rfl, Nat.le_refl _⟩
              · have := a4 e he ⟨j, by omega, hje⟩ hse
                omega
          · rw [if_neg (nI_ne hd (by omega) (by omega))]
            exact ih (i + 1) (some t) (by omega) (by omega) (hkeep2 (Or.inl (by omega)))
      · rw [if_neg (nI_ne hc (by omega) (by omega))]
        unfold f_Search_nearestSetting_B33
        rw [if_pos rfl, nI_1]
        exact ih (i + 1) o (by omega) (by omega) (hkeep o rfl hc)
theorem nearest_ok (hK : K = 17 ∨ K = 23) (hb : bs_ok σ K q) (hq : bq_ok q) (ht : bt_all al q 1 pl) (hm : m < 4096) : ∃ o, f_Search_nearestSetting K (nI m) σ = some (am_io o, σ) ∧ ns_p q (fun _ => True) m o := by
  have hlen := bq_ok_len hq
  obtain ⟨o, h1, h2⟩ := ns_L4 hK hb hq ht hm ja_FU 0 none (by omega) (by unfold ja_FU; omega) (by intro e he ⟨j, hj, _⟩; omega)
  refine ⟨o, ?_, ?_⟩
  · unfold f_Search_nearestSetting
    rw [am_z]
    exact h1
  · have hP : ∀ e ∈ q, ∃ j, j < q.length ∧ q[j]? = some e := fun e he => by
      obtain ⟨j, hj⟩ := List.getElem?_of_mem he
      exact ⟨j, (List.getElem?_eq_some_iff.mp hj).1, hj⟩
    cases o with
    | none => exact fun e he _ => h2 e he (hP e he)
    | some t =>
      obtain ⟨x, a1, a2, a3, a4⟩ := h2
      exact ⟨x, a1, trivial, a3, fun e he _ => a4 e he (hP e he)⟩
end NS
section NM
variable {σ : ja_S} {q : List bq_E} {ro : List Nat} {cf : List (Nat × Nat)}
theorem mset_of_L4 (hm : mf_ok σ q) (hq : bq_ok q) (hw : mw_ok σ ro cf) {k : Nat} (hk : k < ro.length) : ∀ (n s : Nat) (o : Option Nat), s ≤ 4096 → 4096 - s < n → ns_p q (fun e => e.1 < s) (ro.getD k 0) o → ∃ o', f_Model_settingOf_L4 n 45 (nI k) (am_io o) (nI s) σ = some (am_io o', σ) ∧ ns_p q (fun e => e.1 < 4096) (ro.getD k 0) o' := by
  intro n
  induction n with
  | zero => intro s o _ h; omega
  | succ n ih =>
    intro s o hs hn ho
    rw [f_Model_settingOf_L4, show (4096 : Int32) = nI 4096 by decide +kernel, show ja_q 45 30 = 58 from rfl]
    by_cases h : s = 4096
    · rw [h, if_pos (nI_le (Nat.le_refl _) (by omega))]
      rw [h] at ho
      exact ⟨o, rfl, ho⟩
    · have hs2 : s < 4096 := by omega
      have hskip : (∀ e ∈ q, e.1 = s → ¬ e.1 &&& ro.getD k 0 = ro.getD k 0) → ns_p q (fun e => e.1 < s + 1) (ro.getD k 0) o := by
        intro hno
        cases o with
        | none =>
          intro e he h1
          by_cases h2 : e.1 = s
          · exact hno e he h2
          · exact ho e he (by omega)
        | some t =>
          obtain ⟨x, a1, a2, a3, a4⟩ := ho
          dsimp only at a2
          refine ⟨x, a1, by dsimp only; omega, a3, ?_⟩
          intro e he h1 hse
          by_cases h2 : e.1 = s
          · exact absurd hse (hno e he h2)
          · exact a4 e he (by dsimp only at h1 ⊢; omega) hse
      rw [if_neg (nI_ge (by omega) (by omega)), ld0 (N := 4096) rfl hs2 (by omega), Option.bind_some, hm.2.2 s hs2, nI_1]
      cases hsee : bq_see q s with
      | none =>
        rw [if_pos bs_d_none]
        exact ih (s + 1) o (by omega) (by omega) (hskip (fun e he h2 => absurd h2 (bq_see_none.mp hsee e he)))
      | some y =>
        have hby := bq_bd hq hsee
        have hmem := bq_see_some hsee
        have huniq : ∀ e ∈ q, e.1 = s → e.2 = y := fun e he h2 => by
          have := bq_see_mem hq.1 he
          rw [h2, hsee] at this
          cases this
          rfl
        rw [bs_d_some, if_neg (nI_m1 (by omega)), sets_ok hw hk, Option.bind_some]
        by_cases hc : s &&& ro.getD k 0 = ro.getD k 0
        · rw [decide_eq_true hc, if_neg bz1]
          cases o with
          | none =>
            rw [if_pos (show am_io none = -1 from rfl)]
            refine ih (s + 1) (some s) (by omega) (by omega) ⟨y, hmem, by dsimp only; omega, hc, ?_⟩
            intro e he h1 hse
            by_cases h2 : e.1 = s
            · have := huniq e he h2
              exact Or.inr ⟨by rw [this], by omega⟩
            · exact absurd hse (ho e he (by dsimp only at h1 ⊢; omega))
          | some t =>
            obtain ⟨x, a1, a2, a3, a4⟩ := ho
            dsimp only at a2
            have ht4 := (hq.2.1 _ a1).1
            dsimp only at ht4
            have hdt : bq_see q t = some x := bq_see_mem hq.1 a1
            have hbt := bq_bd hq hdt
            rw [if_neg (show ¬ am_io (some t) = -1 from nI_m1 (a := t) (by omega)), ld0 (N := 4096) rfl hs2 (by omega), Option.bind_some, hm.2.2 s hs2, hsee, bs_d_some, show am_io (some t) = nI t from rfl, ld0 (N := 4096) rfl ht4 (by omega), Option.bind_some, hm.2.2 t ht4, hdt, bs_d_some]
            by_cases hd : x.1 ≤ y.1
            · rw [if_pos ((nI_leI (by omega) (by omega)).mpr hd)]
              refine ih (s + 1) (some t) (by omega) (by omega) ⟨x, a1, by dsimp only; omega, a3, ?_⟩
              intro e he h1 hse
              by_cases h2 : e.1 = s
              · have := huniq e he h2
                rw [this]
                omega
              · exact a4 e he (by dsimp only at h1 ⊢; omega) hse
            · rw [if_neg (fun z => hd ((nI_leI (by omega) (by omega)).mp z))]
              refine ih (s + 1) (some s) (by omega) (by omega) ⟨y, hmem, by dsimp only; omega, hc, ?_⟩
              intro e he h1 hse
              by_cases h2 : e.1 = s
              · have := huniq e he h2
                exact Or.inr ⟨by rw [this], by omega⟩
              · have := a4 e he (by dsimp only at h1 ⊢; omega) hse
                omega
        · rw [decide_eq_false hc, if_pos (am_bz0.mpr rfl)]
          exact ih (s + 1) o (by omega) (by omega) (hskip (fun e he h2 => by rw [h2]; exact hc))
theorem msetOf_ok (hm : mf_ok σ q) (hq : bq_ok q) (hw : mw_ok σ ro cf) {k : Nat} (hk : k < ro.length) : ∃ o, f_Model_settingOf 45 (nI k) σ = some (am_io o, σ) ∧ ns_p q (fun e => e.1 < 4096) (ro.getD k 0) o := by
  obtain ⟨o, h1, h2⟩ := mset_of_L4 hm hq hw hk ja_FU 0 none (by omega) (by unfold ja_FU; omega) (by intro e he h; omega)
  exact ⟨o, by unfold f_Model_settingOf; rw [am_z]; exact h1, h2⟩
end NM
/-! farthest -/
def fs_p (q : List bq_E) (P : bq_E → Prop) (t : Nat) : Prop := ∃ x : Nat × Nat, (t, x) ∈ q ∧ ∀ e ∈ q, P e → e.2.1 < x.1 ∨ (e.2.1 = x.1 ∧ t ≤ e.1)
theorem fs_uniq {q : List bq_E} {P P2 : bq_E → Prop} {t u : Nat} (hP : ∀ e ∈ q, P e) (hP2 : ∀ e ∈ q, P2 e) (h1 : fs_p q P t) (h2 : fs_p q P2 u) : t = u := by
  obtain ⟨x, a1, a2⟩ := h1
  obtain ⟨y, b1, b2⟩ := h2
  have c1 := a2 _ b1 (hP _ b1)
  have c2 := b2 _ a1 (hP2 _ a1)
  dsimp only at c1 c2
  omega
section FS
variable {K : Nat} {σ : ja_S} {q : List bq_E}
theorem far_L4 (hK : K = 17 ∨ K = 23) (hb : bs_ok σ K q) (hq : bq_ok q) : ∀ (n i t : Nat), i ≤ q.length → q.length - i < n → fs_p q (fun e => ∃ j, j < i ∧ q[j]? = some e) t → ∃ t', f_Search_farthest_L4 n K (nI t) (nI i) σ = some (nI t', σ) ∧ fs_p q (fun e => ∃ j, j < q.length ∧ q[j]? = some e) t' := by
  have hlen := bq_ok_len hq
  intro n
  induction n with
  | zero => intro i t _ h; omega
  | succ n ih =>
    intro i t hi hn ho
    rw [f_Search_farthest_L4, hb.1, (ja_qs hK).2.1]
    by_cases h : i = q.length
    · rw [h, if_pos (nI_le (Nat.le_refl _) (by omega))]
      rw [h] at ho
      exact ⟨t, rfl, ho⟩
    · have hi2 : i < q.length := by omega
      have hs := q_lt hq hi2
      have hei : q[i]? = some q[i] := List.getElem?_eq_getElem hi2
      have hmem : q[i] ∈ q := List.getElem_mem hi2
      have hdi : bq_see q q[i].1 = some q[i].2 := bq_see_mem hq.1 hmem
      have hbi := bq_bd hq hdi
      obtain ⟨x, a1, a2⟩ := ho
      have ht4 := (hq.2.1 _ a1).1
      dsimp only at ht4
      have hdt : bq_see q t = some x := bq_see_mem hq.1 a1
      have hbt := bq_bd hq hdt
      have hsp := sub_pos' (a := q[i].2.1) (b := x.1) (by omega) (by omega)
      have hnew : (x.1 < q[i].2.1 ∨ (x.1 = q[i].2.1 ∧ q[i].1 < t)) → fs_p q (fun e => ∃ j, j < i + 1 ∧ q[j]? = some e) q[i].1 := by
        intro hx
        refine ⟨q[i].2, hmem, fun e he ⟨j, hj, hje⟩ => ?_⟩
        by_cases hji : j = i
        · rw [hji, hei] at hje
          cases hje
          exact Or.inr ⟨rfl, Nat.le_refl _⟩
        · have := a2 e he ⟨j, by omega, hje⟩
          omega
      have hold : (q[i].2.1 < x.1 ∨ (q[i].2.1 = x.1 ∧ t ≤ q[i].1)) → fs_p q (fun e => ∃ j, j < i + 1 ∧ q[j]? = some e) t := by
        intro hx
        refine ⟨x, a1, fun e he ⟨j, hj, hje⟩ => ?_⟩
        by_cases hji : j = i
        · rw [hji, hei] at hje
          cases hje
          exact hx
        · exact a2 e he ⟨j, by omega, hje⟩
      rw [if_neg (nI_ge (by omega) (by omega)), ld_or hK (by omega), Option.bind_some, q_at hb hi2, movesTo_ok hK hb hq hs, hdi, Option.bind_some, movesTo_ok hK hb hq ht4, hdt, Option.bind_some, bs_d_some, bs_d_some, nI_1]
      by_cases c1 : x.1 < q[i].2.1
      · rw [if_pos (hsp.1.mpr c1)]
        exact ih (i + 1) _ (by omega) (by omega) (hnew (Or.inl c1))
      · rw [if_neg (fun z => c1 (hsp.1.mp z))]
        by_cases c2 : q[i].2.1 = x.1
        · rw [if_pos (hsp.2.mpr c2)]
          by_cases c3 : t ≤ q[i].1
          · rw [if_pos ((nI_leI (by omega) (by omega)).mpr c3)]
            exact ih (i + 1) _ (by omega) (by omega) (hold (Or.inr ⟨c2, c3⟩))
          · rw [if_neg (fun z => c3 ((nI_leI (by omega) (by omega)).mp z))]
            exact ih (i + 1) _ (by omega) (by omega) (hnew (Or.inr ⟨c2.symm, by omega⟩))
        · rw [if_neg (fun z => c2 (hsp.2.mp z))]
          exact ih (i + 1) _ (by omega) (by omega) (hold (Or.inl (by omega)))
theorem mfar_L18 (hm : mf_ok σ q) (hq : bq_ok q) : ∀ (n s t : Nat), s ≤ 4096 → 4096 - s < n → t ≤ s → fs_p q (fun e => e.1 < s) t → ∃ t', f_Model_farthestState_L18 n 45 (nI t) (nI s) σ = some (nI t', σ) ∧ fs_p q (fun e => e.1 < 4096) t' := by
  intro n
  induction n with
  | zero => intro s t _ h; omega
  | succ n ih =>
    intro s t hs hn hts ho
    rw [f_Model_farthestState_L18, show (4096 : Int32) = nI 4096 by decide +kernel, show ja_q 45 30 = 58 from rfl]
    by_cases h : s = 4096
    · rw [h, if_pos (nI_le (Nat.le_refl _) (by omega))]
      rw [h] at ho
      exact ⟨t, rfl, ho⟩
    · have hs2 : s < 4096 := by omega
      obtain ⟨x, a1, a2⟩ := ho
      have ht4 := (hq.2.1 _ a1).1
      dsimp only at ht4
      have hdt : bq_see q t = some x := bq_see_mem hq.1 a1
      have hbt := bq_bd hq hdt
      rw [if_neg (nI_ge (by omega) (by omega)), ld0 (N := 4096) rfl hs2 (by omega), Option.bind_some, hm.2.2 s hs2, ld0 (N := 4096) rfl ht4 (by omega), Option.bind_some, hm.2.2 t ht4, hdt, bs_d_some, nI_1]
      cases hsee : bq_see q s with
      | none =>
        have hle : bs_d none ≤ nI x.1 := by
          rw [bs_d_none, Int32.le_iff_toInt_le, nI_toInt (by omega), show (-1 : Int32).toInt = -1 by decide +kernel]
          omega
        rw [if_pos hle]
        refine ih (s + 1) t (by omega) (by omega) (by omega) ⟨x, a1, fun e he h1 => ?_⟩
        by_cases h2 : e.1 = s
        · exact absurd h2 (bq_see_none.mp hsee e he)
        · exact a2 e he (by dsimp only at h1 ⊢; omega)
      | some y =>
        have hby := bq_bd hq hsee
        have hmem := bq_see_some hsee
        have huniq : ∀ e ∈ q, e.1 = s → e.2 = y := fun e he h2 => by
          have := bq_see_mem hq.1 he
          rw [h2, hsee] at this
          cases this
          rfl
        rw [bs_d_some]
        by_cases hd : y.1 ≤ x.1
        · rw [if_pos ((nI_leI (by omega) (by omega)).mpr hd)]
          refine ih (s + 1) t (by omega) (by omega) (by omega) ⟨x, a1, fun e he h1 => ?_⟩
          by_cases h2 : e.1 = s
          · have := huniq e he h2
            rw [this]
            omega
          · exact a2 e he (by dsimp only at h1 ⊢; omega)
        · rw [if_neg (fun z => hd ((nI_leI (by omega) (by omega)).mp z))]
          refine ih (s + 1) s (by omega) (by omega) (by omega) ⟨y, hmem, fun e he h1 => ?_⟩
          by_cases h2 : e.1 = s
          · have := huniq e he h2
            rw [this]
            omega
          · have := a2 e he (by dsimp only at h1 ⊢; omega)
            omega
end FS
section C5
variable {A : am_A} {a : Nat → Int32} {σ : ja_S}
theorem rl_root : (0, 0, 0) ∈ am_rl A := by
  obtain ⟨t, ht⟩ := bq_go_pre (al := cq_al (am_mv A.1 0) A.2.1) ja_FU 0 [(0, 0, 0)]
  show (0, 0, 0) ∈ bq_go (cq_al (am_mv A.1 0) A.2.1) ja_FU 0 [(0, 0, 0)]
  rw [ht]
  exact List.mem_append_left _ (List.mem_singleton.mpr rfl)
theorem case_33 (hA : am_ok A) (hC : am_C A σ) (hM : am_M A σ) (hK : am_K A σ) : am_ask2 A 33 a σ := by
  have hlen := bq_ok_len (rl_ok (A := A))
  obtain ⟨σ1, e1, e2, e3, e4, e5⟩ := searched_ok hA hC hK
  obtain ⟨τ1, τ2, g1, g2, g3, g4, g5, g6, g7⟩ := mhome hA (am_M_th (v := 0) (am_M_cl hM e5))
  refine am_asks (σ2 := τ2) ?_ hC hM e5 e3 (fr_md_tr md_th g6)
  obtain ⟨t, h1, h2⟩ := far_L4 (Or.inl rfl) e4.1 rl_ok ja_FU 0 0 (by omega) (by unfold ja_FU; omega) ⟨(0, 0), rl_root, fun e he ⟨j, hj, _⟩ => by omega⟩
  obtain ⟨u, h3, h4⟩ := mfar_L18 g3 rl_ok ja_FU 0 0 (by omega) (by unfold ja_FU; omega) (by omega) ⟨(0, 0), rl_root, fun e he h => by omega⟩
  have htu := fs_uniq (fun e he => by
    obtain ⟨j, hj⟩ := List.getElem?_of_mem he
    exact ⟨j, (List.getElem?_eq_some_iff.mp hj).1, hj⟩) (fun e he => (rl_ok.2.1 e he).1) h2 h4
  rw [← am_z] at h1 h3
  rw [jc_33]
  unfold f_Frame_farthestState f_Model_farthestState f_Search_farthest ja_pu
  rw [e1, Option.bind_some, show ja_q 0 7 = 17 from rfl, h1, Option.bind_some, Option.bind_some, Option.bind_some, g1, Option.bind_some, g2, Option.bind_some, h3, Option.bind_some, htu]
  exact if_pos rfl
theorem near_both (hA : am_ok A) {σ1 τ2 : ja_S} (e4 : hm_ok A σ1) (g3 : mf_ok τ2 (am_rl A)) (g5 : mw_ok τ2 A.2.2.1 A.2.2.2.1) {x : Nat} (hx : x < A.2.2.1.length) : ∃ o, f_Search_nearestSetting 17 (nI (A.2.2.1.getD x 0)) σ1 = some (am_io o, σ1) ∧ f_Model_settingOf 45 (nI x) τ2 = some (am_io o, τ2) ∧ ∀ t ∈ o, ∃ y, bq_see (am_rl A) t = some y := by
  obtain ⟨pl, hbt⟩ := bt_one (al := cq_al (am_mv A.1 0) A.2.1) (s := 0) (by omega)
  obtain ⟨o, h1, h2⟩ := nearest_ok (Or.inl rfl) e4.1 rl_ok hbt (getD_lt g5.2.2.2.1 hx)
  obtain ⟨o2, h3, h4⟩ := msetOf_ok g3 rl_ok g5 hx
  have := ns_uniq (fun _ _ => trivial) (fun e he => (rl_ok.2.1 e he).1) h2 h4
  refine ⟨o, h1, by rw [this]; exact h3, fun t ht => ?_⟩
  cases o with
  | none => cases ht
  | some u =>
    cases ht
    obtain ⟨y, a1, _⟩ := h2
    exact ⟨y, bq_see_mem rl_ok.1 a1⟩
theorem case_25 (hA : am_ok A) (hC : am_C A σ) (hM : am_M A σ) (hK : am_K A σ) : am_ask2 A 25 a σ := by
  have h8 : A.2.2.1.length ≤ 8 := hA.2.2.2.2.1
  have c0 : σ.1 3 5 = nI A.2.2.1.length := hC.2.2.2.2.1.2.2.2.1
  have c2 : ∀ τ : ja_S, am_M A τ → (ja_si τ 45 9 0).1 45 1 = nI A.2.2.1.length := fun τ h => by rw [si_at, if_neg (by omega)]; exact h.2.1
  cases hin : am_in (a 1) A.2.2.1.length with
  | false =>
    refine am_asks1 hC hM hK ?_
    rw [jc_25]
    unfold f_Frame_settingState f_Model_settingState ja_pu
    rw [show ja_q 0 3 = 3 from rfl, hasRoute_ok c0 (by omega), hin, Option.bind_some, if_pos (am_bz0.mpr rfl), Option.bind_some, Option.bind_some, isRoute_ok (c2 σ hM) (by omega), hin, Option.bind_some, if_pos (am_bz0.mpr rfl), Option.bind_some, if_pos rfl]
  | true =>
    obtain ⟨x, hx, ex⟩ := am_in_t hin (by omega)
    obtain ⟨σ1, e1, e2, e3, e4, e5⟩ := searched_ok hA hC hK
    have hM1 := am_M_cl hM e5
    obtain ⟨τ1, τ2, g1, g2, g3, g4, g5, g6, g7⟩ := mhome hA (am_M_th (v := 0) hM1)
    refine am_asks (σ2 := τ2) ?_ hC hM e5 e3 (fr_md_tr md_th g6)
    have hw := am_C_shw hA e2
    obtain ⟨o, o1, o2, o3⟩ := near_both hA e4 g3 g5 hx
    rw [jc_25]
    unfold f_Frame_settingState f_Model_settingState ja_pu
    rw [show ja_q 0 3 = 3 from rfl, show ja_q 0 7 = 17 from rfl, show ja_q 3 4 = 5 from rfl, hasRoute_ok c0 (by omega), hin, Option.bind_some, if_neg bz1, e1, Option.bind_some, ex, ld0 (N := 8) rfl (by omega) (by omega), Option.bind_some, show σ1.1 5 x = nI (A.2.2.1.getD x 0) from hw.2.1 x hx, o1, Option.bind_some, Option.bind_some, Option.bind_some, isRoute_ok (c2 σ1 hM1) (by omega), am_in_nI hx (by omega), Option.bind_some, if_neg bz1, g1, Option.bind_some, g2, Option.bind_some, o2, Option.bind_some, Option.bind_some]
    exact if_pos rfl
theorem case_26 (hA : am_ok A) (hC : am_C A σ) (hM : am_M A σ) (hK : am_K A σ) : am_ask2 A 26 a σ := by
  have h8 : A.2.2.1.length ≤ 8 := hA.2.2.2.2.1
  have c0 : σ.1 3 5 = nI A.2.2.1.length := hC.2.2.2.2.1.2.2.2.1
  have c2 : ∀ τ : ja_S, am_M A τ → (ja_si τ 45 9 0).1 45 1 = nI A.2.2.1.length := fun τ h => by rw [si_at, if_neg (by omega)]; exact h.2.1
  cases hin : am_in (a 1) A.2.2.1.length with
  | false =>
    refine am_asks1 hC hM hK ?_
    rw [jc_26]
    unfold f_Frame_settingMoves f_Model_settingMoves ja_pu
    rw [show ja_q 0 3 = 3 from rfl, hasRoute_ok c0 (by omega), hin, Option.bind_some, if_pos (am_bz0.mpr rfl), Option.bind_some, Option.bind_some, isRoute_ok (c2 σ hM) (by omega), hin, Option.bind_some, if_pos (am_bz0.mpr rfl), Option.bind_some, if_pos rfl]
  | true =>
    obtain ⟨x, hx, ex⟩ := am_in_t hin (by omega)
    obtain ⟨σ1, e1, e2, e3, e4, e5⟩ := searched_ok hA hC hK
    have hM1 := am_M_cl hM e5
    obtain ⟨τ1, τ2, g1, g2, g3, g4, g5, g6, g7⟩ := mhome hA (am_M_th (v := 0) hM1)
    refine am_asks (σ2 := τ2) ?_ hC hM e5 e3 (fr_md_tr md_th g6)
    have hw := am_C_shw hA e2
    obtain ⟨o, o1, o2, o3⟩ := near_both hA e4 g3 g5 hx
    rw [jc_26]
    unfold f_Frame_settingMoves f_Model_settingMoves ja_pu
    rw [show ja_q 0 3 = 3 from rfl, show ja_q 0 7 = 17 from rfl, show ja_q 3 4 = 5 from rfl, hasRoute_ok c0 (by omega), hin, Option.bind_some, if_neg bz1, e1, Option.bind_some, ex, ld0 (N := 8) rfl (by omega) (by omega), Option.bind_some, show σ1.1 5 x = nI (A.2.2.1.getD x 0) from hw.2.1 x hx, o1, Option.bind_some]
    cases o with
    | none =>
      have hneg : f_Search_movesTo 17 (am_io none) σ1 = some (-1, σ1) := by
        unfold f_Search_movesTo f_Search_reached
        rw [if_pos (show am_io none < 0 by decide), Option.bind_some, if_pos rfl]
      rw [hneg, Option.bind_some, Option.bind_some, Option.bind_some, isRoute_ok (c2 σ1 hM1) (by omega), am_in_nI hx (by omega), Option.bind_some, if_neg bz1, g1, Option.bind_some, g2, Option.bind_some, o2, Option.bind_some, if_pos (show am_io none = -1 from rfl), Option.bind_some]
      exact if_pos rfl
    | some t =>
      obtain ⟨y, hy⟩ := o3 t rfl
      have hb := bq_bd rl_ok hy
      rw [show am_io (some t) = nI t from rfl, movesTo_ok (Or.inl rfl) e4.1 rl_ok hb.2.2, hy, Option.bind_some, Option.bind_some, Option.bind_some, isRoute_ok (c2 σ1 hM1) (by omega), am_in_nI hx (by omega), Option.bind_some, if_neg bz1, g1, Option.bind_some, g2, Option.bind_some, o2, Option.bind_some, if_neg (show ¬ am_io (some t) = -1 from nI_m1 (a := t) (by omega)), show ja_q 45 30 = 58 from rfl, show am_io (some t) = nI t from rfl, ld0 (N := 4096) rfl hb.2.2 (by omega), Option.bind_some, g3.2.2 t hb.2.2, hy, Option.bind_some]
      exact if_pos rfl
end C5
