/-! breadth first: where each state was found from -/
/-- the first k0 are the roots; places below p are done, place p is done for levers below l -/
def bt_ok (al : Nat → Nat → Bool) (q : List bq_E) (pl : Nat → Nat) (k0 p l : Nat) : Prop :=
  (∀ (i : Nat) (e : bq_E), k0 ≤ i → q[i]? = some e → pl i < i ∧ (pl i < p ∨ (pl i = p ∧ e.2.2 < l)) ∧ e.2.2 < 12 ∧ ∃ f : bq_E, q[pl i]? = some f ∧ al f.1 e.2.2 = true ∧ e.1 = f.1 ^^^ 2 ^ e.2.2 ∧ e.2.1 = f.2.1 + 1) ∧
  (∀ (i j : Nat) (e f : bq_E), k0 ≤ i → i < j → q[i]? = some e → q[j]? = some f → pl i < pl j ∨ (pl i = pl j ∧ e.2.2 < f.2.2)) ∧
  (∀ (i l' : Nat) (f : bq_E), (i < p ∨ (i = p ∧ l' < l)) → l' < 12 → q[i]? = some f → al f.1 l' = true → ∃ (j : Nat) (e : bq_E), q[j]? = some e ∧ e.1 = f.1 ^^^ 2 ^ l' ∧ (j < k0 ∨ pl j ≤ i)) ∧
  (∀ (i : Nat) (e : bq_E), i < k0 → q[i]? = some e → e.2.1 = 0) ∧ k0 ≤ q.length
theorem bt_next {al : Nat → Nat → Bool} {q : List bq_E} {pl : Nat → Nat} {k0 p l : Nat} (h : bt_ok al q pl k0 p l) (hl : l < 12) (hn : ∀ f : bq_E, q[p]? = some f → al f.1 l = true → ∃ (j : Nat) (e : bq_E), q[j]? = some e ∧ e.1 = f.1 ^^^ 2 ^ l ∧ (j < k0 ∨ pl j ≤ p)) : bt_ok al q pl k0 p (l + 1) := by
  obtain ⟨h1, h2, h3, h4, h5⟩ := h
  refine ⟨fun i e hi he => ?_, h2, fun i l' f hi hl' hf ha => ?_, h4, h5⟩
  · obtain ⟨a1, a2, a3⟩ := h1 i e hi he
    exact ⟨a1, by omega, a3⟩
  · by_cases hc : i = p ∧ l' = l
    · obtain ⟨rfl, rfl⟩ := hc
      exact hn f hf ha
    · exact h3 i l' f (by omega) hl' hf ha
theorem bt_app {al : Nat → Nat → Bool} {q : List bq_E} {pl : Nat → Nat} {k0 p l : Nat} {s d x : Nat} (h : bt_ok al q pl k0 p l) (hp : q[p]? = some (s, d, x)) (hl : l < 12) (ha : al s l = true) : bt_ok al (q ++ [(s ^^^ 2 ^ l, d + 1, l)]) (fun i => if i < q.length then pl i else p) k0 p (l + 1) := by
  obtain ⟨h1, h2, h3, h4, h5⟩ := h
  have hpl := (List.getElem?_eq_some_iff.mp hp).1
  have hg : ∀ (i : Nat) (e : bq_E), (q ++ [(s ^^^ 2 ^ l, d + 1, l)])[i]? = some e → (i < q.length ∧ q[i]? = some e) ∨ (i = q.length ∧ e = (s ^^^ 2 ^ l, d + 1, l)) := by
    intro i e he
    by_cases hi : i < q.length
    · rw [List.getElem?_append_left hi] at he
      exact Or.inl ⟨hi, he⟩
    · rw [List.getElem?_append_right (by omega)] at he
      have h6 : i - q.length = 0 := by
        have := (List.getElem?_eq_some_iff.mp he).1
        simp at this
        omega
      rw [h6] at he
      exact Or.inr ⟨by omega, by simpa using he.symm⟩
  have hlast : (q ++ [(s ^^^ 2 ^ l, d + 1, l)])[q.length]? = some (s ^^^ 2 ^ l, d + 1, l) := by
    rw [List.getElem?_append_right (Nat.le_refl _), Nat.sub_self]
    rfl
  refine ⟨fun i e hi he => ?_, fun i j e f hi hij he hf => ?_, fun i l' f hi hl' hf ha' => ?_, fun i e hi he => ?_, by rw [List.length_append]; omega⟩
  · rcases hg i e he with ⟨g1, g2⟩ | ⟨g1, g2⟩
    · obtain ⟨a1, a2, a3, f, a4, a5⟩ := h1 i e hi g2
      dsimp only
      rw [if_pos g1]
      exact ⟨a1, by omega, a3, f, pre_get a4, a5⟩
    · rw [g2]
      dsimp only
      rw [if_neg (by omega)]
      exact ⟨by omega, Or.inr ⟨rfl, by omega⟩, hl, (s, d, x), pre_get hp, ha, rfl, rfl⟩
  · rcases hg i e he with ⟨g1, g2⟩ | ⟨g1, g2⟩
    · rcases hg j f hf with ⟨g3, g4⟩ | ⟨g3, g4⟩
      · dsimp only
        rw [if_pos g1, if_pos g3]
        exact h2 i j e f hi hij g2 g4
      · obtain ⟨a1, a2, a3⟩ := h1 i e hi g2
        rw [g4]
        dsimp only
        rw [if_pos g1, if_neg (by omega)]
        exact a2
    · have := (List.getElem?_eq_some_iff.mp hf).1
      rw [List.length_append, List.length_singleton] at this
      omega
  · rcases hg i f hf with ⟨g1, g2⟩ | ⟨g1, g2⟩
    · by_cases hc : i = p ∧ l' = l
      · obtain ⟨rfl, rfl⟩ := hc
        rw [hp] at g2
        cases g2
        refine ⟨q.length, _, hlast, rfl, Or.inr ?_⟩
        dsimp only
        rw [if_neg (by omega)]
        exact Nat.le_refl _
      · obtain ⟨j, e, b1, b2, b3⟩ := h3 i l' f (by omega) hl' g2 ha'
        refine ⟨j, e, pre_get b1, b2, ?_⟩
        have := (List.getElem?_eq_some_iff.mp b1).1
        dsimp only
        rw [if_pos this]
        exact b3
    · omega
  · rcases hg i e he with ⟨g1, g2⟩ | ⟨g1, g2⟩
    · exact h4 i e hi g2
    · omega
theorem bt_lev {al : Nat → Nat → Bool} {k0 p s d x : Nat} : ∀ (m l : Nat) (q : List bq_E) (pl : Nat → Nat), l + m = 12 → q[p]? = some (s, d, x) → bt_ok al q pl k0 p l → (∀ (j : Nat) (e : bq_E), k0 ≤ j → q[j]? = some e → pl j ≤ p) → ∃ pl', bt_ok al (bq_lev al s d (List.range' l m) q) pl' k0 p 12 := by
  intro m
  induction m with
  | zero =>
    intro l q pl hl hp h hle
    rw [show l = 12 by omega] at h
    exact ⟨pl, h⟩
  | succ m ih =>
    intro l q pl hl hp h hle
    show ∃ pl', bt_ok al (bq_lev al s d (List.range' (l + 1) m) (if al s l = true ∧ bq_see q (s ^^^ 2 ^ l) = none then q ++ [(s ^^^ 2 ^ l, d + 1, l)] else q)) pl' k0 p 12
    by_cases hc : al s l = true ∧ bq_see q (s ^^^ 2 ^ l) = none
    · rw [if_pos hc]
      refine ih (l + 1) _ _ (by omega) (pre_get hp) (bt_app h hp (by omega) hc.1) ?_
      intro j e hj he
      show (if j < q.length then pl j else p) ≤ p
      by_cases hj2 : j < q.length
      · rw [if_pos hj2]
        rw [List.getElem?_append_left hj2] at he
        exact hle j e hj he
      · rw [if_neg hj2]
        exact Nat.le_refl _
    · rw [if_neg hc]
      refine ih (l + 1) q pl (by omega) hp (bt_next h (by omega) ?_) hle
      intro f hf ha
      rw [hp] at hf
      cases hf
      have hne : bq_see q (s ^^^ 2 ^ l) ≠ none := fun z => hc ⟨ha, z⟩
      cases hsee : bq_see q (s ^^^ 2 ^ l) with
      | none => exact absurd hsee hne
      | some y =>
        obtain ⟨j, hj⟩ := List.getElem?_of_mem (bq_see_some hsee)
        refine ⟨j, _, hj, rfl, ?_⟩
        by_cases hk : j < k0
        · exact Or.inl hk
        · exact Or.inr (hle j _ (by omega) hj)
theorem bt_done {al : Nat → Nat → Bool} {q : List bq_E} {pl : Nat → Nat} {k0 p : Nat} (h : bt_ok al q pl k0 p 12) : bt_ok al q pl k0 (p + 1) 0 := by
  obtain ⟨h1, h2, h3, h4, h5⟩ := h
  refine ⟨fun i e hi he => ?_, h2, fun i l' f hi hl' hf ha => h3 i l' f (by omega) hl' hf ha, h4, h5⟩
  obtain ⟨a1, a2, a3⟩ := h1 i e hi he
  exact ⟨a1, by omega, a3⟩
theorem bt_go {al : Nat → Nat → Bool} {k0 : Nat} : ∀ (n p : Nat) (q : List bq_E) (pl : Nat → Nat), p ≤ q.length → 4096 - p < n → bq_ok q → bt_ok al q pl k0 p 0 → ∃ pl', bt_ok al (bq_go al n p q) pl' k0 (bq_go al n p q).length 0 := by
  intro n
  induction n with
  | zero => intro p q pl _ h; omega
  | succ n ih =>
    intro p q pl hp hn hq h
    have hlen := bq_ok_len hq
    unfold bq_go
    by_cases hpl : p = q.length
    · rw [List.getElem?_eq_none (by omega)]
      rw [hpl] at h
      exact ⟨pl, h⟩
    · have hi2 : p < q.length := by omega
      have he : q[p]? = some (q[p].1, q[p].2.1, q[p].2.2) := List.getElem?_eq_getElem hi2
      rw [he]
      dsimp only
      have hs := (hq.2.1 _ (List.mem_of_getElem? he)).1
      obtain ⟨pl', h'⟩ := bt_lev (al := al) 12 0 q pl (by omega) he h (fun j e hj hej => by
        have := (h.1 j e hj hej).2.1
        omega)
      obtain ⟨t, ht⟩ := bq_lev_pre (al := al) (s := q[p].1) (d := q[p].2.1) bq_12 q
      exact ih (p + 1) (bq_lev al q[p].1 q[p].2.1 bq_12 q) pl' (by rw [ht, List.length_append]; omega) (by omega) (bq_lev_ok bq_12 q hs bq_12_lt he hq) (bt_done h')
/-- a finished search -/
def bt_all (al : Nat → Nat → Bool) (q : List bq_E) (k0 : Nat) (pl : Nat → Nat) : Prop := bt_ok al q pl k0 q.length 0
theorem bt_start {al : Nat → Nat → Bool} {q : List bq_E} (h : ∀ e ∈ q, e.2.1 = 0) : bt_ok al q (fun _ => 0) q.length 0 0 := by
  refine ⟨fun i e hi he => ?_, fun i j e f hi hij he hf => ?_, fun i l' f hi hl' hf ha => ?_, fun i e hi he => h e (List.mem_of_getElem? he), Nat.le_refl _⟩
  · have := (List.getElem?_eq_some_iff.mp he).1
    omega
  · have := (List.getElem?_eq_some_iff.mp he).1
    omega
  · omega
theorem bt_fin {al : Nat → Nat → Bool} {q : List bq_E} (hq : bq_ok q) (h : ∀ e ∈ q, e.2.1 = 0) : ∃ pl, bt_all al (bq_go al ja_FU 0 q) q.length pl := bt_go ja_FU 0 q (fun _ => 0) (by omega) (by unfold ja_FU; omega) hq (bt_start h)
theorem bt_one {al : Nat → Nat → Bool} {s : Nat} (hs : s < 4096) : ∃ pl, bt_all al (bq_all al s) 1 pl := bt_fin (bq_ok_one hs) (fun e he => by simp at he; rw [he])
section BT
variable {al : Nat → Nat → Bool} {q : List bq_E} {k0 : Nat} {pl : Nat → Nat}
/-- distances rise -/
theorem bt_mono (h : bt_all al q k0 pl) : ∀ (j i : Nat) (e f : bq_E), i ≤ j → q[i]? = some e → q[j]? = some f → e.2.1 ≤ f.2.1 := by
  intro j
  induction j using Nat.strongRecOn with
  | ind j ih =>
    intro i e f hij he hf
    by_cases hi : i < k0
    · rw [h.2.2.2.1 i e hi he]
      exact Nat.zero_le _
    · by_cases hij2 : i = j
      · subst hij2
        rw [he] at hf
        cases hf
        exact Nat.le_refl _
      · obtain ⟨a1, a2, a3, e', a4, a5, a6, a7⟩ := h.1 i e (by omega) he
        obtain ⟨b1, b2, b3, f', b4, b5, b6, b7⟩ := h.1 j f (by omega) hf
        have hle := h.2.1 i j e f (by omega) (by omega) he hf
        have := ih (pl j) b1 (pl i) e' f' (by omega) a4 b4
        omega
/-- a neighbour is at most one move farther -/
theorem bt_near (h : bt_all al q k0 pl) {i l : Nat} {f : bq_E} (hl : l < 12) (hf : q[i]? = some f) (ha : al f.1 l = true) : ∃ (j : Nat) (e : bq_E), q[j]? = some e ∧ e.1 = f.1 ^^^ 2 ^ l ∧ e.2.1 ≤ f.2.1 + 1 ∧ (j < k0 ∨ pl j ≤ i) := by
  have hi := (List.getElem?_eq_some_iff.mp hf).1
  obtain ⟨j, e, h1, h2, h3⟩ := h.2.2.1 i l f (by omega) hl hf ha
  refine ⟨j, e, h1, h2, ?_, h3⟩
  by_cases hk : j < k0
  · rw [h.2.2.2.1 j e hk h1]
    omega
  · obtain ⟨b1, b2, b3, f', b4, b5, b6, b7⟩ := h.1 j e (by omega) h1
    have := bt_mono h i (pl j) f' f (by omega) b4 hf
    omega
end BT
