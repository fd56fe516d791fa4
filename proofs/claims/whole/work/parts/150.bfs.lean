/-! breadth first, as one list: state, distance, lever moved last -/
abbrev bq_E : Type := Nat × Nat × Nat
def bq_see : List bq_E → Nat → Option (Nat × Nat)
  | [], _ => none
  | e :: q, s => if e.1 = s then some e.2 else bq_see q s
theorem bq_see_app (q : List bq_E) (e : bq_E) (s : Nat) : bq_see (q ++ [e]) s = match bq_see q s with
    | some x => some x
    | none => if e.1 = s then some e.2 else none := by
  induction q with
  | nil => rfl
  | cons a q ih =>
    show (if a.1 = s then some a.2 else bq_see (q ++ [e]) s) = _
    by_cases h : a.1 = s
    · rw [if_pos h]
      show _ = match (if a.1 = s then some a.2 else bq_see q s) with
        | some x => some x
        | none => if e.1 = s then some e.2 else none
      rw [if_pos h]
    · rw [if_neg h, ih]
      show _ = match (if a.1 = s then some a.2 else bq_see q s) with
        | some x => some x
        | none => if e.1 = s then some e.2 else none
      rw [if_neg h]
theorem bq_see_none {q : List bq_E} {s : Nat} : bq_see q s = none ↔ ∀ e ∈ q, e.1 ≠ s := by
  induction q with
  | nil => exact ⟨fun _ e he => (by cases he), fun _ => rfl⟩
  | cons a q ih =>
    show (if a.1 = s then some a.2 else bq_see q s) = none ↔ _
    by_cases h : a.1 = s
    · rw [if_pos h]
      exact ⟨fun q => (by cases q), fun q => absurd h (q a List.mem_cons_self)⟩
    · rw [if_neg h, ih]
      constructor
      · intro h2 e he
        rcases List.mem_cons.mp he with h3 | h3
        · rw [h3]; exact h
        · exact h2 e h3
      · intro h2 e he
        exact h2 e (List.mem_cons_of_mem _ he)
theorem bq_see_some {q : List bq_E} {s : Nat} {x : Nat × Nat} (h : bq_see q s = some x) : (s, x) ∈ q := by
  induction q with
  | nil => cases h
  | cons a q ih =>
    have h' : (if a.1 = s then some a.2 else bq_see q s) = some x := h
    by_cases h2 : a.1 = s
    · rw [if_pos h2] at h'
      cases h'
      rw [← h2]
      exact List.mem_cons_self
    · rw [if_neg h2] at h'
      exact List.mem_cons_of_mem _ (ih h')
theorem bq_see_mem {q : List bq_E} (hn : (q.map Prod.fst).Nodup) {e : bq_E} (h : e ∈ q) : bq_see q e.1 = some e.2 := by
  induction q with
  | nil => cases h
  | cons a q ih =>
    show (if a.1 = e.1 then some a.2 else bq_see q e.1) = _
    rw [List.map_cons, List.nodup_cons] at hn
    rcases List.mem_cons.mp h with h2 | h2
    · rw [h2, if_pos rfl]
    · have h3 : ¬ a.1 = e.1 := fun q2 => hn.1 (q2 ▸ List.mem_map_of_mem h2)
      rw [if_neg h3, ih hn.2 h2]
/-- one state's neighbours -/
def bq_lev (al : Nat → Nat → Bool) (s d : Nat) : List Nat → List bq_E → List bq_E
  | [], q => q
  | l :: ls, q => bq_lev al s d ls (if al s l = true ∧ bq_see q (s ^^^ 2 ^ l) = none then q ++ [(s ^^^ 2 ^ l, d + 1, l)] else q)
def bq_12 : List Nat := List.range' 0 12
def bq_go (al : Nat → Nat → Bool) : Nat → Nat → List bq_E → List bq_E
  | 0, _, q => q
  | n + 1, p, q => match q[p]? with
    | none => q
    | some e => bq_go al n (p + 1) (bq_lev al e.1 e.2.1 bq_12 q)
/-- the states that are found from one -/
def bq_all (al : Nat → Nat → Bool) (s : Nat) : List bq_E := bq_go al ja_FU 0 [(s, 0, 0)]
theorem bq_lev_skip {al : Nat → Nat → Bool} {s d : Nat} : ∀ (ls : List Nat) (q : List bq_E), (∀ l ∈ ls, al s l = false) → bq_lev al s d ls q = q
  | [], _, _ => rfl
  | l :: ls, q, h => by
    show bq_lev al s d ls (if al s l = true ∧ bq_see q (s ^^^ 2 ^ l) = none then q ++ [(s ^^^ 2 ^ l, d + 1, l)] else q) = q
    have h1 := h l List.mem_cons_self
    rw [if_neg (fun q2 => by rw [h1] at q2; cases q2.1)]
    exact bq_lev_skip ls q (fun l2 h2 => h l2 (List.mem_cons_of_mem _ h2))
/-- a list that a search may hold -/
def bq_ok (q : List bq_E) : Prop := (q.map Prod.fst).Nodup ∧ (∀ e ∈ q, e.1 < 4096 ∧ e.2.2 < 12) ∧ ∀ (i : Nat) (e : bq_E), q[i]? = some e → e.2.1 ≤ i
theorem nodup_len : ∀ (n : Nat) (l : List Nat), l.Nodup → (∀ x ∈ l, x < n) → l.length ≤ n := by
  intro n
  induction n with
  | zero =>
    intro l _ h
    cases l with
    | nil => exact Nat.le_refl _
    | cons a l => exact absurd (h a List.mem_cons_self) (by omega)
  | succ n ih =>
    intro l hn h
    have h1 := ih (l.erase n) (hn.erase n) (fun x hx => by
      have h2 := (hn.mem_erase_iff).mp hx
      have := h x h2.2
      have := h2.1
      omega)
    rw [List.length_erase] at h1
    split at h1 <;> omega
theorem bq_ok_len {q : List bq_E} (h : bq_ok q) : q.length ≤ 4096 := by
  have h1 := nodup_len 4096 (q.map Prod.fst) h.1 (fun x hx => by
    obtain ⟨e, he, rfl⟩ := List.mem_map.mp hx
    exact (h.2.1 e he).1)
  rw [List.length_map] at h1
  exact h1
theorem bq_ok_nil : bq_ok [] := ⟨List.nodup_nil, fun _ h => (by cases h), fun i e h => (by simp at h)⟩
theorem bq_ok_app {q : List bq_E} {s d l : Nat} (h : bq_ok q) (hs : s < 4096) (hl : l < 12) (hd : d ≤ q.length) (hn : bq_see q s = none) : bq_ok (q ++ [(s, d, l)]) := by
  refine ⟨?_, ?_, ?_⟩
  · rw [List.map_append, List.nodup_append]
    refine ⟨h.1, by simp, ?_⟩
    intro a ha b hb
    obtain ⟨e, he, rfl⟩ := List.mem_map.mp ha
    simp at hb
    rw [hb]
    exact bq_see_none.mp hn e he
  · intro e he
    rcases List.mem_append.mp he with h2 | h2
    · exact h.2.1 e h2
    · simp at h2
      rw [h2]
      exact ⟨hs, hl⟩
  · intro i e he
    by_cases hi : i < q.length
    · rw [List.getElem?_append_left hi] at he
      exact h.2.2 i e he
    · rw [List.getElem?_append_right (by omega)] at he
      have h3 : i - q.length = 0 := by
        have := (List.getElem?_eq_some_iff.mp he).1
        simp at this
        omega
      rw [h3] at he
      simp at he
      rw [← he]
      show d ≤ i
      omega
theorem bq_lev_pre {al : Nat → Nat → Bool} {s d : Nat} : ∀ (ls : List Nat) (q : List bq_E), ∃ t, bq_lev al s d ls q = q ++ t
  | [], q => ⟨[], (List.append_nil q).symm⟩
  | l :: ls, q => by
    show ∃ t, bq_lev al s d ls (if al s l = true ∧ bq_see q (s ^^^ 2 ^ l) = none then q ++ [(s ^^^ 2 ^ l, d + 1, l)] else q) = q ++ t
    by_cases h : al s l = true ∧ bq_see q (s ^^^ 2 ^ l) = none
    · rw [if_pos h]
      obtain ⟨t, ht⟩ := bq_lev_pre (al := al) (s := s) (d := d) ls (q ++ [(s ^^^ 2 ^ l, d + 1, l)])
      exact ⟨(s ^^^ 2 ^ l, d + 1, l) :: t, by rw [ht, List.append_assoc]; rfl⟩
    · rw [if_neg h]
      exact bq_lev_pre ls q
theorem bq_go_pre {al : Nat → Nat → Bool} : ∀ (n p : Nat) (q : List bq_E), ∃ t, bq_go al n p q = q ++ t
  | 0, _, q => ⟨[], (List.append_nil q).symm⟩
  | n + 1, p, q => by
    unfold bq_go
    cases h : q[p]? with
    | none => exact ⟨[], (List.append_nil q).symm⟩
    | some e =>
      obtain ⟨t1, h1⟩ := bq_lev_pre (al := al) (s := e.1) (d := e.2.1) bq_12 q
      obtain ⟨t2, h2⟩ := bq_go_pre (al := al) n (p + 1) (q ++ t1)
      exact ⟨t1 ++ t2, by dsimp only; rw [h1, h2, List.append_assoc]⟩
theorem pre_get {q t : List bq_E} {p : Nat} {e : bq_E} (h : q[p]? = some e) : (q ++ t)[p]? = some e := by
  have h1 := (List.getElem?_eq_some_iff.mp h).1
  rw [List.getElem?_append_left h1, h]
theorem bq_lev_ok {al : Nat → Nat → Bool} {s d p : Nat} {x : Nat} : ∀ (ls : List Nat) (q : List bq_E), s < 4096 → (∀ l ∈ ls, l < 12) → q[p]? = some (s, d, x) → bq_ok q → bq_ok (bq_lev al s d ls q)
  | [], _, _, _, _, h => h
  | l :: ls, q, hs, hl, hp, h => by
    show bq_ok (bq_lev al s d ls (if al s l = true ∧ bq_see q (s ^^^ 2 ^ l) = none then q ++ [(s ^^^ 2 ^ l, d + 1, l)] else q))
    have hl1 := hl l List.mem_cons_self
    by_cases hc : al s l = true ∧ bq_see q (s ^^^ 2 ^ l) = none
    · rw [if_pos hc]
      have h1 := (List.getElem?_eq_some_iff.mp hp).1
      have h2 : d ≤ p := h.2.2 p _ hp
      exact bq_lev_ok ls _ hs (fun l2 h3 => hl l2 (List.mem_cons_of_mem _ h3)) (pre_get hp) (bq_ok_app h (xor_lt30 hs hl1) hl1 (by omega) hc.2)
    · rw [if_neg hc]
      exact bq_lev_ok ls _ hs (fun l2 h3 => hl l2 (List.mem_cons_of_mem _ h3)) hp h
theorem bq_12_lt : ∀ l ∈ bq_12, l < 12 := by decide
theorem bq_go_ok {al : Nat → Nat → Bool} : ∀ (n p : Nat) (q : List bq_E), bq_ok q → bq_ok (bq_go al n p q)
  | 0, _, _, h => h
  | n + 1, p, q, h => by
    unfold bq_go
    cases hp : q[p]? with
    | none => exact h
    | some e =>
      dsimp only
      have he := h.2.1 e (List.mem_of_getElem? hp)
      exact bq_go_ok n (p + 1) _ (bq_lev_ok bq_12 q he.1 bq_12_lt (show q[p]? = some (e.1, e.2.1, e.2.2) from hp) h)
theorem bq_ok_one {s : Nat} (hs : s < 4096) : bq_ok [(s, 0, 0)] := bq_ok_app (q := []) bq_ok_nil hs (by omega) (by simp) rfl
theorem bq_all_ok {al : Nat → Nat → Bool} {s : Nat} (hs : s < 4096) : bq_ok (bq_all al s) := bq_go_ok _ _ _ (bq_ok_one hs)
/-- only what is asked of found states counts -/
theorem bq_lev_congr {al bl : Nat → Nat → Bool} {s d : Nat} : ∀ (ls : List Nat) (q : List bq_E), (∀ l ∈ ls, al s l = bl s l) → bq_lev al s d ls q = bq_lev bl s d ls q
  | [], _, _ => rfl
  | l :: ls, q, h => by
    show bq_lev al s d ls _ = bq_lev bl s d ls _
    rw [h l List.mem_cons_self]
    exact bq_lev_congr ls _ (fun l2 h2 => h l2 (List.mem_cons_of_mem _ h2))
theorem bq_go_congr {al bl : Nat → Nat → Bool} : ∀ (n p : Nat) (q : List bq_E), (∀ e ∈ bq_go al n p q, ∀ l, l < 12 → al e.1 l = bl e.1 l) → bq_go al n p q = bq_go bl n p q
  | 0, _, _, _ => rfl
  | n + 1, p, q, h => by
    unfold bq_go at h ⊢
    cases hp : q[p]? with
    | none => rfl
    | some e =>
      rw [hp] at h
      dsimp only at h ⊢
      have he : e ∈ bq_go al n (p + 1) (bq_lev al e.1 e.2.1 bq_12 q) := by
        obtain ⟨t1, h1⟩ := bq_lev_pre (al := al) (s := e.1) (d := e.2.1) bq_12 q
        obtain ⟨t2, h2⟩ := bq_go_pre (al := al) n (p + 1) (bq_lev al e.1 e.2.1 bq_12 q)
        rw [h2, h1]
        exact List.mem_append_left _ (List.mem_append_left _ (List.mem_of_getElem? hp))
      have hc := bq_lev_congr (d := e.2.1) bq_12 q (fun l hl => h e he l (bq_12_lt l hl))
      rw [hc] at h ⊢
      exact bq_go_congr n (p + 1) _ h
