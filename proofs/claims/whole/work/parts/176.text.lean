/-! the text of a sheet, read once for both sides -/
def pz_run (P : Nat → Bool) : Nat → Nat → Nat
  | 0, p => p
  | m + 1, p => if P p = true then pz_run P m (p + 1) else p
def pz_end (P : Nat → Bool) (n p : Nat) : Nat := pz_run P (n - p) p
theorem end_eq {P : Nat → Bool} {n p : Nat} : pz_end P n p = if p < n ∧ P p = true then pz_end P n (p + 1) else p := by
  unfold pz_end
  by_cases h : p < n
  · rw [show n - p = (n - (p + 1)) + 1 by omega]
    unfold pz_run
    by_cases h2 : P p = true
    · rw [if_pos h2, if_pos ⟨h, h2⟩]
      cases n - (p + 1) <;> rfl
    · rw [if_neg h2, if_neg (fun z => h2 z.2)]
  · rw [show n - p = 0 by omega, if_neg (fun z => h z.1)]
    rfl
theorem run_le {P : Nat → Bool} : ∀ (m p : Nat), p ≤ pz_run P m p ∧ pz_run P m p ≤ p + m
  | 0, p => ⟨Nat.le_refl _, Nat.le_refl _⟩
  | m + 1, p => by
    unfold pz_run
    by_cases h : P p = true
    · rw [if_pos h]
      have := run_le (P := P) m (p + 1)
      omega
    · rw [if_neg h]
      omega
theorem end_le {P : Nat → Bool} {n p : Nat} (h : p ≤ n) : p ≤ pz_end P n p ∧ pz_end P n p ≤ n := by
  have := run_le (P := P) (n - p) p
  unfold pz_end
  omega
theorem run_stop {P : Nat → Bool} : ∀ (m p : Nat), pz_run P m p < p + m → P (pz_run P m p) = false
  | 0, p, h => by
    have : pz_run P 0 p = p := rfl
    omega
  | m + 1, p, h => by
    unfold pz_run at h ⊢
    by_cases h2 : P p = true
    · rw [if_pos h2] at h ⊢
      exact run_stop m (p + 1) (by omega)
    · rw [if_neg h2] at h ⊢
      simpa using h2
theorem end_stop {P : Nat → Bool} {n p : Nat} (h : p ≤ n) (h2 : pz_end P n p < n) : P (pz_end P n p) = false := run_stop (n - p) p (by unfold pz_end at h2; omega)
theorem run_all {P : Nat → Bool} : ∀ (m p i : Nat), p ≤ i → i < pz_run P m p → P i = true
  | 0, p, i, h1, h2 => by
    have : pz_run P 0 p = p := rfl
    omega
  | m + 1, p, i, h1, h2 => by
    unfold pz_run at h2
    by_cases h3 : P p = true
    · rw [if_pos h3] at h2
      by_cases h4 : i = p
      · rw [h4]; exact h3
      · exact run_all m (p + 1) i (by omega) h2
    · rw [if_neg h3] at h2
      omega
theorem end_all {P : Nat → Bool} {n p i : Nat} (h1 : p ≤ i) (h2 : i < pz_end P n p) : P i = true := run_all (n - p) p i h1 h2
theorem end_idem {P : Nat → Bool} {n p : Nat} (h : p ≤ n) : pz_end P n (pz_end P n p) = pz_end P n p := by
  rw [end_eq (p := pz_end P n p), if_neg]
  rintro ⟨h1, h2⟩
  rw [end_stop h h1] at h2
  cases h2
def pz_L (x : Nat) : Bool := decide (97 ≤ x ∧ x ≤ 122)
def pz_D (x : Nat) : Bool := decide (48 ≤ x ∧ x ≤ 57)
section PZ
variable (f : Nat → Nat) (n : Nat)
def pz_sk (p : Nat) : Nat := pz_end (fun i => f i == 32) n p
def pz_dg (q : Nat) : Nat := pz_end (fun i => pz_D (f i)) n q
def pz_lt (q : Nat) : Nat := pz_end (fun i => pz_L (f i)) n q
/-- where the token that begins here ends -/
def pz_te (q : Nat) : Nat := if q < n then (if pz_L (f q) = true then pz_lt f n q else if pz_D (f q) = true then pz_dg f n q else q + 1) else n
def pz_d (q : Nat) : Bool := decide (q < n) && pz_D (f q)
def pz_w (w : List Nat) (q : Nat) : Bool := decide (pz_te f n q = q + w.length) && (List.range w.length).all (fun i => f (q + i) == w.getD i 0)
def pz_v (q : Nat) : Nat → Nat
  | 0 => 0
  | k + 1 => 10 * pz_v q k + (f (q + k) - 48)
/-- a number from lo on, below h -/
def pz_num (lo h p : Nat) : Sum (Nat × Nat) (Nat × Nat) :=
  if pz_d f n (pz_sk f n p) = true then
    (if pz_dg f n (pz_sk f n p) - pz_sk f n p ≤ 4 ∧ lo ≤ pz_v f (pz_sk f n p) (min (pz_dg f n (pz_sk f n p) - pz_sk f n p) 4) ∧ pz_v f (pz_sk f n p) (min (pz_dg f n (pz_sk f n p) - pz_sk f n p) 4) < h then Sum.inr (pz_v f (pz_sk f n p) (min (pz_dg f n (pz_sk f n p) - pz_sk f n p) 4), pz_dg f n (pz_sk f n p)) else Sum.inl (2, pz_sk f n p))
  else Sum.inl (1, pz_sk f n p)
def pz_ws (i : Nat) : List Nat := match i with
  | 0 => [108, 101, 118, 101, 114, 115]
  | 1 => [114, 111, 117, 116, 101]
  | 2 => [99, 111, 110, 102, 108, 105, 99, 116]
  | 3 => [119, 104, 101, 110]
  | 4 => [108, 111, 99, 107, 115]
  | 5 => [114, 101, 108, 101, 97, 115, 101, 115]
  | 6 => [104, 111, 108, 100, 115]
  | 7 => [110, 111, 114, 109, 97, 108]
  | _ => [114, 101, 118, 101, 114, 115, 101, 100]
/-- which of the nine words stands here -/
def pz_wd (q : Nat) : Option Nat := am_first (fun i => pz_w f n (pz_ws i) q) 9 0
/-- the condition behind when -/
def pz_cond (N a b p : Nat) : Sum (Nat × Nat) (Nat × Nat) := match pz_num f n 0 N p with
  | Sum.inl e => Sum.inl e
  | Sum.inr (c, p1) => if c = a ∨ c = b then Sum.inl (3, pz_sk f n p) else if pz_wd f n (pz_sk f n p1) = some 8 then Sum.inr (2 * c + 2, pz_te f n (pz_sk f n p1)) else if pz_wd f n (pz_sk f n p1) = some 7 then Sum.inr (2 * c + 1, pz_te f n (pz_sk f n p1)) else Sum.inl (1, pz_sk f n p1)
def pz_rule2 (N a k p : Nat) : Sum (Nat × Nat) (am_R × Nat) := match pz_num f n 0 N p with
  | Sum.inl e => Sum.inl e
  | Sum.inr (b, p1) => if b = a then Sum.inl (3, pz_sk f n p) else if pz_wd f n (pz_sk f n p1) = some 3 then (match pz_cond f n N a b (pz_te f n (pz_sk f n p1)) with
      | Sum.inl e => Sum.inl e
      | Sum.inr (c, p2) => Sum.inr ((k, a, b, c), p2)) else Sum.inr ((k, a, b, 0), p1)
def pz_rule (N : Nat) (full : Bool) (p : Nat) : Sum (Nat × Nat) (am_R × Nat) := match pz_num f n 0 N p with
  | Sum.inl e => Sum.inl e
  | Sum.inr (a, p1) => if full = true then Sum.inl (4, pz_sk f n p) else if pz_wd f n (pz_sk f n p1) = some 4 then pz_rule2 f n N a 0 (pz_te f n (pz_sk f n p1)) else if pz_wd f n (pz_sk f n p1) = some 5 then pz_rule2 f n N a 1 (pz_te f n (pz_sk f n p1)) else if pz_wd f n (pz_sk f n p1) = some 6 then pz_rule2 f n N a 2 (pz_te f n (pz_sk f n p1)) else Sum.inl (1, pz_sk f n p1)
def pz_rt (N : Nat) : Nat → Nat → Nat → Sum (Nat × Nat) (Nat × Nat)
  | 0, set, p => Sum.inr (set, p)
  | m + 1, set, p => match pz_num f n 0 N p with
    | Sum.inl e => Sum.inl e
    | Sum.inr (l, p1) => if set.testBit l = true then Sum.inl (3, pz_sk f n p) else if pz_d f n (pz_sk f n p1) = true then pz_rt N m (set ||| 2 ^ l) p1 else Sum.inr (set ||| 2 ^ l, p1)
def pz_dc (cf : List (Nat × Nat)) (a b : Nat) : Bool := cf.any (fun q => (q.1 == a && q.2 == b) || (q.1 == b && q.2 == a))
def pz_cf (R : Nat) (cf : List (Nat × Nat)) (p : Nat) : Sum (Nat × Nat) ((Nat × Nat) × Nat) := match pz_num f n 0 R p with
  | Sum.inl e => Sum.inl e
  | Sum.inr (a, p1) => match pz_num f n 0 R p1 with
    | Sum.inl e => Sum.inl e
    | Sum.inr (b, p2) => if b = a ∨ pz_dc cf a b = true then Sum.inl (3, pz_sk f n p1) else Sum.inr ((a, b), p2)
/-- rules, routes, conflicts -/
abbrev pz_S : Type := List am_R × List Nat × List (Nat × Nat)
def pz_st (N : Nat) (S : pz_S) (p : Nat) : Sum (Nat × Nat) (pz_S × Nat) :=
  if pz_d f n (pz_sk f n p) = true then (match pz_rule f n N (decide (S.1.length = 24)) p with
    | Sum.inl e => Sum.inl e
    | Sum.inr (r, p1) => Sum.inr ((S.1 ++ [r], S.2.1, S.2.2), p1))
  else if pz_wd f n (pz_sk f n p) = some 1 then (if S.2.1.length = 8 then Sum.inl (4, pz_sk f n p) else match pz_rt f n N 13 0 (pz_te f n (pz_sk f n p)) with
    | Sum.inl e => Sum.inl e
    | Sum.inr (w, p1) => Sum.inr ((S.1, S.2.1 ++ [w], S.2.2), p1))
  else if pz_wd f n (pz_sk f n p) = some 2 then (if S.2.2.length = 8 then Sum.inl (4, pz_sk f n p) else match pz_cf f n S.2.1.length S.2.2 (pz_te f n (pz_sk f n p)) with
    | Sum.inl e => Sum.inl e
    | Sum.inr (q, p1) => Sum.inr ((S.1, S.2.1, S.2.2 ++ [q]), p1))
  else Sum.inl (1, pz_sk f n p)
def pz_sc (p : Nat) : Bool := decide (pz_sk f n p < n) && f (pz_sk f n p) == 59
def pz_lp (N : Nat) : Nat → pz_S → Nat → Sum (Nat × Nat) pz_S
  | 0, _, _ => Sum.inl (1, 0)
  | m + 1, S, p => if pz_sk f n p < n then (match pz_st f n N S p with
      | Sum.inl e => Sum.inl e
      | Sum.inr (S1, p1) => if pz_sc f n p1 = true then pz_lp N m S1 (pz_sk f n p1 + 1) else Sum.inl (1, pz_sk f n p1)) else Sum.inr S
def pz_all : Sum (Nat × Nat) (Nat × pz_S) :=
  if pz_wd f n (pz_sk f n 0) = some 0 then (match pz_num f n 2 13 (pz_te f n (pz_sk f n 0)) with
    | Sum.inl e => Sum.inl e
    | Sum.inr (N, p1) => if pz_sc f n p1 = true then (match pz_lp f n N 1000 ([], [], []) (pz_sk f n p1 + 1) with
        | Sum.inl e => Sum.inl e
        | Sum.inr S => Sum.inr (N, S)) else Sum.inl (1, pz_sk f n p1))
  else Sum.inl (1, pz_sk f n 0)
end PZ
section PF
variable {f : Nat → Nat} {n : Nat}
theorem sk_le {p : Nat} (h : p ≤ n) : p ≤ pz_sk f n p ∧ pz_sk f n p ≤ n := end_le h
theorem sk_idem {p : Nat} (h : p ≤ n) : pz_sk f n (pz_sk f n p) = pz_sk f n p := end_idem h
theorem te_le {q : Nat} (h : q ≤ n) : q ≤ pz_te f n q ∧ pz_te f n q ≤ n ∧ (q < n → q < pz_te f n q) := by
  unfold pz_te
  by_cases h1 : q < n
  · rw [if_pos h1]
    by_cases h2 : pz_L (f q) = true
    · rw [if_pos h2]
      unfold pz_lt
      rw [end_eq, if_pos ⟨h1, h2⟩]
      have := end_le (P := fun i => pz_L (f i)) (n := n) (p := q + 1) (by omega)
      omega
    · rw [if_neg h2]
      by_cases h3 : pz_D (f q) = true
      · rw [if_pos h3]
        unfold pz_dg
        rw [end_eq, if_pos ⟨h1, h3⟩]
        have := end_le (P := fun i => pz_D (f i)) (n := n) (p := q + 1) (by omega)
        omega
      · rw [if_neg h3]
        omega
  · rw [if_neg h1]
    omega
theorem dg_te {q : Nat} (h : pz_d f n q = true) : pz_te f n q = pz_dg f n q ∧ q < n ∧ q < pz_dg f n q ∧ pz_dg f n q ≤ n := by
  unfold pz_d at h
  rw [Bool.and_eq_true] at h
  have h1 := of_decide_eq_true h.1
  have h2 := te_le (f := f) (n := n) (q := q) (by omega)
  have h3 : pz_te f n q = pz_dg f n q := by
    have hD := of_decide_eq_true h.2
    unfold pz_te
    rw [if_pos h1, if_neg (fun z => by have := of_decide_eq_true z; omega), if_pos h.2]
  rw [h3] at h2
  exact ⟨h3, h1, h2.2.2 h1, h2.2.1⟩
theorem v_lt {q : Nat} : ∀ (k : Nat), (∀ i, i < k → pz_D (f (q + i)) = true) → pz_v f q k < 10 ^ k
  | 0, _ => by unfold pz_v; omega
  | k + 1, h => by
    have h1 := v_lt (q := q) k (fun i hi => h i (by omega))
    have h2 := of_decide_eq_true (h k (by omega))
    unfold pz_v
    rw [Nat.pow_succ]
    omega
theorem v_le {q : Nat} : ∀ (k : Nat), k ≤ 4 → (∀ i, i < k → pz_D (f (q + i)) = true) → pz_v f q k < 10000 := by
  intro k hk h
  have h1 := v_lt k h
  have h2 : 10 ^ k ≤ 10 ^ 4 := Nat.pow_le_pow_right (by omega) hk
  omega
theorem num_inr {lo h p v e : Nat} (hp : p ≤ n) (hx : pz_num f n lo h p = Sum.inr (v, e)) : lo ≤ v ∧ v < h ∧ pz_d f n (pz_sk f n p) = true ∧ e = pz_dg f n (pz_sk f n p) ∧ p < e ∧ e ≤ n := by
  unfold pz_num at hx
  by_cases h1 : pz_d f n (pz_sk f n p) = true
  · rw [if_pos h1] at hx
    have h3 := dg_te h1
    have h4 := sk_le (f := f) hp
    by_cases h2 : pz_dg f n (pz_sk f n p) - pz_sk f n p ≤ 4 ∧ lo ≤ pz_v f (pz_sk f n p) (min (pz_dg f n (pz_sk f n p) - pz_sk f n p) 4) ∧ pz_v f (pz_sk f n p) (min (pz_dg f n (pz_sk f n p) - pz_sk f n p) 4) < h
    · rw [if_pos h2] at hx
      cases hx
      exact ⟨h2.2.1, h2.2.2, h1, rfl, by omega, h3.2.2.2⟩
    · rw [if_neg h2] at hx
      cases hx
  · rw [if_neg h1] at hx
    cases hx
theorem num_inl {lo h p c o : Nat} (hp : p ≤ n) (hx : pz_num f n lo h p = Sum.inl (c, o)) : (c = 1 ∨ c = 2) ∧ o = pz_sk f n p := by
  unfold pz_num at hx
  by_cases h1 : pz_d f n (pz_sk f n p) = true
  · rw [if_pos h1] at hx
    by_cases h2 : pz_dg f n (pz_sk f n p) - pz_sk f n p ≤ 4 ∧ lo ≤ pz_v f (pz_sk f n p) (min (pz_dg f n (pz_sk f n p) - pz_sk f n p) 4) ∧ pz_v f (pz_sk f n p) (min (pz_dg f n (pz_sk f n p) - pz_sk f n p) 4) < h
    · rw [if_pos h2] at hx
      cases hx
    · rw [if_neg h2] at hx
      cases hx
      exact ⟨Or.inr rfl, rfl⟩
  · rw [if_neg h1] at hx
    cases hx
    exact ⟨Or.inl rfl, rfl⟩
theorem num_sk {lo h p : Nat} (hp : p ≤ n) : pz_num f n lo h (pz_sk f n p) = pz_num f n lo h p := by
  unfold pz_num
  rw [sk_idem hp]
/-- only one word stands at a place -/
theorem ws_inj : ∀ i, i < 9 → ∀ j, j < 9 → pz_ws i = pz_ws j → i = j := by decide
theorem w_eq {w w' : List Nat} {q : Nat} (h : pz_w f n w q = true) (h' : pz_w f n w' q = true) : w = w' := by
  unfold pz_w at h h'
  rw [Bool.and_eq_true, List.all_eq_true] at h h'
  have h1 := of_decide_eq_true h.1
  have h2 := of_decide_eq_true h'.1
  have hl : w.length = w'.length := by omega
  apply List.ext_getElem hl
  intro i hi hi'
  have a1 := h.2 i (List.mem_range.mpr hi)
  have a2 := h'.2 i (List.mem_range.mpr hi')
  rw [beq_iff_eq] at a1 a2
  rw [a1, List.getD_eq_getElem?_getD, List.getD_eq_getElem?_getD, List.getElem?_eq_getElem hi, List.getElem?_eq_getElem hi'] at a2
  exact a2
theorem wd_iff {q i : Nat} (hi : i < 9) : pz_wd f n q = some i ↔ pz_w f n (pz_ws i) q = true := by
  unfold pz_wd
  constructor
  · intro h
    exact first_true (p := fun i => pz_w f n (pz_ws i) q) _ _ h
  · intro h
    refine first_some_of (p := fun i => pz_w f n (pz_ws i) q) h 9 0 (by omega) (by omega) (fun l _ hl => ?_)
    cases hc : pz_w f n (pz_ws l) q with
    | false => rfl
    | true =>
      have := ws_inj l (by omega) i hi (w_eq hc h)
      omega
theorem wd_lt {q i : Nat} (h : pz_wd f n q = some i) : i < 9 := by
  have := first_lt _ _ _ h
  omega
theorem sk_not {p : Nat} (hp : p ≤ n) (h : pz_sk f n p < n) : f (pz_sk f n p) ≠ 32 := by
  have := end_stop (P := fun i => f i == 32) hp h
  intro z
  have h2 : (f (pz_sk f n p) == 32) = true := by rw [z]; rfl
  have h3 : (f (pz_sk f n p) == 32) = false := this
  rw [h2] at h3
  cases h3
theorem sc_w {p : Nat} (hp : p ≤ n) : pz_sc f n p = pz_w f n [59] (pz_sk f n p) := by
  have hs := sk_le (f := f) hp
  unfold pz_sc pz_w
  rw [Bool.eq_iff_iff, Bool.and_eq_true, Bool.and_eq_true]
  constructor
  · rintro ⟨h1, h2⟩
    have h1' := of_decide_eq_true h1
    have h2' := beq_iff_eq.mp h2
    refine ⟨decide_eq_true ?_, ?_⟩
    · show pz_te f n (pz_sk f n p) = pz_sk f n p + 1
      unfold pz_te
      rw [if_pos h1', h2']
      rfl
    · show (List.range 1).all _ = true
      simp [List.range_succ, h2']
  · rintro ⟨h1, h2⟩
    have h1' : pz_te f n (pz_sk f n p) = pz_sk f n p + 1 := of_decide_eq_true h1
    have hlt : pz_sk f n p < n := by
      have := te_le (f := f) hs.2
      omega
    refine ⟨decide_eq_true hlt, ?_⟩
    rw [List.all_eq_true] at h2
    have := h2 0 (List.mem_range.mpr (by simp))
    simpa using this
end PF
