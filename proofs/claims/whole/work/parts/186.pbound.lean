/-! where a sheet fails -/
def pz_eb (n : Nat) {α : Type} (x : Sum (Nat × Nat) α) : Prop := ∀ e, x = Sum.inl e → e.1 ≤ 4 ∧ e.2 ≤ n
section PEB
variable {f : Nat → Nat} {n : Nat} {α : Type}
theorem eb_l {c o : Nat} (hc : c ≤ 4) (ho : o ≤ n) : pz_eb n (Sum.inl (c, o) : Sum (Nat × Nat) α) := fun e h => by cases h; exact ⟨hc, ho⟩
theorem eb_r {x : α} : pz_eb n (Sum.inr x : Sum (Nat × Nat) α) := fun e h => by cases h
theorem eb_if {p : Prop} [Decidable p] {a b : Sum (Nat × Nat) α} (h1 : p → pz_eb n a) (h2 : ¬ p → pz_eb n b) : pz_eb n (if p then a else b) := by
  by_cases h : p
  · rw [if_pos h]; exact h1 h
  · rw [if_neg h]; exact h2 h
theorem num_eb {lo h p : Nat} (hp : p ≤ n) : pz_eb n (pz_num f n lo h p) := by
  intro e he
  obtain ⟨c, o⟩ := e
  have := num_inl hp he
  have h2 := sk_le (f := f) hp
  exact ⟨by show c ≤ 4; omega, by show o ≤ n; omega⟩
theorem cond_eb {N a b p : Nat} (hp : p ≤ n) : pz_eb n (pz_cond f n N a b p) := by
  unfold pz_cond
  cases hx : pz_num f n 0 N p with
  | inl e => intro e' h; cases h; exact num_eb hp e hx
  | inr v =>
    obtain ⟨c, p1⟩ := v
    have h1 := num_pg hp hx
    exact eb_if (fun _ => eb_l (by omega) (sk_le (f := f) hp).2) (fun _ => eb_if (fun _ => eb_r) (fun _ => eb_if (fun _ => eb_r) (fun _ => eb_l (by omega) (sk_le (f := f) h1.2).2)))
theorem rule2_eb {N a k p : Nat} (hp : p ≤ n) : pz_eb n (pz_rule2 f n N a k p) := by
  unfold pz_rule2
  cases hx : pz_num f n 0 N p with
  | inl e => intro e' h; cases h; exact num_eb hp e hx
  | inr v =>
    obtain ⟨c, p1⟩ := v
    have h1 := num_pg hp hx
    refine eb_if (fun _ => eb_l (by omega) (sk_le (f := f) hp).2) (fun _ => eb_if (fun _ => ?_) (fun _ => eb_r))
    cases hy : pz_cond f n N a c (pz_te f n (pz_sk f n p1)) with
    | inl e => intro e' h; cases h; exact cond_eb (tes h1.2).2 e hy
    | inr u => exact eb_r
theorem rule_eb {N p : Nat} {fl : Bool} (hp : p ≤ n) : pz_eb n (pz_rule f n N fl p) := by
  unfold pz_rule
  cases hx : pz_num f n 0 N p with
  | inl e => intro e' h; cases h; exact num_eb hp e hx
  | inr v =>
    obtain ⟨c, p1⟩ := v
    have h1 := num_pg hp hx
    have h2 := (tes (f := f) h1.2).2
    exact eb_if (fun _ => eb_l (by omega) (sk_le (f := f) hp).2) (fun _ => eb_if (fun _ => rule2_eb h2) (fun _ => eb_if (fun _ => rule2_eb h2) (fun _ => eb_if (fun _ => rule2_eb h2) (fun _ => eb_l (by omega) (sk_le (f := f) h1.2).2))))
theorem rt_eb {N : Nat} : ∀ (m set p : Nat), p ≤ n → pz_eb n (pz_rt f n N m set p)
  | 0, set, p, _ => eb_r
  | m + 1, set, p, hp => by
    unfold pz_rt
    cases hx : pz_num f n 0 N p with
    | inl e => intro e' h; cases h; exact num_eb hp e hx
    | inr v =>
      obtain ⟨c, p1⟩ := v
      have h1 := num_pg hp hx
      exact eb_if (fun _ => eb_l (by omega) (sk_le (f := f) hp).2) (fun _ => eb_if (fun _ => rt_eb m _ p1 h1.2) (fun _ => eb_r))
theorem cf_eb {R p : Nat} {cf : List (Nat × Nat)} (hp : p ≤ n) : pz_eb n (pz_cf f n R cf p) := by
  unfold pz_cf
  cases hx : pz_num f n 0 R p with
  | inl e => intro e' h; cases h; exact num_eb hp e hx
  | inr v =>
    obtain ⟨a, p1⟩ := v
    have h1 := num_pg hp hx
    dsimp only
    cases hy : pz_num f n 0 R p1 with
    | inl e => intro e' h; cases h; exact num_eb h1.2 e hy
    | inr v => exact eb_if (fun _ => eb_l (by omega) (sk_le (f := f) h1.2).2) (fun _ => eb_r)
theorem st_eb {N p : Nat} {S : pz_S} (hp : p ≤ n) : pz_eb n (pz_st f n N S p) := by
  have h2 := (tes (f := f) hp).2
  have h3 := (sk_le (f := f) hp).2
  unfold pz_st
  refine eb_if (fun _ => ?_) (fun _ => eb_if (fun _ => eb_if (fun _ => eb_l (by omega) h3) (fun _ => ?_)) (fun _ => eb_if (fun _ => eb_if (fun _ => eb_l (by omega) h3) (fun _ => ?_)) (fun _ => eb_l (by omega) h3)))
  · cases hy : pz_rule f n N (decide (S.1.length = 24)) p with
    | inl e => intro e' h; cases h; exact rule_eb hp e hy
    | inr v => exact eb_r
  · cases hy : pz_rt f n N 13 0 (pz_te f n (pz_sk f n p)) with
    | inl e => intro e' h; cases h; exact rt_eb _ _ _ h2 e hy
    | inr v => exact eb_r
  · cases hy : pz_cf f n S.2.1.length S.2.2 (pz_te f n (pz_sk f n p)) with
    | inl e => intro e' h; cases h; exact cf_eb h2 e hy
    | inr v => exact eb_r
theorem lp_eb {N : Nat} : ∀ (m : Nat) (S : pz_S) (p : Nat), p ≤ n → pz_eb n (pz_lp f n N m S p)
  | 0, S, p, _ => eb_l (by omega) (Nat.zero_le _)
  | m + 1, S, p, hp => by
    unfold pz_lp
    refine eb_if (fun _ => ?_) (fun _ => eb_r)
    cases hy : pz_st f n N S p with
    | inl e => intro e' h; cases h; exact st_eb hp e hy
    | inr v =>
      obtain ⟨S1, p1⟩ := v
      have h1 := st_pg hp hy
      exact eb_if (fun hc => lp_eb m S1 _ (sc_lt hc)) (fun _ => eb_l (by omega) (sk_le (f := f) h1.2).2)
theorem all_eb : pz_eb n (pz_all f n) := by
  have h0 : (0 : Nat) ≤ n := Nat.zero_le _
  have h2 := (tes (f := f) h0).2
  unfold pz_all
  refine eb_if (fun _ => ?_) (fun _ => eb_l (by omega) (sk_le (f := f) h0).2)
  cases hx : pz_num f n 2 13 (pz_te f n (pz_sk f n 0)) with
  | inl e => intro e' h; cases h; exact num_eb h2 e hx
  | inr v =>
    obtain ⟨N, p1⟩ := v
    have h1 := num_pg h2 hx
    refine eb_if (fun hc => ?_) (fun _ => eb_l (by omega) (sk_le (f := f) h1.2).2)
    cases hy : pz_lp f n N 1000 ([], [], []) (pz_sk f n p1 + 1) with
    | inl e => intro e' h; cases h; exact lp_eb _ _ _ (sc_lt hc) e hy
    | inr v => exact eb_r
end PEB
