/-! the abstract frame: what both sides hold -/
/-- a rule: kind, lever A, lever B, condition + 1 -/
abbrev am_R : Type := Nat × Nat × Nat × Nat
/-- levers, rules, routes, conflicts, current state, what can be undone (the latest first: rules and state before), buffer, error code, error place -/
abbrev am_A : Type := Nat × List am_R × List Nat × List (Nat × Nat) × Nat × List (List am_R × Nat) × List Nat × Nat × Option Nat
def am_pk (r : am_R) : Nat := 65536 * r.1 + (4096 * r.2.1 + (256 * r.2.2.1 + r.2.2.2))
def am_rok (n : Nat) (r : am_R) : Prop := r.1 < 3 ∧ r.2.1 < n ∧ r.2.2.1 < n ∧ r.2.1 ≠ r.2.2.1 ∧ (r.2.2.2 = 0 ∨ ((r.2.2.2 - 1) / 2 < n ∧ (r.2.2.2 - 1) / 2 ≠ r.2.1 ∧ (r.2.2.2 - 1) / 2 ≠ r.2.2.1))
def am_ok (A : am_A) : Prop := 2 ≤ A.1 ∧ A.1 ≤ 12 ∧ A.2.1.length ≤ 24 ∧ (∀ r ∈ A.2.1, am_rok A.1 r) ∧ A.2.2.1.length ≤ 8 ∧ (∀ r ∈ A.2.2.1, 0 < r ∧ r < 2 ^ A.1) ∧ A.2.2.2.1.length ≤ 8 ∧ (∀ q ∈ A.2.2.2.1, q.1 < A.2.2.1.length ∧ q.2 < A.2.2.1.length ∧ q.1 ≠ q.2) ∧ A.2.2.2.2.1 < 2 ^ A.1 ∧ A.2.2.2.2.2.1.length ≤ 12 ∧ (∀ q ∈ A.2.2.2.2.2.1, q.1.length ≤ 24 ∧ (∀ r ∈ q.1, am_rok A.1 r) ∧ q.2 < 2 ^ A.1) ∧ A.2.2.2.2.2.2.1.length ≤ 900 ∧ A.2.2.2.2.2.2.1.length % 20 = 0 ∧ (∀ b ∈ A.2.2.2.2.2.2.1, b < 256) ∧ A.2.2.2.2.2.2.2.1 ≤ 4 ∧ (∀ o ∈ A.2.2.2.2.2.2.2.2, o ≤ 900)
/-- a number or -1 -/
def am_io (o : Option Nat) : Int32 := match o with
  | none => -1
  | some k => nI k
/-- a condition + 1 as the reference keeps it -/
def am_cd (c : Nat) : Int32 := nI c - 1
/-- a row of the heap holds these -/
def am_row (f : Nat → Int32) (l : List Nat) : Prop := ∀ i, i < l.length → f i = nI (l.getD i 0)
/-- a sheet of the class, at cell k, with rows at k+1 .. k+4 -/
def am_sh (σ : ja_S) (k n m : Nat) (rs : List Nat) (ro : List Nat) (cf : List (Nat × Nat)) : Prop := σ.1 k 0 = nI n ∧ σ.1 k 1 = nI m ∧ σ.1 k 3 = nI rs.length ∧ σ.1 k 5 = nI ro.length ∧ σ.1 k 8 = nI cf.length ∧ am_row (σ.1 (k + 1)) rs ∧ am_row (σ.1 (k + 2)) ro ∧ am_row (σ.1 (k + 3)) (cf.map (fun q => q.1)) ∧ am_row (σ.1 (k + 4)) (cf.map (fun q => q.2))
/-- what a remembered call did: from the older to the newer -/
def am_dd (d : Nat × Nat × Nat) (old new : List am_R × Nat) : Prop := (d.1 = 0 ∧ new.1 = old.1 ∧ d.2.1 < 12 ∧ new.2 = old.2 ^^^ 2 ^ d.2.1) ∨ (d.1 = 1 ∧ new.2 = old.2 ∧ d.2.1 = old.1.length ∧ ∃ r, new.1 = old.1 ++ [r] ∧ d.2.2 = am_pk r) ∨ (d.1 = 2 ∧ new.2 = old.2 ∧ d.2.1 < old.1.length ∧ new.1 = old.1.eraseIdx d.2.1 ∧ ∃ r, old.1[d.2.1]? = some r ∧ d.2.2 = am_pk r)
/-- the remembered calls, the latest first -/
def am_hist : List (Nat × Nat × Nat) → List am_R × Nat → List (List am_R × Nat) → Prop
  | [], _, [] => True
  | d :: ds, now, o :: os => am_dd d o now ∧ am_hist ds o os
  | _, _, _ => False
/-- the class: buffer, parser, sheet, history, state -/
def am_C (A : am_A) (σ : ja_S) : Prop := σ.1 1 6 = nI A.2.2.2.2.2.2.1.length ∧ am_row (σ.1 2) A.2.2.2.2.2.2.1 ∧ σ.1 1 0 = nI A.2.2.2.2.2.2.2.1 ∧ σ.1 1 1 = am_io A.2.2.2.2.2.2.2.2 ∧ am_sh σ 3 A.1 0 (A.2.1.map am_pk) A.2.2.1 A.2.2.2.1 ∧ σ.1 0 6 = nI A.2.2.2.2.1 ∧ ∃ ds : List (Nat × Nat × Nat), ds.length = A.2.2.2.2.2.1.length ∧ am_hist ds (A.2.1, A.2.2.2.2.1) A.2.2.2.2.2.1 ∧ σ.1 13 0 = nI ds.length ∧ ∀ i, i < ds.length → σ.1 14 i = nI (ds.getD (ds.length - 1 - i) (0, 0, 0)).1 ∧ σ.1 15 i = nI (ds.getD (ds.length - 1 - i) (0, 0, 0)).2.1 ∧ σ.1 16 i = nI (ds.getD (ds.length - 1 - i) (0, 0, 0)).2.2
/-- four numbers a rule, from place p on -/
def am_r4 (f : Nat → Int32) (p : Nat) (rs : List am_R) : Prop := ∀ i, i < rs.length → f (p + 4 * i) = nI (rs.getD i (0, 0, 0, 0)).1 ∧ f (p + 4 * i + 1) = nI (rs.getD i (0, 0, 0, 0)).2.1 ∧ f (p + 4 * i + 2) = nI (rs.getD i (0, 0, 0, 0)).2.2.1 ∧ f (p + 4 * i + 3) = am_cd (rs.getD i (0, 0, 0, 0)).2.2.2
/-- rules and state in a row of 98 -/
def am_s (f : Nat → Int32) (p : Nat) (q : List am_R × Nat) : Prop := f p = nI q.1.length ∧ f (p + 1) = nI q.2 ∧ am_r4 f (p + 2) q.1
/-- the reference -/
def am_M (A : am_A) (σ : ja_S) : Prop := σ.1 45 0 = nI A.1 ∧ σ.1 45 1 = nI A.2.2.1.length ∧ σ.1 45 2 = nI A.2.2.2.1.length ∧ am_s (σ.1 46) 0 (A.2.1, A.2.2.2.2.1) ∧ σ.1 45 8 = nI A.2.2.2.2.2.1.length ∧ (∀ i, i < A.2.2.2.2.2.1.length → am_s (σ.1 47) (98 * i) (A.2.2.2.2.2.1.getD (A.2.2.2.2.2.1.length - 1 - i) ([], 0))) ∧ am_row (σ.1 48) A.2.2.1 ∧ am_row (σ.1 49) (A.2.2.2.1.map (fun q => q.1)) ∧ am_row (σ.1 50) (A.2.2.2.1.map (fun q => q.2)) ∧ σ.1 45 11 = nI A.2.2.2.2.2.2.1.length ∧ am_row (σ.1 51) A.2.2.2.2.2.2.1 ∧ σ.1 45 14 = nI A.2.2.2.2.2.2.2.1 ∧ σ.1 45 15 = am_io A.2.2.2.2.2.2.2.2 ∧ σ.1 45 36 = 0
theorem am_C_ch {A : am_A} {σ σ' : ja_S} (h : am_C A σ) (hc : ∀ k, k < 45 → σ'.1 k = σ.1 k) : am_C A σ' := by
  unfold am_C am_sh at h ⊢
  rw [hc 0 (by omega), hc 1 (by omega), hc 2 (by omega), hc 3 (by omega), hc 13 (by omega), hc 14 (by omega), hc 15 (by omega), hc 16 (by omega), hc (3 + 1) (by omega), hc (3 + 2) (by omega), hc (3 + 3) (by omega), hc (3 + 4) (by omega)]
  exact h
theorem am_M_ch {A : am_A} {σ σ' : ja_S} (h : am_M A σ) (hc : ∀ k, 45 ≤ k → σ'.1 k = σ.1 k) : am_M A σ' := by
  unfold am_M at h ⊢
  rw [hc 45 (by omega), hc 46 (by omega), hc 47 (by omega), hc 48 (by omega), hc 49 (by omega), hc 50 (by omega), hc 51 (by omega)]
  exact h
/-- thrown := 0 changes nothing that counts -/
theorem am_M_th {A : am_A} {σ : ja_S} {v : Int32} (h : am_M A σ) : am_M A (ja_si σ 45 9 v) := by
  unfold am_M at h ⊢
  rw [si_row (a := 46) (by omega), si_row (a := 47) (by omega), si_row (a := 48) (by omega), si_row (a := 49) (by omega), si_row (a := 50) (by omega), si_row (a := 51) (by omega)]
  simp only [si_at]
  exact h
theorem am_row_at {f : Nat → Int32} {l : List Nat} (h : am_row f l) {i : Nat} (hi : i < l.length) : f i = nI (l.getD i 0) := h i hi
/-- what a call that only asks must show -/
def am_ask (A : am_A) (n : Nat) (a : Nat → Int32) (σ : ja_S) : Prop := ∃ σ2, ja_case n a σ = some σ2 ∧ am_M A σ2 ∧ ∀ k, k < 45 → σ2.1 k = σ.1 k ∧ σ2.2 k = σ.2 k
theorem am_asked {A : am_A} {n : Nat} {a : Nat → Int32} {σ : ja_S} (hM : am_M A σ) (h : ja_case n a σ = some (ja_si σ 45 9 0)) : am_ask A n a σ := ⟨_, h, am_M_th hM, fun k hk => ⟨si_row (by omega), rfl⟩⟩
theorem case_2 {A : am_A} {a : Nat → Int32} {σ : ja_S} (hC : am_C A σ) (hM : am_M A σ) : am_ask A 2 a σ := by
  refine am_asked hM ?_
  have e1 : σ.1 1 0 = nI A.2.2.2.2.2.2.2.1 := hC.2.2.1
  have e2 : σ.1 45 14 = nI A.2.2.2.2.2.2.2.1 := hM.2.2.2.2.2.2.2.2.2.2.2.1
  simp only [ja_case, f_Frame_parseError, f_Model_parseError, ja_pu, Option.bind_some, show ja_q 0 2 = 1 from rfl, si_at]
  simp [e1, e2]
