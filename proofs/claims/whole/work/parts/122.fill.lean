def f_Arrays_fillG_L5 (Λ : ja_L)  : Nat → Nat → Int32 → Int32 → Int32 → ja_S → Option (ja_S)
  | 0, _, _, _, _, _ => none
  | n + 1, x0, x1, x2, x3, sg => (if x3 ≤ x2 then some sg else (ja_st Λ sg x0 x2 x1).bind fun s1 => f_Arrays_fillG_L5 Λ  n x0 x1 (x2 + 1) x3 s1)
set_option maxRecDepth 4000 in
theorem w_Arrays_fillG_L5 (Λ : ja_L) (C : ja_C) {w : ja_S}    (n : Nat) : ∀ (x0 : Nat) (x1 : Int32) (x2 : Int32) (x3 : Int32) (sg : ja_S), ja_ai Λ x0 → f_Arrays_fillG_L5 Λ  n x0 x1 x2 x3 sg = some w → ja_J M_Arrays_fillI C 5 [(0, .ref x0), (1, .int x1), (2, .int x2), (3, .int x3)] [] Λ sg (none, Λ, w) := by
  induction n with
  | zero => intro _ _ _ _ _ _ hf; exact absurd (show (none : Option _) = some w from hf) (by simp)
  | succ n ih =>
    intro x0 x1 x2 x3 sg h0 hf
    unfold f_Arrays_fillG_L5 at hf
    refine ja_iload_n (pc := 5) (f := 2) (i := 2) 2 (by decide +kernel) rfl rfl ?_
    refine ja_iload_n (pc := 6) (f := 3) (i := 3) 3 (by decide +kernel) rfl rfl ?_
    refine ja_icmp_ge (pc := 7) (off := 13) 20 (by decide +kernel) (by decide) hf (fun hf => ?_) (fun hf => ?_)
    · exact ja_ret (pc := 20) none .return_ (by decide +kernel) rfl (by cases hf; rfl)
    · refine ja_aload_n (pc := 10) (f := 0) (i := 0) 0 (by decide +kernel) rfl rfl ?_
      refine ja_iload_n (pc := 11) (f := 2) (i := 2) 2 (by decide +kernel) rfl rfl ?_
      refine ja_iload_n (pc := 12) (f := 1) (i := 1) 1 (by decide +kernel) rfl rfl ?_
      refine ja_bind hf (fun s1 hs1 hf => ?_)
      refine ja_iast (pc := 13) (by decide +kernel) h0 hs1 ?_
      refine ja_iinc (pc := 14) (i := 2) (n := 1) (v := x2 + 1) (lv' := [(2, .int (x2 + 1)), (0, .ref x0), (1, .int x1), (3, .int x3)]) 2 (by decide +kernel) rfl rfl (by decide) rfl ?_
      refine ja_goto (pc := 17) (off := (-12)) 5 (by decide +kernel) (by decide) ?_
      refine ja_lv [1, 2, 0, 3] rfl ?_
      exact ih x0 x1 (x2 + 1) x3 s1 h0 hf
def f_Arrays_fillG (Λ : ja_L) (x0 : Nat) (x1 : Int32) (sg : ja_S) : Option (ja_S) := f_Arrays_fillG_L5 Λ  ja_FU x0 x1 (0 : Int32) (Int32.ofNat (ja_len Λ x0)) sg
set_option maxRecDepth 4000 in
theorem c_Arrays_fillG (Λ : ja_L) (l : Launch) (x : ja_X) (x0 : Nat) (x1 : Int32) {sg : ja_S} {w : ja_S} (h0 : ja_ai Λ x0) (hf : f_Arrays_fillG Λ x0 x1 sg = some w) : ja_Ct l x y_Arrays_fillI M_Arrays_fillI [.ref x0, .int x1] Λ sg (none, Λ, w) := by
  refine ja_mk ⟨by decide, rfl, rfl⟩ (Nat.le_of_ble_eq_true rfl) (lv := [(0, .ref x0), (1, .int x1)]) rfl (fun C hl hx _ _ _ _ => ?_)
  subst hl; subst hx
  unfold f_Arrays_fillG at hf
  refine ja_iconst (pc := 0) (n := 0) (v := 0) (by decide +kernel) (by decide +kernel) ?_
  refine ja_istore_n (pc := 1) (f := 2) (i := 2) (lv' := [(2, .int (0 : Int32)), (0, .ref x0), (1, .int x1)]) (by decide +kernel) rfl (by decide) rfl ?_
  refine ja_aload_n (pc := 2) (f := 0) (i := 0) 1 (by decide +kernel) rfl rfl ?_
  refine ja_alen (pc := 3) (by decide +kernel) (Or.inl h0) ?_
  refine ja_istore_n (pc := 4) (f := 3) (i := 3) (lv' := [(3, .int (Int32.ofNat (ja_len Λ x0))), (2, .int (0 : Int32)), (0, .ref x0), (1, .int x1)]) (by decide +kernel) rfl (by decide) rfl ?_
  refine ja_lv [2, 3, 1, 0] rfl ?_
  exact w_Arrays_fillG_L5 Λ C  ja_FU x0 x1 (0 : Int32) (Int32.ofNat (ja_len Λ x0)) sg h0 hf
/-! pure rows: indices that are natural numbers -/
theorem ja_ld_n {Λ : ja_L} {σ : ja_S} {k j : Nat} (h : j < ja_len Λ k) (hN : j < 2 ^ 31) : ja_ld Λ σ k (nI j) = some (σ.1 k j) := by
  unfold ja_ld
  rw [nI_toInt hN, if_pos (by omega)]
  rfl
theorem ja_ldl_n {Λ : ja_L} {σ : ja_S} {k j : Nat} (h : j < ja_len Λ k) (hN : j < 2 ^ 31) : ja_ldl Λ σ k (nI j) = some (σ.2 k j) := by
  unfold ja_ldl
  rw [nI_toInt hN, if_pos (by omega)]
  rfl
theorem ja_st_n {Λ : ja_L} {σ : ja_S} {k j : Nat} {v : Int32} (h : j < ja_len Λ k) (hN : j < 2 ^ 31) : ja_st Λ σ k (nI j) v = some (ja_si σ k j v) := by
  unfold ja_st
  rw [nI_toInt hN, if_pos (by omega)]
  rfl
theorem ja_stl_n {Λ : ja_L} {σ : ja_S} {k j : Nat} {v : Int64} (h : j < ja_len Λ k) (hN : j < 2 ^ 31) : ja_stl Λ σ k (nI j) v = some (ja_sl σ k j v) := by
  unfold ja_stl
  rw [nI_toInt hN, if_pos (by omega)]
  rfl
theorem va_up_id {α : Type} (f : Nat → α) (k : Nat) : va_up f k (f k) = f := by
  funext j
  by_cases h : j = k
  · subst h; rw [va_up_self]
  · rw [va_up_ne _ _ h]
theorem va_up_up {α : Type} (f : Nat → α) (k : Nat) (a b : α) : va_up (va_up f k a) k b = va_up f k b := by
  funext j
  by_cases h : j = k
  · subst h; rw [va_up_self, va_up_self]
  · rw [va_up_ne _ _ h, va_up_ne _ _ h, va_up_ne _ _ h]
def ja_fi (σ : ja_S) (k N : Nat) (v : Int32) : ja_S := (va_up σ.1 k (fun j => if j < N then v else σ.1 k j), σ.2)
theorem fillG_loop {Λ : ja_L} {k N : Nat} {v : Int32} (hN : ja_len Λ k = N) (hN2 : N < 2 ^ 31) : ∀ (n i : Nat) (σ : ja_S), i ≤ N → N - i < n → f_Arrays_fillG_L5 Λ n k v (nI i) (nI N) σ = some (va_up σ.1 k (fun j => if i ≤ j ∧ j < N then v else σ.1 k j), σ.2) := by
  intro n
  induction n with
  | zero => intro i σ _ h; omega
  | succ n ih =>
    intro i σ hi hn
    unfold f_Arrays_fillG_L5
    by_cases h : i = N
    · subst h
      rw [if_pos (nI_le (Nat.le_refl _) hN2)]
      congr 1
      have e : (fun j => if i ≤ j ∧ j < i then v else σ.1 k j) = σ.1 k := by
        funext j
        rw [if_neg (by omega)]
      rw [e, va_up_id]
    · rw [if_neg (nI_ge (by omega) hN2), ja_st_n (by omega) (by omega)]
      show f_Arrays_fillG_L5 Λ n k v (nI i + 1) (nI N) (ja_si σ k i v) = _
      rw [nI_1, ih (i + 1) _ (by omega) (by omega)]
      congr 2
      unfold ja_si
      rw [va_up_up]
      congr 1
      funext j
      dsimp only
      rw [va_up_self]
      unfold upd
      by_cases h1 : j = i
      · subst h1
        rw [if_neg (by omega), if_pos rfl, if_pos (by omega)]
      · by_cases h2 : i + 1 ≤ j ∧ j < N
        · rw [if_pos h2, if_pos (by omega)]
        · rw [if_neg h2, if_neg h1, if_neg (by omega)]
theorem fillG_ok {Λ : ja_L} {k N : Nat} {v : Int32} {σ : ja_S} (hN : ja_len Λ k = N) (hN2 : N < 9000) : f_Arrays_fillG Λ k v σ = some (ja_fi σ k N v) := by
  unfold f_Arrays_fillG
  rw [hN]
  show f_Arrays_fillG_L5 Λ ja_FU k v (nI 0) (nI N) σ = _
  rw [fillG_loop hN (by omega) ja_FU 0 σ (by omega) (by unfold ja_FU; omega)]
  unfold ja_fi
  congr 3
  funext j
  by_cases h : j < N
  · rw [if_pos h, if_pos (by omega)]
  · rw [if_neg h, if_neg (by omega)]
