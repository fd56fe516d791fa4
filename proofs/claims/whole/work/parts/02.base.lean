/-! the abstract heap: ints and longs by cell and place; a layout: cells, slots, shapes (0 ints, 1 longs, t+2 an object of class t; length), references -/
abbrev ja_S : Type := (Nat → Nat → Int32) × (Nat → Nat → Int64)
abbrev ja_L : Type := Nat × Nat × (Nat → Nat × Nat) × (Nat → Nat → Option Nat)
abbrev ja_Z : Type := Option Value × ja_L × ja_S
def ja_cv (ad : Nat → Nat) (v : Value) : Value := match v with
  | .ref k => .ref (ad k)
  | w => w
def ja_cl (ad : Nat → Nat) (l : List (Nat × Value)) : List (Nat × Value) := l.map (fun q => (q.1, ja_cv ad q.2))
/-- which fields of a class are references -/
def ja_kd (t : Nat) : List Bool := match t with
  | 0 => [false, false, false, false, true, true, true]
  | 1 => [false, true, true, false]
  | 2 => [true, true]
  | 3 => [false, true, true, false]
  | 4 => [true, false, false, true, true]
  | 5 => [false, false, true, false, true, false, true, true, false]
  | 6 => [false, false, true, false, false, false, false]
  | 7 => [true, false, true, true, true, true, false, true, false, true, true, false]
  | _ => [false, false, false, true, true, true, true, true, false, false, true, false, false, false, false, false, false, false, false, false, false, true, true, true, true, true, true, false, false, false, true, true, false, true, false, true, false, false, false, true, true, false]
def ja_fl (Λ : ja_L) (σ : ja_S) (ad : Nat → Nat) (k t : Nat) : List Value := (List.range (ja_kd t).length).map (fun j => if (ja_kd t).getD j false = true then va_rf ((Λ.2.2.2 k j).map ad) else .int (σ.1 k j))
def ja_ce (cI cJ : ClassId) (Λ : ja_L) (σ : ja_S) (ad : Nat → Nat) (k : Nat) : va_E := match Λ.2.2.1 k with
  | (0, n) => .inl (cI, n, .inl (σ.1 k))
  | (1, n) => .inl (cJ, n, .inr (.inl (σ.2 k)))
  | (t + 2, _) => .inr (t, ja_fl Λ σ ad k t)
def ja_wl (cI cJ : ClassId) (Λ : ja_L) (σ : ja_S) (ad : Nat → Nat) : va_W := (List.range Λ.1).map (fun k => (ad k, ja_ce cI cJ Λ σ ad k))
theorem ja_wl_at {cI cJ : ClassId} {Λ : ja_L} {σ : ja_S} {ad : Nat → Nat} {k : Nat} (h : k < Λ.1) : (ja_wl cI cJ Λ σ ad)[k]? = some (ad k, ja_ce cI cJ Λ σ ad k) := by
  simp [ja_wl, h]
theorem ja_wl_set {cI cJ : ClassId} {Λ Λ' : ja_L} {σ σ' : ja_S} {ad : Nat → Nat} {k : Nat} {e : va_E} (hn : Λ'.1 = Λ.1) (he : ja_ce cI cJ Λ' σ' ad k = e) (ho : ∀ j, j ≠ k → ja_ce cI cJ Λ' σ' ad j = ja_ce cI cJ Λ σ ad j) : (ja_wl cI cJ Λ σ ad).set k (ad k, e) = ja_wl cI cJ Λ' σ' ad := by
  apply List.ext_getElem?
  intro i
  by_cases hi : i < Λ.1
  · rw [ja_wl_at (by omega)]
    by_cases hk : k = i
    · subst hk
      rw [List.getElem?_set_self (by simp [ja_wl, hi]), he]
    · rw [List.getElem?_set_ne hk, ja_wl_at hi, ho i (Ne.symm hk)]
  · rw [List.getElem?_eq_none (by simp [ja_wl]; omega), List.getElem?_eq_none (by simp [ja_wl]; omega)]
theorem ja_wl_push {cI cJ : ClassId} {Λ Λ' : ja_L} {σ σ' : ja_S} {ad ad' : Nat → Nat} {q : Nat} {e : va_E} (hn : Λ'.1 = Λ.1 + 1) (hq : ad' Λ.1 = q) (he : ja_ce cI cJ Λ' σ' ad' Λ.1 = e) (ha : ∀ j, j < Λ.1 → ad' j = ad j) (ho : ∀ j, j < Λ.1 → ja_ce cI cJ Λ' σ' ad' j = ja_ce cI cJ Λ σ ad j) : ja_wl cI cJ Λ σ ad ++ [(q, e)] = ja_wl cI cJ Λ' σ' ad' := by
  unfold ja_wl
  rw [hn, List.range_succ, List.map_append, List.map_singleton, hq, he]
  congr 1
  apply List.map_congr_left
  intro j hj
  have hj' : j < Λ.1 := List.mem_range.mp hj
  rw [ha j hj', ho j hj']
def ja_si (σ : ja_S) (k j : Nat) (v : Int32) : ja_S := (va_up σ.1 k (upd (σ.1 k) j v), σ.2)
def ja_sl (σ : ja_S) (k j : Nat) (v : Int64) : ja_S := (σ.1, va_up σ.2 k (vp_updL (σ.2 k) j v))
theorem ja_ce_i {cI cJ : ClassId} {Λ : ja_L} {σ : ja_S} {ad : Nat → Nat} {k : Nat} (h : (Λ.2.2.1 k).1 = 0) : ja_ce cI cJ Λ σ ad k = .inl (cI, (Λ.2.2.1 k).2, .inl (σ.1 k)) := by
  unfold ja_ce
  generalize Λ.2.2.1 k = q at h ⊢
  obtain ⟨a, b⟩ := q
  cases h
  rfl
theorem ja_ce_l {cI cJ : ClassId} {Λ : ja_L} {σ : ja_S} {ad : Nat → Nat} {k : Nat} (h : (Λ.2.2.1 k).1 = 1) : ja_ce cI cJ Λ σ ad k = .inl (cJ, (Λ.2.2.1 k).2, .inr (.inl (σ.2 k))) := by
  unfold ja_ce
  generalize Λ.2.2.1 k = q at h ⊢
  obtain ⟨a, b⟩ := q
  cases h
  rfl
theorem ja_ce_o {cI cJ : ClassId} {Λ : ja_L} {σ : ja_S} {ad : Nat → Nat} {k t : Nat} (h : (Λ.2.2.1 k).1 = t + 2) : ja_ce cI cJ Λ σ ad k = .inr (t, ja_fl Λ σ ad k t) := by
  unfold ja_ce
  generalize Λ.2.2.1 k = q at h ⊢
  obtain ⟨a, b⟩ := q
  cases h
  rfl
theorem ja_fl_at {Λ : ja_L} {σ : ja_S} {ad : Nat → Nat} {k t j : Nat} (h : j < (ja_kd t).length) : (ja_fl Λ σ ad k t)[j]? = some (if (ja_kd t).getD j false = true then va_rf ((Λ.2.2.2 k j).map ad) else .int (σ.1 k j)) := by
  simp [ja_fl, h]
theorem ja_fl_len {Λ : ja_L} {σ : ja_S} {ad : Nat → Nat} {k t : Nat} : (ja_fl Λ σ ad k t).length = (ja_kd t).length := by simp [ja_fl]
theorem ja_fl_set {Λ Λ' : ja_L} {σ σ' : ja_S} {ad : Nat → Nat} {k t j : Nat} {v : Value} (hv : (if (ja_kd t).getD j false = true then va_rf ((Λ'.2.2.2 k j).map ad) else .int (σ'.1 k j)) = v) (ho : ∀ i, i ≠ j → Λ'.2.2.2 k i = Λ.2.2.2 k i ∧ σ'.1 k i = σ.1 k i) : (ja_fl Λ σ ad k t).set j v = ja_fl Λ' σ' ad k t := by
  apply List.ext_getElem?
  intro i
  by_cases hi : i < (ja_kd t).length
  · rw [ja_fl_at hi]
    by_cases hk : j = i
    · subst hk
      rw [List.getElem?_set_self (by rw [ja_fl_len]; exact hi), hv]
    · rw [List.getElem?_set_ne hk, ja_fl_at hi, (ho i (Ne.symm hk)).1, (ho i (Ne.symm hk)).2]
  · rw [List.getElem?_eq_none (by rw [List.length_set, ja_fl_len]; omega), List.getElem?_eq_none (by rw [ja_fl_len]; omega)]
theorem ja_cat (ad : Nat → Nat) (v : Value) : (ja_cv ad v).category = v.category := by cases v <;> rfl
theorem ja_cats (ad : Nat → Nat) (st : List Value) : ((st.map (ja_cv ad)).map fun v => v.category).sum = (st.map fun v => v.category).sum := by
  induction st with
  | nil => rfl
  | cons a l ih => simp only [List.map_cons, List.sum_cons, ja_cat, ih]
theorem ja_cl_f1 (ad : Nat → Nat) (l : List (Nat × Value)) (i : Nat) : (ja_cl ad l).filter (fun q => !(q.1 == i) && !(q.1 + 1 == i && q.2.category == 2)) = ja_cl ad (l.filter (fun q => !(q.1 == i) && !(q.1 + 1 == i && q.2.category == 2))) := by
  unfold ja_cl
  rw [List.filter_map]
  congr 1
  apply List.filter_congr
  intro q _
  simp [ja_cat]
theorem ja_cl_f2 (ad : Nat → Nat) (l : List (Nat × Value)) (i : Nat) : (ja_cl ad l).filter (fun q => !(q.1 == i) && (!(q.1 == i + 1) && !(q.1 + 1 == i && q.2.category == 2))) = ja_cl ad (l.filter (fun q => !(q.1 == i) && (!(q.1 == i + 1) && !(q.1 + 1 == i && q.2.category == 2)))) := by
  unfold ja_cl
  rw [List.filter_map]
  congr 1
  apply List.filter_congr
  intro q _
  simp [ja_cat]
theorem ja_cl_at {ad : Nat → Nat} {l : List (Nat × Value)} {k i : Nat} {v : Value} (h : l[k]? = some (i, v)) : (ja_cl ad l)[k]? = some (i, ja_cv ad v) := by
  simp [ja_cl, h]
