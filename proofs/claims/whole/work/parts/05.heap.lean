/-! rows of the heap -/
/-- a field: class t, place j, its type, whether it is a reference, whether final -/
def ja_fd (own : String) (idx t j : Nat) (isref fin : Bool) (ty : FieldType) : Prop := ∃ (Cn : String) (T : u_T) (NN : Nat) (ty0 : Nat → FieldType), classes[t]? = some (Cn, T, NN) ∧ (∀ w ∈ u_ws Cn T NN, w ∈ ja_tb) ∧ j < NN ∧ Cond.fieldLink own idx (T j).1 (T j).2.1 (T j).2.2.1 ∈ ja_tb ∧ (ja_kd t).getD j false = isref ∧ (ja_kd t).length = NN ∧ (∀ k, k < NN → parseFieldDescriptor (T k).2.2.1 = some (ty0 k)) ∧ (∀ a, a < NN → ∀ b, b < NN → a ≠ b → (T a).2.1 ≠ (T b).2.1) ∧ (T j).2.2.2 = fin ∧ ty0 j = ty
/-- the cell k is an object of class t; a row of ints; of longs -/
def ja_ob (Λ : ja_L) (t k : Nat) : Prop := k < Λ.1 ∧ (Λ.2.2.1 k).1 = t + 2
def ja_ai (Λ : ja_L) (k : Nat) : Prop := k < Λ.1 ∧ (Λ.2.2.1 k).1 = 0
def ja_al (Λ : ja_L) (k : Nat) : Prop := k < Λ.1 ∧ (Λ.2.2.1 k).1 = 1
def ja_len (Λ : ja_L) (k : Nat) : Nat := (Λ.2.2.1 k).2
theorem ja_wl_o {cI cJ : ClassId} {Λ : ja_L} {σ : ja_S} {ad : Nat → Nat} {k t : Nat} (hk : ja_ob Λ t k) : (ja_wl cI cJ Λ σ ad)[k]? = some (ad k, .inr (t, ja_fl Λ σ ad k t)) := by rw [ja_wl_at hk.1, ja_ce_o hk.2]
theorem ja_wl_i {cI cJ : ClassId} {Λ : ja_L} {σ : ja_S} {ad : Nat → Nat} {k : Nat} (hk : ja_ai Λ k) : (ja_wl cI cJ Λ σ ad)[k]? = some (ad k, .inl (cI, ja_len Λ k, .inl (σ.1 k))) := by rw [ja_wl_at hk.1, ja_ce_i hk.2]; rfl
theorem ja_wl_l {cI cJ : ClassId} {Λ : ja_L} {σ : ja_S} {ad : Nat → Nat} {k : Nat} (hk : ja_al Λ k) : (ja_wl cI cJ Λ σ ad)[k]? = some (ad k, .inl (cJ, ja_len Λ k, .inr (.inl (σ.2 k)))) := by rw [ja_wl_at hk.1, ja_ce_l hk.2]; rfl
def ja_ld (Λ : ja_L) (σ : ja_S) (k : Nat) (i : Int32) : Option Int32 := if 0 ≤ i.toInt ∧ i.toInt < ja_len Λ k then some (σ.1 k i.toInt.toNat) else none
def ja_ldl (Λ : ja_L) (σ : ja_S) (k : Nat) (i : Int32) : Option Int64 := if 0 ≤ i.toInt ∧ i.toInt < ja_len Λ k then some (σ.2 k i.toInt.toNat) else none
def ja_st (Λ : ja_L) (σ : ja_S) (k : Nat) (i : Int32) (v : Int32) : Option ja_S := if 0 ≤ i.toInt ∧ i.toInt < ja_len Λ k then some (ja_si σ k i.toInt.toNat v) else none
def ja_stl (Λ : ja_L) (σ : ja_S) (k : Nat) (i : Int32) (v : Int64) : Option ja_S := if 0 ≤ i.toInt ∧ i.toInt < ja_len Λ k then some (ja_sl σ k i.toInt.toNat v) else none
def ja_ldt (i : Int32) : Option Int64 := if 0 ≤ i.toInt ∧ i.toInt < 6 then some (ja_rv i.toInt.toNat) else none
def ja_cpi (Λ : ja_L) (σ : ja_S) (a : Nat) (sp : Int32) (b : Nat) (dp n : Int32) : Option ja_S := if 0 ≤ sp.toInt ∧ 0 ≤ dp.toInt ∧ 0 ≤ n.toInt ∧ sp.toInt + n.toInt ≤ ja_len Λ a ∧ dp.toInt + n.toInt ≤ ja_len Λ b then some (va_up σ.1 b (va_cpy (σ.1 a) (σ.1 b) sp.toInt.toNat dp.toInt.toNat n.toInt.toNat), σ.2) else none
def ja_cpl (Λ : ja_L) (σ : ja_S) (a : Nat) (sp : Int32) (b : Nat) (dp n : Int32) : Option ja_S := if 0 ≤ sp.toInt ∧ 0 ≤ dp.toInt ∧ 0 ≤ n.toInt ∧ sp.toInt + n.toInt ≤ ja_len Λ a ∧ dp.toInt + n.toInt ≤ ja_len Λ b then some (σ.1, va_up σ.2 b (va_cpy (σ.2 a) (σ.2 b) sp.toInt.toNat dp.toInt.toNat n.toInt.toNat)) else none
theorem ja_ite {α : Type} {p : Prop} {_ : Decidable p} {a b : α} (h : (if p then some a else none) = some b) : p ∧ a = b := by
  by_cases hp : p
  · rw [if_pos hp] at h
    exact ⟨hp, Option.some.inj h⟩
  · rw [if_neg hp] at h
    cases h
theorem ja_vp {i : Int32} {n : Nat} (h : 0 ≤ i.toInt ∧ i.toInt < n) : vp_in i n := vp_in_iff.mpr h
theorem ja_nn {z : Int32} (h : 0 ≤ z.toInt) : ¬ z < 0 := by
  intro q
  have := Int32.lt_iff_toInt_lt.mp q
  rw [Int32.toInt_zero] at this
  omega
section JH
variable {M : ja_M} {C : ja_C} {pc : Nat} {lv : List (Nat × Value)} {st : List Value} {Λ : ja_L} {σ : ja_S} {zz : ja_Z}
theorem ja_geti {idx t j k : Nat} {fin : Bool} {ty : FieldType} (hd : decode M.1 pc = .ok (.getfield idx, 3)) (hF : ja_fd M.2.2.1 idx t j false fin ty) (hk : ja_ob Λ t k) (kk : ja_J M C (pc + 3) lv (.int (σ.1 k j) :: st) Λ σ zz) : ja_J M C pc lv (.ref k :: st) Λ σ zz := by
  obtain ⟨⟨p, l, e, R, s, m, args, below, meth, c⟩, ⟨D, cI, cJ⟩, ⟨ad0, n0, sl0, MC, MS, A⟩, Qf, L, xs⟩ := C
  intro ok ad H locs ls iv hl
  obtain ⟨Cn, T, NN, ty0, h1, h2, h3, h4, h5, h6, -⟩ := hF
  exact va_get (rest := st.map (ja_cv ad)) ok.1.1 ok.1.2.1 ok.1.2.2.2.2 h2 ok.1.2.2.2.1 ok.2.1 iv.1 k (ja_wl_o hk) h1 j h3 (ok.1.2.2.2.2 _ h4) (fun _ h => h) ((ja_fl_at (by omega)).trans (by rw [h5]; rfl)) hd (kk ok ad H locs ls iv hl)
theorem ja_getr {idx t j k k' : Nat} {fin : Bool} {ty : FieldType} (hd : decode M.1 pc = .ok (.getfield idx, 3)) (hF : ja_fd M.2.2.1 idx t j true fin ty) (hk : ja_ob Λ t k) (hr : Λ.2.2.2 k j = some k') (kk : ja_J M C (pc + 3) lv (.ref k' :: st) Λ σ zz) : ja_J M C pc lv (.ref k :: st) Λ σ zz := by
  obtain ⟨⟨p, l, e, R, s, m, args, below, meth, c⟩, ⟨D, cI, cJ⟩, ⟨ad0, n0, sl0, MC, MS, A⟩, Qf, L, xs⟩ := C
  intro ok ad H locs ls iv hl
  obtain ⟨Cn, T, NN, ty0, h1, h2, h3, h4, h5, h6, -⟩ := hF
  exact va_get (rest := st.map (ja_cv ad)) ok.1.1 ok.1.2.1 ok.1.2.2.2.2 h2 ok.1.2.2.2.1 ok.2.1 iv.1 k (ja_wl_o hk) h1 j h3 (ok.1.2.2.2.2 _ h4) (fun _ h => h) ((ja_fl_at (by omega)).trans (by rw [h5, hr]; rfl)) hd (kk ok ad H locs ls iv hl)
theorem ja_ce_si {cI cJ : ClassId} {Λ : ja_L} {σ : ja_S} {ad : Nat → Nat} {k j : Nat} {v : Int32} : ∀ i, i ≠ k → ja_ce cI cJ Λ (ja_si σ k j v) ad i = ja_ce cI cJ Λ σ ad i := by
  intro i hi
  have e : (ja_si σ k j v).1 i = σ.1 i := va_up_ne _ _ hi
  unfold ja_ce
  rw [e, show (ja_si σ k j v).2 = σ.2 from rfl]
  split <;> (try rfl)
  unfold ja_fl
  rw [e]
theorem ja_ce_sl {cI cJ : ClassId} {Λ : ja_L} {σ : ja_S} {ad : Nat → Nat} {k j : Nat} {v : Int64} : ∀ i, i ≠ k → ja_ce cI cJ Λ (ja_sl σ k j v) ad i = ja_ce cI cJ Λ σ ad i := by
  intro i hi
  have e : (ja_sl σ k j v).2 i = σ.2 i := va_up_ne _ _ hi
  unfold ja_ce
  rw [e, show (ja_sl σ k j v).1 = σ.1 from rfl]
  rfl
theorem ja_puti {idx t j k : Nat} {v : Int32} {ty : FieldType} (hd : decode M.1 pc = .ok (.putfield idx, 3)) (hF : ja_fd M.2.2.1 idx t j false false ty) (hk : ja_ob Λ t k) (hv : narrow ty (.int v) = .int v ∧ fits ty (.int v) = true) (kk : ja_J M C (pc + 3) lv st Λ (ja_si σ k j v) zz) : ja_J M C pc lv (.int v :: .ref k :: st) Λ σ zz := by
  obtain ⟨⟨p, l, e, R, s, m, args, below, meth, c⟩, ⟨D, cI, cJ⟩, ⟨ad0, n0, sl0, MC, MS, A⟩, Qf, L, xs⟩ := C
  intro ok ad H locs ls iv hl
  obtain ⟨Cn, T, NN, ty0, h1, h2, h3, h4, h5, h6, h7, h8, h9, h10⟩ := hF
  obtain ⟨iP, iD, iS, i4⟩ := iv
  refine va_put (v := .int v) (rest := st.map (ja_cv ad)) ok.1.1 ok.1.2.1 ok.1.2.2.2.2 h2 ty0 h7 h8 ok.1.2.2.2.1 ok.2.1 iP iD iS k (ja_wl_o hk) h1 j h3 (ok.1.2.2.2.2 _ h4) (fun _ h => h) h9 (ty := ty) (by rw [h7 j h3, h10]) hv.1 hv.2 (by rw [ja_fl_len]; omega) hd (fun H1 locs1 hP hD hS => ?_)
  have e : (ja_wl cI cJ Λ σ ad).set k (ad k, .inr (t, (ja_fl Λ σ ad k t).set j (.int v))) = ja_wl cI cJ Λ (ja_si σ k j v) ad := by
    refine ja_wl_set rfl ?_ ja_ce_si
    rw [ja_ce_o hk.2]
    congr 2
    refine (ja_fl_set ?_ ?_).symm
    · rw [h5]
      show Value.int (va_up σ.1 k _ k j) = _
      rw [va_up_self]
      simp [upd]
    · intro i hi
      refine ⟨rfl, ?_⟩
      show va_up σ.1 k _ k i = _
      rw [va_up_self]
      simp [upd, hi]
  rw [e] at hP hD
  exact kk ok ad H1 locs1 ls ⟨hP, hD, hS, i4⟩ hl
theorem ja_iald {k : Nat} {i v : Int32} (hd : decode M.1 pc = .ok (.iaload, 1)) (hk : ja_ai Λ k) (hv : ja_ld Λ σ k i = some v) (kk : ja_J M C (pc + 1) lv (.int v :: st) Λ σ zz) : ja_J M C pc lv (.int i :: .ref k :: st) Λ σ zz := by
  obtain ⟨⟨p, l, e, R, s, m, args, below, meth, c⟩, ⟨D, cI, cJ⟩, ⟨ad0, n0, sl0, MC, MS, A⟩, Qf, L, xs⟩ := C
  intro ok ad H locs ls iv hl
  obtain ⟨hb, rfl⟩ := ja_ite hv
  exact va_iald (rest := st.map (ja_cv ad)) ok.1.1 ok.1.2.1 ok.2.1 iv.1 k 0 (ja_wl_i hk) rfl (ja_vp hb) hd (kk ok ad H locs ls iv hl)
theorem ja_lald {k : Nat} {i : Int32} {v : Int64} (hd : decode M.1 pc = .ok (.laload, 1)) (hk : ja_al Λ k) (hv : ja_ldl Λ σ k i = some v) (kk : ja_J M C (pc + 1) lv (.long v :: st) Λ σ zz) : ja_J M C pc lv (.int i :: .ref k :: st) Λ σ zz := by
  obtain ⟨⟨p, l, e, R, s, m, args, below, meth, c⟩, ⟨D, cI, cJ⟩, ⟨ad0, n0, sl0, MC, MS, A⟩, Qf, L, xs⟩ := C
  intro ok ad H locs ls iv hl
  obtain ⟨hb, rfl⟩ := ja_ite hv
  exact va_lald (rest := st.map (ja_cv ad)) ok.1.1 ok.1.2.1 ok.2.1 iv.1 k 1 (ja_wl_l hk) rfl (ja_vp hb) hd (kk ok ad H locs ls iv hl)
theorem ja_alen {k : Nat} (hd : decode M.1 pc = .ok (.arraylength, 1)) (hk : ja_ai Λ k ∨ ja_al Λ k) (kk : ja_J M C (pc + 1) lv (.int (Int32.ofNat (ja_len Λ k)) :: st) Λ σ zz) : ja_J M C pc lv (.ref k :: st) Λ σ zz := by
  obtain ⟨⟨p, l, e, R, s, m, args, below, meth, c⟩, ⟨D, cI, cJ⟩, ⟨ad0, n0, sl0, MC, MS, A⟩, Qf, L, xs⟩ := C
  intro ok ad H locs ls iv hl
  rcases hk with hk | hk
  · exact va_alen (rest := st.map (ja_cv ad)) ok.1.1 ok.1.2.1 ok.2.1 iv.1 k 0 (ja_wl_i hk) rfl rfl hd (kk ok ad H locs ls iv hl)
  · exact va_alen (rest := st.map (ja_cv ad)) ok.1.1 ok.1.2.1 ok.2.1 iv.1 k 1 (ja_wl_l hk) rfl rfl hd (kk ok ad H locs ls iv hl)
theorem ja_iast {k : Nat} {i x : Int32} {σ' : ja_S} (hd : decode M.1 pc = .ok (.iastore, 1)) (hk : ja_ai Λ k) (hv : ja_st Λ σ k i x = some σ') (kk : ja_J M C (pc + 1) lv st Λ σ' zz) : ja_J M C pc lv (.int x :: .int i :: .ref k :: st) Λ σ zz := by
  obtain ⟨⟨p, l, e, R, s, m, args, below, meth, c⟩, ⟨D, cI, cJ⟩, ⟨ad0, n0, sl0, MC, MS, A⟩, Qf, L, xs⟩ := C
  intro ok ad H locs ls iv hl
  obtain ⟨hb, rfl⟩ := ja_ite hv
  obtain ⟨iP, iD, iS, i4⟩ := iv
  refine va_iast (rest := st.map (ja_cv ad)) ok.1.1 ok.1.2.1 ok.2.1 iP iD iS k 0 (ja_wl_i hk) rfl (ja_vp hb) hd (fun H1 locs1 hP hD hS => ?_)
  have e : (ja_wl cI cJ Λ σ ad).set k (ad k, .inl (cI, ja_len Λ k, .inl (upd (σ.1 k) i.toNatClampNeg x))) = ja_wl cI cJ Λ (ja_si σ k i.toInt.toNat x) ad := by
    refine ja_wl_set rfl ?_ ja_ce_si
    rw [ja_ce_i hk.2]
    show Sum.inl (cI, _, Sum.inl (va_up σ.1 k _ k)) = _
    rw [va_up_self]
    rfl
  rw [e] at hP hD
  exact kk ok ad H1 locs1 ls ⟨hP, hD, hS, i4⟩ hl
theorem ja_last {k : Nat} {i : Int32} {x : Int64} {σ' : ja_S} (hd : decode M.1 pc = .ok (.lastore, 1)) (hk : ja_al Λ k) (hv : ja_stl Λ σ k i x = some σ') (kk : ja_J M C (pc + 1) lv st Λ σ' zz) : ja_J M C pc lv (.long x :: .int i :: .ref k :: st) Λ σ zz := by
  obtain ⟨⟨p, l, e, R, s, m, args, below, meth, c⟩, ⟨D, cI, cJ⟩, ⟨ad0, n0, sl0, MC, MS, A⟩, Qf, L, xs⟩ := C
  intro ok ad H locs ls iv hl
  obtain ⟨hb, rfl⟩ := ja_ite hv
  obtain ⟨iP, iD, iS, i4⟩ := iv
  refine va_last (rest := st.map (ja_cv ad)) ok.1.1 ok.1.2.1 ok.2.1 iP iD iS k 1 (ja_wl_l hk) rfl (ja_vp hb) hd (fun H1 locs1 hP hD hS => ?_)
  have e : (ja_wl cI cJ Λ σ ad).set k (ad k, .inl (cJ, ja_len Λ k, .inr (.inl (vp_updL (σ.2 k) i.toNatClampNeg x)))) = ja_wl cI cJ Λ (ja_sl σ k i.toInt.toNat x) ad := by
    refine ja_wl_set rfl ?_ ja_ce_sl
    rw [ja_ce_l hk.2]
    show Sum.inl (cJ, _, Sum.inr (Sum.inl (va_up σ.2 k _ k))) = _
    rw [va_up_self]
    rfl
  rw [e] at hP hD
  exact kk ok ad H1 locs1 ls ⟨hP, hD, hS, i4⟩ hl
/-- the static table -/
theorem ja_gets {idx : Nat} (hd : decode M.1 pc = .ok (.getstatic idx, 3)) (hlink : Cond.fieldLink M.2.2.1 idx "InterlockingFrame$Locking" "REVERSED_IN_WORD" "[J" ∈ ja_tb) (kk : ja_J M C (pc + 3) lv (.ref 2000 :: st) Λ σ zz) : ja_J M C pc lv st Λ σ zz := by
  obtain ⟨⟨p, l, e, R, s, m, args, below, meth, c⟩, ⟨D, cI, cJ⟩, ⟨ad0, n0, sl0, MC, MS, A⟩, Qf, L, xs⟩ := C
  intro ok ad H locs ls iv hl
  refine va_gets (rest := st.map (ja_cv ad)) (v := .ref (ad0 2000)) ok.1.1 ok.1.2.1 ok.2.2.2.1.1 iv.2.2.1 ok.1.2.2.2.1 (ok.1.2.2.2.2 _ hlink) (fun _ h => h) hd ?_
  have hk := kk ok ad H locs ls iv hl
  rw [show ad0 2000 = ad 2000 from (iv.2.2.2.1 2000 (Or.inr (by have := iv.2.2.2.2.2.2.2.2.1; omega))).symm]
  exact hk
theorem ja_tald {i : Int32} {v : Int64} (hd : decode M.1 pc = .ok (.laload, 1)) (hv : ja_ldt i = some v) (kk : ja_J M C (pc + 1) lv (.long v :: st) Λ σ zz) : ja_J M C pc lv (.int i :: .ref 2000 :: st) Λ σ zz := by
  obtain ⟨⟨p, l, e, R, s, m, args, below, meth, c⟩, ⟨D, cI, cJ⟩, ⟨ad0, n0, sl0, MC, MS, A⟩, Qf, L, xs⟩ := C
  intro ok ad H locs ls iv hl
  obtain ⟨hb, rfl⟩ := ja_ite hv
  have hT := ok.2.2.2.1.2.1
  rw [show ad0 2000 = ad 2000 from (iv.2.2.2.1 2000 (Or.inr (by have := iv.2.2.2.2.2.2.2.2.1; omega))).symm] at hT
  exact va_tl (rest := st.map (ja_cv ad)) ok.1.1 ok.1.2.1 hT iv.2.2.1 (ja_vp hb) rfl hd (kk ok ad H locs ls iv hl)
/-- a text constant -/
theorem ja_ldcs {idx : Nat} (i : Nat) (hi : i < 11) (hd : decode M.1 pc = .ok (.ldc idx, 2)) (hr : (ja_sr i).1 = M.2.2.1 ∧ (ja_sr i).2.1 = idx) (kk : ja_J M C (pc + 2) lv (.ref (1000 + i) :: st) Λ σ zz) : ja_J M C pc lv st Λ σ zz := by
  obtain ⟨⟨p, l, e, R, s, m, args, below, meth, c⟩, ⟨D, cI, cJ⟩, ⟨ad0, n0, sl0, MC, MS, A⟩, Qf, L, xs⟩ := C
  intro ok ad H locs ls iv hl
  have hR := ok.2.2.2.1.2.2.2.2.2.1 i hi
  rw [hr.1, hr.2, show ad0 (1000 + i) = ad (1000 + i) from (iv.2.2.2.1 _ (Or.inr (by have := iv.2.2.2.2.2.2.2.2.1; omega))).symm] at hR
  exact va_ldcS (rest := st.map (ja_cv ad)) ok.1.1 ok.1.2.1 ok.1.2.2.2.1 hR hd (kk ok ad H locs ls iv hl)
theorem ja_ldc2 {idx : Nat} {v : Int64} (hd : decode M.1 pc = .ok (.ldc2_w idx, 3)) (hw : Cond.constantLong M.2.2.1 idx v ∈ ja_tb) (kk : ja_J M C (pc + 3) lv (.long v :: st) Λ σ zz) : ja_J M C pc lv st Λ σ zz := by
  obtain ⟨⟨p, l, e, R, s, m, args, below, meth, c⟩, ⟨D, cI, cJ⟩, ⟨ad0, n0, sl0, MC, MS, A⟩, Qf, L, xs⟩ := C
  intro ok ad H locs ls iv hl
  exact lv_ldc2 (rest := st.map (ja_cv ad)) ok.1.1 ok.1.2.1 ok.1.2.2.2.1 (ok.1.2.2.2.2 _ hw) hd (kk ok ad H locs ls iv hl)
theorem ja_ldcw {idx : Nat} {v : Int32} (hd : decode M.1 pc = .ok (.ldc_w idx, 3)) (hw : Cond.constant M.2.2.1 idx v ∈ ja_tb) (kk : ja_J M C (pc + 3) lv (.int v :: st) Λ σ zz) : ja_J M C pc lv st Λ σ zz := by
  obtain ⟨⟨p, l, e, R, s, m, args, below, meth, c⟩, ⟨D, cI, cJ⟩, ⟨ad0, n0, sl0, MC, MS, A⟩, Qf, L, xs⟩ := C
  intro ok ad H locs ls iv hl
  exact lv_ldcw (rest := st.map (ja_cv ad)) ok.1.1 ok.1.2.1 ok.1.2.2.2.1 (ok.1.2.2.2.2 _ hw) hd (kk ok ad H locs ls iv hl)
end JH
