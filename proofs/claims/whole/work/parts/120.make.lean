/-! rows that make cells: new, newarray, references put in constructors, calls of constructors; another name of the same layout -/
def ja_Ln (Λ : ja_L) (t NN : Nat) : ja_L := (Λ.1 + 1, Λ.2.1 + NN, va_up Λ.2.2.1 Λ.1 (t + 2, 0), va_up Λ.2.2.2 Λ.1 (fun _ => none))
def ja_La (Λ : ja_L) (tag N : Nat) : ja_L := (Λ.1 + 1, Λ.2.1 + N, va_up Λ.2.2.1 Λ.1 (tag, N), va_up Λ.2.2.2 Λ.1 (fun _ => none))
def ja_Lr (Λ : ja_L) (k j k' : Nat) : ja_L := (Λ.1, Λ.2.1, Λ.2.2.1, va_up Λ.2.2.2 k (va_up (Λ.2.2.2 k) j (some k')))
def ja_Sn (σ : ja_S) (n : Nat) : ja_S := (va_up σ.1 n (fun _ => 0), σ.2)
def ja_Sm (σ : ja_S) (n : Nat) : ja_S := (σ.1, va_up σ.2 n (fun _ => 0))
def ja_df (t : Nat) : List Value := (ja_kd t).map (fun b => if b = true then .null else .int 0)
def ja_rg (n : Nat) (lv : List (Nat × Value)) (st : List Value) : Prop := (∀ q ∈ lv, ∀ k : Nat, q.2 = .ref k → k < n ∨ 1000 ≤ k) ∧ ∀ v ∈ st, ∀ k : Nat, v = .ref k → k < n ∨ 1000 ≤ k
theorem ja_cv_eq {ad ad' : Nat → Nat} {v : Value} (h : ∀ k : Nat, v = .ref k → ad' k = ad k) : ja_cv ad' v = ja_cv ad v := by
  cases v with
  | ref k => show Value.ref (ad' k) = Value.ref (ad k); rw [h k rfl]
  | _ => rfl
theorem ja_cl_eq {ad ad' : Nat → Nat} {lv : List (Nat × Value)} (h : ∀ q ∈ lv, ∀ k : Nat, q.2 = .ref k → ad' k = ad k) : ja_cl ad' lv = ja_cl ad lv := by
  unfold ja_cl
  apply List.map_congr_left
  intro q hq
  rw [ja_cv_eq (h q hq)]
theorem ja_st_eq {ad ad' : Nat → Nat} {st : List Value} (h : ∀ v ∈ st, ∀ k : Nat, v = .ref k → ad' k = ad k) : st.map (ja_cv ad') = st.map (ja_cv ad) := by
  apply List.map_congr_left
  intro v hv
  exact ja_cv_eq (h v hv)
theorem ja_fl_df {Λ : ja_L} {σ : ja_S} {ad : Nat → Nat} {k t : Nat} (h1 : ∀ j, Λ.2.2.2 k j = none) (h2 : ∀ j, σ.1 k j = 0) : ja_fl Λ σ ad k t = ja_df t := by
  apply List.ext_getElem?
  intro i
  by_cases hi : i < (ja_kd t).length
  · rw [ja_fl_at hi, h1, h2]
    unfold ja_df
    rw [List.getElem?_map, List.getElem?_eq_getElem hi]
    simp [List.getD, List.getElem?_eq_getElem hi, va_rf]
  · rw [List.getElem?_eq_none (by rw [ja_fl_len]; omega), List.getElem?_eq_none (by simp [ja_df]; omega)]
/-- the words of new -/
def ja_nw (own : String) (idx t NN : Nat) : Prop := ∃ (Cn : String) (T : u_T) (ty : Nat → FieldType), classes[t]? = some (Cn, T, NN) ∧ (∀ w ∈ u_ws Cn T NN, w ∈ ja_tb) ∧ (∀ k, k < NN → parseFieldDescriptor (T k).2.2.1 = some (ty k)) ∧ Cond.classLink own idx Cn ∈ ja_tb ∧ Cond.instantiable Cn NN ∈ ja_tb ∧ Cond.initialized Cn ∈ ja_tb ∧ ∀ j, j < NN → defaultValue (ty j) = vp_V (ja_df t) j
section JN
variable {M M' : ja_M} {C : ja_C} {pc idx t b n : Nat} {lv : List (Nat × Value)} {st st0 as : List Value} {Λ Λ' : ja_L} {σ σ1 : ja_S} {zz : ja_Z} {y : MethodName}
theorem ja_new {NN : Nat} (hd : decode M.1 pc = .ok (.new idx, 3)) (hN : ja_nw M.2.2.1 idx t NN) (hro : Λ.1 + 1 - C.2.2.1.2.1 ≤ C.2.2.1.2.2.2.1 ∧ Λ.2.1 + NN - C.2.2.1.2.2.1 ≤ C.2.2.1.2.2.2.2.1 ∧ Λ.1 < 1000) (hrg : ja_rg Λ.1 lv st) (kk : ja_J M C (pc + 3) lv (.ref Λ.1 :: st) (ja_Ln Λ t NN) (ja_Sn σ Λ.1) zz) : ja_J M C pc lv st Λ σ zz := by
  obtain ⟨⟨p, l, e, R, s, m, args, below, meth, c⟩, ⟨D, cI, cJ⟩, ⟨ad0, n0, sl0, MC, MS, A⟩, Qf, L, xs⟩ := C
  intro ok ad H locs ls iv hl
  obtain ⟨iP, iD, iS, i4, i5, i6, i7, i8, i9, i10⟩ := iv
  obtain ⟨Cn, T, ty, g1, g2, g3, g4, g5, g6, g7⟩ := hN
  have hts := ok.1.2.2.2.2
  dsimp only at hro
  refine va_new (ci := t) (fs := ja_df t) ok.1.1 ok.1.2.1 hts g2 ty g3 ok.1.2.2.2.1 (hts _ g4) (hts _ g5) (hts _ g6) ok.2.1 iP iD iS ok.2.2.1 g1 g7 (by have := ok.2.2.2.2.1.2.2.1; omega) (by have := ok.2.2.2.2.1.2.2.2; omega) hd (fun q H1 hP hD hS => ?_)
  have had : ∀ k, k ≠ Λ.1 → va_up ad Λ.1 q k = ad k := fun k hk => va_up_ne _ _ hk
  have e : ja_wl cI cJ Λ σ ad ++ [(q, .inr (t, ja_df t))] = ja_wl cI cJ (ja_Ln Λ t NN) (ja_Sn σ Λ.1) (va_up ad Λ.1 q) := by
    refine ja_wl_push rfl (va_up_self _ _ _) ?_ (fun j hj => had j (by omega)) (fun j hj => ja_ce_congr (va_up_ne _ _ (by omega)) (fun i => ?_) (va_up_ne _ _ (by omega)) rfl)
    · rw [ja_ce_o (t := t) (by show (va_up Λ.2.2.1 Λ.1 (t + 2, 0) Λ.1).1 = _; rw [va_up_self])]
      rw [ja_fl_df]
      · intro j
        show va_up Λ.2.2.2 Λ.1 (fun _ => none) Λ.1 j = none
        rw [va_up_self]
      · intro j
        show va_up σ.1 Λ.1 (fun _ => 0) Λ.1 j = 0
        rw [va_up_self]
    · show (va_up Λ.2.2.2 Λ.1 (fun _ => none) j i).map _ = _
      rw [va_up_ne _ _ (by omega)]
      cases hr : Λ.2.2.2 j i with
      | none => rfl
      | some r => simp only [Option.map_some]; rw [had r (by have := i10 j i r hj hr; omega)]
  rw [e] at hP hD
  have hlv : ja_cl (va_up ad Λ.1 q) lv = ja_cl ad lv := ja_cl_eq (fun z hz k hk => had k (by have := hrg.1 z hz k hk; omega))
  have hst : st.map (ja_cv (va_up ad Λ.1 q)) = st.map (ja_cv ad) := ja_st_eq (fun z hz k hk => had k (by have := hrg.2 z hz k hk; omega))
  have h6 := kk ok (va_up ad Λ.1 q) H1 locs ls ⟨hP, hD, hS, fun k hk => ?_, by show n0 ≤ Λ.1 + 1; omega, by show sl0 ≤ Λ.2.1 + NN; omega, by show Λ.1 + 1 - n0 ≤ MC; omega, by show Λ.2.1 + NN - sl0 ≤ MS; omega, by show Λ.1 + 1 ≤ 1000; omega, ?_⟩ (by rw [hlv]; exact hl)
  · unfold ja_W at h6
    dsimp only at h6
    rw [List.map_cons, hst] at h6
    rw [show ja_cv (va_up ad Λ.1 q) (.ref Λ.1) = .ref q from by show Value.ref (va_up ad Λ.1 q Λ.1) = _; rw [va_up_self]] at h6
    rw [show (ja_Ln Λ t NN).1 - n0 = Λ.1 - n0 + 1 from by show Λ.1 + 1 - n0 = _; omega, show (ja_Ln Λ t NN).2.1 - sl0 = Λ.2.1 - sl0 + NN from by show Λ.2.1 + NN - sl0 = _; omega] at h6
    exact h6
  · have hk2 : k < n0 ∨ Λ.1 + 1 ≤ k := hk
    rw [had k (by omega)]
    exact i4 k (by omega)
  · intro k j i hk hj
    have hk2 : k < Λ.1 + 1 := hk
    have hj2 : va_up Λ.2.2.2 Λ.1 (fun _ => none) k j = some i := hj
    show i < Λ.1 + 1
    by_cases h : k = Λ.1
    · subst h
      rw [va_up_self] at hj2
      cases hj2
    · rw [va_up_ne _ _ h] at hj2
      have := i10 k j i (by omega) hj2
      omega
theorem ja_cA {U : State} {a b : ClassId} {ty : FieldType} (hty : ty = .int ∨ ty = .long) (h1 : va_RA U a ty) (h2 : va_RA U b ty) : a = b := by
  rcases hty with rfl | rfl <;> exact Option.some.inj (h1.symm.trans h2)
theorem ja_newi {N : Nat} {v : Int32} (hd : decode M.1 pc = .ok (.newarray .int, 2)) (hw : Cond.arrayClass .int ∈ ja_tb) (hv : ¬ v < 0 ∧ v.toNatClampNeg = N ∧ N ≤ 100000) (hro : Λ.1 + 1 - C.2.2.1.2.1 ≤ C.2.2.1.2.2.2.1 ∧ Λ.2.1 + N - C.2.2.1.2.2.1 ≤ C.2.2.1.2.2.2.2.1 ∧ Λ.1 < 1000) (hrg : ja_rg Λ.1 lv st) (kk : ja_J M C (pc + 2) lv (.ref Λ.1 :: st) (ja_La Λ 0 N) (ja_Sn σ Λ.1) zz) : ja_J M C pc lv (.int v :: st) Λ σ zz := by
  obtain ⟨⟨p, l, e, R, s, m, args, below, meth, c⟩, ⟨D, cI, cJ⟩, ⟨ad0, n0, sl0, MC, MS, A⟩, Qf, L, xs⟩ := C
  intro ok ad H locs ls iv hl
  obtain ⟨iP, iD, iS, i4, i5, i6, i7, i8, i9, i10⟩ := iv
  have hts := ok.1.2.2.2.2
  dsimp only at hro
  refine va_newa (rest := st.map (ja_cv ad)) (atype := .int) (a0 := (N, .inl fun _ => 0)) ok.1.1 ok.1.2.1 (hts _ hw) (ty := .int) rfl ok.2.1 iP iD iS ok.2.2.1 (fun cA => rfl) hv.1 hv.2.1 (by show N * 4 ≤ _; omega) (by have := ok.2.2.2.2.1.2.2.1; omega) (by have := ok.2.2.2.2.1.2.2.2; omega) hd (fun q cA H1 hK2 hP hD hS => ?_)
  have hcA : cA = cI := ja_cA (Or.inl rfl) (hK2.2 2 (cA, .int) rfl).2 (ok.2.1.2 0 (cI, .int) rfl).2
  subst hcA
  have had : ∀ k, k ≠ Λ.1 → va_up ad Λ.1 q k = ad k := fun k hk => va_up_ne _ _ hk
  have e : ja_wl cA cJ Λ σ ad ++ [(q, .inl (cA, N, .inl fun _ => 0))] = ja_wl cA cJ (ja_La Λ 0 N) (ja_Sn σ Λ.1) (va_up ad Λ.1 q) := by
    refine ja_wl_push rfl (va_up_self _ _ _) ?_ (fun j hj => had j (by omega)) (fun j hj => ja_ce_congr (va_up_ne _ _ (by omega)) (fun i => ?_) (va_up_ne _ _ (by omega)) rfl)
    · rw [ja_ce_i (by show (va_up Λ.2.2.1 Λ.1 (0, N) Λ.1).1 = _; rw [va_up_self])]
      show Sum.inl (cA, (va_up Λ.2.2.1 Λ.1 (0, N) Λ.1).2, Sum.inl (va_up σ.1 Λ.1 (fun _ => 0) Λ.1)) = _
      rw [va_up_self, va_up_self]
    · show (va_up Λ.2.2.2 Λ.1 (fun _ => none) j i).map _ = _
      rw [va_up_ne _ _ (by omega)]
      cases hr : Λ.2.2.2 j i with
      | none => rfl
      | some r => simp only [Option.map_some]; rw [had r (by have := i10 j i r hj hr; omega)]
  rw [e] at hP hD
  have hlv : ja_cl (va_up ad Λ.1 q) lv = ja_cl ad lv := ja_cl_eq (fun z hz k hk => had k (by have := hrg.1 z hz k hk; omega))
  have hst : st.map (ja_cv (va_up ad Λ.1 q)) = st.map (ja_cv ad) := ja_st_eq (fun z hz k hk => had k (by have := hrg.2 z hz k hk; omega))
  have h6 := kk ok (va_up ad Λ.1 q) H1 locs ls ⟨hP, hD, hS, fun k hk => ?_, by show n0 ≤ Λ.1 + 1; omega, by show sl0 ≤ Λ.2.1 + N; omega, by show Λ.1 + 1 - n0 ≤ MC; omega, by show Λ.2.1 + N - sl0 ≤ MS; omega, by show Λ.1 + 1 ≤ 1000; omega, ?_⟩ (by rw [hlv]; exact hl)
  · unfold ja_W at h6
    dsimp only at h6
    rw [List.map_cons, hst] at h6
    rw [show ja_cv (va_up ad Λ.1 q) (.ref Λ.1) = .ref q from by show Value.ref (va_up ad Λ.1 q Λ.1) = _; rw [va_up_self]] at h6
    rw [show (ja_La Λ 0 N).1 - n0 = Λ.1 - n0 + 1 from by show Λ.1 + 1 - n0 = _; omega, show (ja_La Λ 0 N).2.1 - sl0 = Λ.2.1 - sl0 + N from by show Λ.2.1 + N - sl0 = _; omega] at h6
    exact h6
  · have hk2 : k < n0 ∨ Λ.1 + 1 ≤ k := hk
    rw [had k (by omega)]
    exact i4 k (by omega)
  · intro k j i hk hj
    have hk2 : k < Λ.1 + 1 := hk
    have hj2 : va_up Λ.2.2.2 Λ.1 (fun _ => none) k j = some i := hj
    show i < Λ.1 + 1
    by_cases h : k = Λ.1
    · subst h
      rw [va_up_self] at hj2
      cases hj2
    · rw [va_up_ne _ _ h] at hj2
      have := i10 k j i (by omega) hj2
      omega
theorem ja_newl {N : Nat} {v : Int32} (hd : decode M.1 pc = .ok (.newarray .long, 2)) (hw : Cond.arrayClass .long ∈ ja_tb) (hv : ¬ v < 0 ∧ v.toNatClampNeg = N ∧ N ≤ 100000) (hro : Λ.1 + 1 - C.2.2.1.2.1 ≤ C.2.2.1.2.2.2.1 ∧ Λ.2.1 + N - C.2.2.1.2.2.1 ≤ C.2.2.1.2.2.2.2.1 ∧ Λ.1 < 1000) (hrg : ja_rg Λ.1 lv st) (kk : ja_J M C (pc + 2) lv (.ref Λ.1 :: st) (ja_La Λ 1 N) (ja_Sm σ Λ.1) zz) : ja_J M C pc lv (.int v :: st) Λ σ zz := by
  obtain ⟨⟨p, l, e, R, s, m, args, below, meth, c⟩, ⟨D, cI, cJ⟩, ⟨ad0, n0, sl0, MC, MS, A⟩, Qf, L, xs⟩ := C
  intro ok ad H locs ls iv hl
  obtain ⟨iP, iD, iS, i4, i5, i6, i7, i8, i9, i10⟩ := iv
  have hts := ok.1.2.2.2.2
  dsimp only at hro
  refine va_newa (rest := st.map (ja_cv ad)) (atype := .long) (a0 := (N, .inr (.inl fun _ => 0))) ok.1.1 ok.1.2.1 (hts _ hw) (ty := .long) rfl ok.2.1 iP iD iS ok.2.2.1 (fun cA => rfl) hv.1 hv.2.1 (by show N * 8 ≤ _; omega) (by have := ok.2.2.2.2.1.2.2.1; omega) (by have := ok.2.2.2.2.1.2.2.2; omega) hd (fun q cA H1 hK2 hP hD hS => ?_)
  have hcA : cA = cJ := ja_cA (Or.inr rfl) (hK2.2 2 (cA, .long) rfl).2 (ok.2.1.2 1 (cJ, .long) rfl).2
  subst hcA
  have had : ∀ k, k ≠ Λ.1 → va_up ad Λ.1 q k = ad k := fun k hk => va_up_ne _ _ hk
  have e : ja_wl cI cA Λ σ ad ++ [(q, .inl (cA, N, .inr (.inl fun _ => 0)))] = ja_wl cI cA (ja_La Λ 1 N) (ja_Sm σ Λ.1) (va_up ad Λ.1 q) := by
    refine ja_wl_push rfl (va_up_self _ _ _) ?_ (fun j hj => had j (by omega)) (fun j hj => ja_ce_congr (va_up_ne _ _ (by omega)) (fun i => ?_) rfl (va_up_ne _ _ (by omega)))
    · rw [ja_ce_l (by show (va_up Λ.2.2.1 Λ.1 (1, N) Λ.1).1 = _; rw [va_up_self])]
      show Sum.inl (cA, (va_up Λ.2.2.1 Λ.1 (1, N) Λ.1).2, Sum.inr (Sum.inl (va_up σ.2 Λ.1 (fun _ => 0) Λ.1))) = _
      rw [va_up_self, va_up_self]
    · show (va_up Λ.2.2.2 Λ.1 (fun _ => none) j i).map _ = _
      rw [va_up_ne _ _ (by omega)]
      cases hr : Λ.2.2.2 j i with
      | none => rfl
      | some r => simp only [Option.map_some]; rw [had r (by have := i10 j i r hj hr; omega)]
  rw [e] at hP hD
  have hlv : ja_cl (va_up ad Λ.1 q) lv = ja_cl ad lv := ja_cl_eq (fun z hz k hk => had k (by have := hrg.1 z hz k hk; omega))
  have hst : st.map (ja_cv (va_up ad Λ.1 q)) = st.map (ja_cv ad) := ja_st_eq (fun z hz k hk => had k (by have := hrg.2 z hz k hk; omega))
  have h6 := kk ok (va_up ad Λ.1 q) H1 locs ls ⟨hP, hD, hS, fun k hk => ?_, by show n0 ≤ Λ.1 + 1; omega, by show sl0 ≤ Λ.2.1 + N; omega, by show Λ.1 + 1 - n0 ≤ MC; omega, by show Λ.2.1 + N - sl0 ≤ MS; omega, by show Λ.1 + 1 ≤ 1000; omega, ?_⟩ (by rw [hlv]; exact hl)
  · unfold ja_W at h6
    dsimp only at h6
    rw [List.map_cons, hst] at h6
    rw [show ja_cv (va_up ad Λ.1 q) (.ref Λ.1) = .ref q from by show Value.ref (va_up ad Λ.1 q Λ.1) = _; rw [va_up_self]] at h6
    rw [show (ja_La Λ 1 N).1 - n0 = Λ.1 - n0 + 1 from by show Λ.1 + 1 - n0 = _; omega, show (ja_La Λ 1 N).2.1 - sl0 = Λ.2.1 - sl0 + N from by show Λ.2.1 + N - sl0 = _; omega] at h6
    exact h6
  · have hk2 : k < n0 ∨ Λ.1 + 1 ≤ k := hk
    rw [had k (by omega)]
    exact i4 k (by omega)
  · intro k j i hk hj
    have hk2 : k < Λ.1 + 1 := hk
    have hj2 : va_up Λ.2.2.2 Λ.1 (fun _ => none) k j = some i := hj
    show i < Λ.1 + 1
    by_cases h : k = Λ.1
    · subst h
      rw [va_up_self] at hj2
      cases hj2
    · rw [va_up_ne _ _ h] at hj2
      have := i10 k j i (by omega) hj2
      omega
/-- a final reference, put by its constructor -/
theorem ja_putr {j k k' : Nat} {ty : FieldType} (hd : decode M.1 pc = .ok (.putfield idx, 3)) (hF : ja_fd M.2.2.1 idx t j true true ty) (hown : ∃ Cn T NN, classes[t]? = some (Cn, T, NN) ∧ (T j).1 = M.2.2.1) (hini : M.2.2.2.1 = "<init>") (hk : ja_ob Λ t k) (hk' : k' < Λ.1) (hv : ∀ a : Nat, narrow ty (.ref a) = .ref a ∧ fits ty (.ref a) = true) (kk : ja_J M C (pc + 3) lv st (ja_Lr Λ k j k') σ zz) : ja_J M C pc lv (.ref k' :: .ref k :: st) Λ σ zz := by
  obtain ⟨⟨p, l, e, R, s, m, args, below, meth, c⟩, ⟨D, cI, cJ⟩, ⟨ad0, n0, sl0, MC, MS, A⟩, Qf, L, xs⟩ := C
  intro ok ad H locs ls iv hl
  obtain ⟨Cn, T, NN, ty0, h1, h2, h3, h4, h5, h6, h7, h8, h9, h10⟩ := hF
  obtain ⟨Cn2, T2, NN2, g1, g2⟩ := hown
  cases h1.symm.trans g1
  obtain ⟨iP, iD, iS, i4, i5, i6, i7, i8, i9, i10⟩ := iv
  refine va_putF (v := .ref (ad k')) (rest := st.map (ja_cv ad)) ok.1.1 ok.1.2.1 ok.1.2.2.2.2 h2 ty0 h7 h8 ok.1.2.2.2.1 ok.2.1 iP iD iS k (ja_wl_o hk) h1 j h3 (ok.1.2.2.2.2 _ h4) (fun _ h => h) h9 (ok.2.2.2.2.2.1 hini) g2 (ty := ty) (by rw [h7 j h3, h10]) (hv _).1 (hv _).2 (by rw [ja_fl_len]; omega) hd (fun H1 locs1 hP hD hS => ?_)
  have e : (ja_wl cI cJ Λ σ ad).set k (ad k, .inr (t, (ja_fl Λ σ ad k t).set j (.ref (ad k')))) = ja_wl cI cJ (ja_Lr Λ k j k') σ ad := by
    refine ja_wl_set rfl ?_ (fun i hi => ja_ce_congr rfl (fun z => by show (va_up Λ.2.2.2 k _ i z).map ad = _; rw [va_up_ne _ _ hi]) rfl rfl)
    rw [ja_ce_o (t := t) (by exact hk.2)]
    congr 2
    refine (ja_fl_set ?_ ?_).symm
    · rw [h5]
      show va_rf ((va_up Λ.2.2.2 k _ k j).map ad) = _
      rw [va_up_self, va_up_self]
      rfl
    · intro i hi
      refine ⟨?_, rfl⟩
      show va_up Λ.2.2.2 k _ k i = _
      rw [va_up_self, va_up_ne _ _ hi]
  rw [e] at hP hD
  refine kk ok ad H1 locs1 ls ⟨hP, hD, hS, i4, i5, i6, i7, i8, i9, fun a z i ha hz => ?_⟩ hl
  have hz2 : va_up Λ.2.2.2 k (va_up (Λ.2.2.2 k) j (some k')) a z = some i := hz
  show i < Λ.1
  by_cases h : a = k
  · subst h
    rw [va_up_self] at hz2
    by_cases h' : z = j
    · subst h'
      rw [va_up_self] at hz2
      cases hz2
      exact hk'
    · rw [va_up_ne _ _ h'] at hz2
      exact i10 a z i ha hz2
  · rw [va_up_ne _ _ h] at hz2
    exact i10 a z i ha hz2
/-- Object's constructor -/
theorem ja_obj {k : Nat} (hd : decode M.1 pc = .ok (.invokespecial idx, 3)) (hk : Cond.methodLink M.2.2.1 idx objectInit ∈ ja_tb ∧ Cond.instanceMethod objectInit ∈ ja_tb ∧ Cond.code objectInit ⟨#[0xb1]⟩ 1 none ∈ ja_tb) (hro : 1 ≤ M.2.2.2.2.2.1 ∧ 20 ≤ M.2.2.2.2.2.2) (hst : (st.map fun v => v.category).sum ≤ 8) (kk : ja_J M C (pc + 3) lv st Λ σ zz) : ja_J M C pc lv (.ref k :: st) Λ σ zz := by
  obtain ⟨⟨p, l, e, R, s, m, args, below, meth, c⟩, ⟨D, cI, cJ⟩, ⟨ad0, n0, sl0, MC, MS, A⟩, Qf, L, xs⟩ := C
  intro ok ad H locs ls iv hl
  have hts := ok.1.2.2.2.2
  have hfr := ok.2.2.2.2.1
  exact W.objInit ok.1.1 ok.1.2.1 ok.1.2.2.2.1 (hts _ hk.1) (hts _ hk.2.1) (hts _ hk.2.2) rfl (hl.1.trans ok.1.2.2.1.symm) rfl hd (Nat.le_trans hro.1 hfr.1) (by show 2 * 0 + ((st.map (ja_cv ad)).map fun v => v.category).sum + 12 ≤ _; rw [ja_cats]; omega) (kk ok ad H locs ls iv hl)
/-- the same layout under another name -/
theorem ja_rl (h : Λ'.1 = Λ.1 ∧ Λ'.2.1 = Λ.2.1 ∧ ∀ k, k < Λ.1 → Λ'.2.2.1 k = Λ.2.2.1 k ∧ ∀ j, Λ'.2.2.2 k j = Λ.2.2.2 k j) (kk : ja_J M C pc lv st Λ' σ zz) : ja_J M C pc lv st Λ σ zz := by
  obtain ⟨⟨p, l, e, R, s, m, args, below, meth, c⟩, ⟨D, cI, cJ⟩, ⟨ad0, n0, sl0, MC, MS, A⟩, Qf, L, xs⟩ := C
  intro ok ad H locs ls iv hl
  obtain ⟨iP, iD, iS, i4, i5, i6, i7, i8, i9, i10⟩ := iv
  obtain ⟨h1, h2, h3⟩ := h
  have e : ja_wl cI cJ Λ' σ ad = ja_wl cI cJ Λ σ ad := by
    unfold ja_wl
    rw [h1]
    apply List.map_congr_left
    intro k hk
    obtain ⟨g1, g2⟩ := h3 k (List.mem_range.mp hk)
    rw [ja_ce_congr g1 (fun j => by rw [g2 j]) rfl rfl]
  have h6 := kk ok ad H locs ls ⟨by rw [e]; exact iP, by rw [e]; exact iD, iS, by rw [h1]; exact i4, by rw [h1]; exact i5, by rw [h2]; exact i6, by rw [h1]; exact i7, by rw [h2]; exact i8, by rw [h1]; exact i9, fun k j i hk hj => by rw [h1] at hk ⊢; exact i10 k j i hk (((h3 k hk).2 j) ▸ hj)⟩ hl
  unfold ja_W at h6 ⊢
  dsimp only at h6 ⊢
  rw [h1, h2] at h6
  exact h6
end JN
