/-! fewer locals; copies; Math.min and max; calls by what they answer -/
theorem ja_pick (ad : Nat → Nat) (lv : List (Nat × Value)) (ks : List Nat) : lv_pick (ja_cl ad lv) ks = ja_cl ad (lv_pick lv ks) := by
  unfold lv_pick ja_cl
  induction ks with
  | nil => rfl
  | cons k l ih =>
    simp only [List.filterMap_cons, List.getElem?_map]
    cases h : lv[k]? with
    | none => simpa using ih
    | some q => simpa using ih
theorem ja_ce_congr {cI cJ : ClassId} {Λ Λ' : ja_L} {σ σ' : ja_S} {ad ad' : Nat → Nat} {i : Nat} (h1 : Λ'.2.2.1 i = Λ.2.2.1 i) (h2 : ∀ j, (Λ'.2.2.2 i j).map ad' = (Λ.2.2.2 i j).map ad) (h3 : σ'.1 i = σ.1 i) (h4 : σ'.2 i = σ.2 i) : ja_ce cI cJ Λ' σ' ad' i = ja_ce cI cJ Λ σ ad i := by
  unfold ja_ce ja_fl
  rw [h1, h3, h4]
  simp only [h2]
theorem ja_ce_up1 {cI cJ : ClassId} {Λ : ja_L} {σ : ja_S} {ad : Nat → Nat} {k : Nat} {f : Nat → Int32} : ∀ i, i ≠ k → ja_ce cI cJ Λ (va_up σ.1 k f, σ.2) ad i = ja_ce cI cJ Λ σ ad i := fun _ hi => ja_ce_congr rfl (fun _ => rfl) (va_up_ne _ _ hi) rfl
theorem ja_ce_up2 {cI cJ : ClassId} {Λ : ja_L} {σ : ja_S} {ad : Nat → Nat} {k : Nat} {f : Nat → Int64} : ∀ i, i ≠ k → ja_ce cI cJ Λ (σ.1, va_up σ.2 k f) ad i = ja_ce cI cJ Λ σ ad i := fun _ hi => ja_ce_congr rfl (fun _ => rfl) rfl (va_up_ne _ _ hi)
theorem ja_tn {z : Int32} : z.toNatClampNeg = z.toInt.toNat := rfl
section JM
variable {M M' : ja_M} {C : ja_C} {pc idx t b n : Nat} {lv lv' : List (Nat × Value)} {st st0 as : List Value} {Λ : ja_L} {σ σ1 : ja_S} {zz : ja_Z} {y : MethodName} {v1 : Option Value}
theorem ja_lv (ks : List Nat) (h : lv_pick lv ks = lv') (k : ja_J M C pc lv' st Λ σ zz) : ja_J M C pc lv st Λ σ zz := by
  intro ok ad H locs ls iv hl
  exact k ok ad H locs ls iv (lv_sub hl ks (by rw [ja_pick, h]))
/-- arraycopy's words -/
def ja_kC (own : String) (idx : Nat) : Prop := Cond.methodLink own idx arraycopyName ∈ ja_tb ∧ Cond.native arraycopyName ∈ ja_tb ∧ Cond.static arraycopyName ∈ ja_tb ∧ Cond.initialized "java/lang/System" ∈ ja_tb
theorem ja_cpyi {a b : Nat} {sp dp n : Int32} {σ' : ja_S} (hd : decode M.1 pc = .ok (.invokestatic idx, 3)) (hk : ja_kC M.2.2.1 idx) (hro : 1 ≤ M.2.2.2.2.2.1 ∧ 26 ≤ M.2.2.2.2.2.2) (ha : ja_ai Λ a) (hb : ja_ai Λ b) (hst : (st.map fun v => v.category).sum ≤ 8) (hv : ja_cpi Λ σ a sp b dp n = some σ') (kk : ja_J M C (pc + 3) lv st Λ σ' zz) : ja_J M C pc lv (.int n :: .int dp :: .ref b :: .int sp :: .ref a :: st) Λ σ zz := by
  obtain ⟨⟨p, l, e, R, s, m, args, below, meth, c⟩, ⟨D, cI, cJ⟩, ⟨ad0, n0, sl0, MC, MS, A⟩, Qf, L, xs⟩ := C
  intro ok ad H locs ls iv hl
  obtain ⟨⟨g1, g2, g3, g4, g5⟩, rfl⟩ := ja_ite hv
  obtain ⟨iP, iD, iS, i4⟩ := iv
  obtain ⟨k1, k2, k3, k4⟩ := hk
  have hts := ok.1.2.2.2.2
  have hfr := ok.2.2.2.2.1
  refine va_copyi (rest := st.map (ja_cv ad)) ok.1.1 ok.1.2.1 (ok.1.2.2.1.trans hl.1.symm) ok.1.2.2.2.1 (hts _ k1) (hts _ k2) (hts _ k3) (hts _ k4) ok.2.1 iP iD iS a b 0 0 (ja_wl_i ha) (ja_wl_i hb) rfl rfl (by rfl) (ja_nn g1) (ja_nn g2) (ja_nn g3) (by rw [ja_tn, ja_tn]; omega) (by rw [ja_tn, ja_tn]; omega) (fun _ _ => rfl) (Nat.le_trans hro.1 hfr.1) (by rw [ja_cats]; show _ + 18 ≤ _; omega) hd (fun H1 locs1 hP hD hS => ?_)
  have e : (ja_wl cI cJ Λ σ ad).set b (ad b, .inl (cI, ja_len Λ b, .inl (va_cpy (σ.1 a) (σ.1 b) sp.toNatClampNeg dp.toNatClampNeg n.toNatClampNeg))) = ja_wl cI cJ Λ (va_up σ.1 b (va_cpy (σ.1 a) (σ.1 b) sp.toInt.toNat dp.toInt.toNat n.toInt.toNat), σ.2) ad := by
    refine ja_wl_set rfl ?_ ja_ce_up1
    rw [ja_ce_i hb.2]
    show Sum.inl (cI, _, Sum.inl (va_up σ.1 b _ b)) = _
    rw [va_up_self]
    rfl
  rw [e] at hP hD
  exact kk ok ad H1 locs1 ls ⟨hP, hD, hS, i4⟩ hl
theorem ja_cpyl {a b : Nat} {sp dp n : Int32} {σ' : ja_S} (hd : decode M.1 pc = .ok (.invokestatic idx, 3)) (hk : ja_kC M.2.2.1 idx) (hro : 1 ≤ M.2.2.2.2.2.1 ∧ 26 ≤ M.2.2.2.2.2.2) (ha : ja_al Λ a) (hb : ja_al Λ b) (hst : (st.map fun v => v.category).sum ≤ 8) (hv : ja_cpl Λ σ a sp b dp n = some σ') (kk : ja_J M C (pc + 3) lv st Λ σ' zz) : ja_J M C pc lv (.int n :: .int dp :: .ref b :: .int sp :: .ref a :: st) Λ σ zz := by
  obtain ⟨⟨p, l, e, R, s, m, args, below, meth, c⟩, ⟨D, cI, cJ⟩, ⟨ad0, n0, sl0, MC, MS, A⟩, Qf, L, xs⟩ := C
  intro ok ad H locs ls iv hl
  obtain ⟨⟨g1, g2, g3, g4, g5⟩, rfl⟩ := ja_ite hv
  obtain ⟨iP, iD, iS, i4⟩ := iv
  obtain ⟨k1, k2, k3, k4⟩ := hk
  have hts := ok.1.2.2.2.2
  have hfr := ok.2.2.2.2.1
  refine va_copyl (rest := st.map (ja_cv ad)) ok.1.1 ok.1.2.1 (ok.1.2.2.1.trans hl.1.symm) ok.1.2.2.2.1 (hts _ k1) (hts _ k2) (hts _ k3) (hts _ k4) ok.2.1 iP iD iS a b 1 1 (ja_wl_l ha) (ja_wl_l hb) rfl rfl (by rfl) (ja_nn g1) (ja_nn g2) (ja_nn g3) (by rw [ja_tn, ja_tn]; omega) (by rw [ja_tn, ja_tn]; omega) (fun _ _ => rfl) (Nat.le_trans hro.1 hfr.1) (by rw [ja_cats]; show _ + 18 ≤ _; omega) hd (fun H1 locs1 hP hD hS => ?_)
  have e : (ja_wl cI cJ Λ σ ad).set b (ad b, .inl (cJ, ja_len Λ b, .inr (.inl (va_cpy (σ.2 a) (σ.2 b) sp.toNatClampNeg dp.toNatClampNeg n.toNatClampNeg)))) = ja_wl cI cJ Λ (σ.1, va_up σ.2 b (va_cpy (σ.2 a) (σ.2 b) sp.toInt.toNat dp.toInt.toNat n.toInt.toNat)) ad := by
    refine ja_wl_set rfl ?_ ja_ce_up2
    rw [ja_ce_l hb.2]
    show Sum.inl (cJ, _, Sum.inr (Sum.inl (va_up σ.2 b _ b))) = _
    rw [va_up_self]
    rfl
  rw [e] at hP hD
  exact kk ok ad H1 locs1 ls ⟨hP, hD, hS, i4⟩ hl
theorem ja_max {x y : Int32} (hd : decode M.1 pc = .ok (.invokestatic idx, 3)) (hk : Cond.methodLink M.2.2.1 idx Lib.Math.max.name ∈ ja_tb ∧ Cond.static Lib.Math.max.name ∈ ja_tb ∧ Cond.initialized "java/lang/Math" ∈ ja_tb ∧ Cond.code Lib.Math.max.name Lib.Math.max.code 2 (some .int) ∈ ja_tb) (hro : 1 ≤ M.2.2.2.2.2.1 ∧ 26 ≤ M.2.2.2.2.2.2) (hst : (st.map fun v => v.category).sum ≤ 8) (kk : ja_J M C (pc + 3) lv (.int (if x < y then y else x) :: st) Λ σ zz) : ja_J M C pc lv (.int y :: .int x :: st) Λ σ zz := by
  obtain ⟨⟨p, l, e, R, s, m, args, below, meth, c⟩, ⟨D, cI, cJ⟩, ⟨ad0, n0, sl0, MC, MS, A⟩, Qf, L, xs⟩ := C
  intro ok ad H locs ls iv hl
  obtain ⟨k1, k2, k3, k4⟩ := hk
  have hts := ok.1.2.2.2.2
  have hfr := ok.2.2.2.2.1
  have hi5 := iv.2.2.2.2
  exact va_mmax (rest := st.map (ja_cv ad)) ok.1.1 ok.1.2.1 (ok.1.2.2.1.trans hl.1.symm) ok.1.2.2.2.1 (hts _ k1) (hts _ k2) (hts _ k3) (hts _ k4) (Nat.le_trans hro.1 hfr.1) (by rw [ja_cats]; omega) (by omega) (by omega) hd (kk ok ad H locs ls iv hl)
theorem ja_min {x y : Int32} (hd : decode M.1 pc = .ok (.invokestatic idx, 3)) (hk : Cond.methodLink M.2.2.1 idx Lib.Math.min.name ∈ ja_tb ∧ Cond.static Lib.Math.min.name ∈ ja_tb ∧ Cond.initialized "java/lang/Math" ∈ ja_tb ∧ Cond.code Lib.Math.min.name Lib.Math.min.code 2 (some .int) ∈ ja_tb) (hro : 1 ≤ M.2.2.2.2.2.1 ∧ 26 ≤ M.2.2.2.2.2.2) (hst : (st.map fun v => v.category).sum ≤ 8) (kk : ja_J M C (pc + 3) lv (.int (if y < x then y else x) :: st) Λ σ zz) : ja_J M C pc lv (.int y :: .int x :: st) Λ σ zz := by
  obtain ⟨⟨p, l, e, R, s, m, args, below, meth, c⟩, ⟨D, cI, cJ⟩, ⟨ad0, n0, sl0, MC, MS, A⟩, Qf, L, xs⟩ := C
  intro ok ad H locs ls iv hl
  obtain ⟨k1, k2, k3, k4⟩ := hk
  have hts := ok.1.2.2.2.2
  have hfr := ok.2.2.2.2.1
  have hi5 := iv.2.2.2.2
  exact va_mmin (rest := st.map (ja_cv ad)) ok.1.1 ok.1.2.1 (ok.1.2.2.1.trans hl.1.symm) ok.1.2.2.2.1 (hts _ k1) (hts _ k2) (hts _ k3) (hts _ k4) (Nat.le_trans hro.1 hfr.1) (by rw [ja_cats]; omega) (by omega) (by omega) hd (kk ok ad H locs ls iv hl)
/-- a static method of a nest mate -/
theorem ja_callN0 (q : Nat) {host : String} (hd : decode M.1 pc = .ok (.invokestatic idx, 3)) (hk : ja_kS y M' n) (hlink : ja_nk[q]? = some (M.2.2.1, idx, y, host)) (hro : ja_rr M M') (hM : ja_Ct C.1.2.1 C.2.1 y M' as Λ σ (v1, Λ, σ1)) (hn : as.length = n) (hst : (st.map fun v => v.category).sum ≤ 8) (hs : st0 = as.reverse ++ st) (kk : ja_J M C (pc + 3) lv (v1.toList ++ st) Λ σ1 zz) : ja_J M C pc lv st0 Λ σ zz := by
  obtain ⟨⟨p, l, e, R, s, m, args, below, meth, c⟩, ⟨D, cI, cJ⟩, ⟨ad0, n0, sl0, MC, MS, A⟩, Qf, L, xs⟩ := C
  intro ok ad H locs ls iv hl
  subst hs
  obtain ⟨iP, iD, iS, i4, i5⟩ := iv
  obtain ⟨⟨k1, k2, k3⟩, k4⟩ := hk
  have hM := hM ⟨i5.2.2.2.2.1, i5.2.2.2.2.2⟩ ad H.size
  have hts := ok.1.2.2.2.2
  have hFc : ∀ q, va_A (ja_wl cI cJ Λ σ ad) H.size q → A q := by
    intro q h
    rcases h with ⟨k, e, h⟩ | h
    · exact iD.2 _ _ h
    · exact ok.2.2.1 q (Nat.le_trans iS.1 h)
  have z0 : (v1, Λ, σ1).2.1.1 - Λ.1 = 0 := Nat.sub_self _
  have z1 : (v1, Λ, σ1).2.1.2.1 - Λ.2.1 = 0 := Nat.sub_self _
  have hrun := va_runSN (p := p) (e := e) (R := R) (below := below) (meth := meth) (H := H) (locs := locs) (cells := Λ.1 - n0) (slots := Λ.2.1 - sl0) (As := as.map (ja_cv ad)) (rest := st.map (ja_cv ad)) (g := F0 m pc ls ((as.reverse ++ st).map (ja_cv ad))) (n := n) (index := idx) ok.1 hM ⟨va_cnB (Ts := ja_tb) n hts (ja_good k2) rfl rfl rfl (ok.2.2.2.1.2.2.2.2.2.2 _ (List.mem_of_getElem? hlink)) (hts _ k1) k3 ⟨Nat.le_trans hro.1 ok.2.2.2.2.1.1, Nat.le_trans hro.2 ok.2.2.2.2.1.2.1⟩, hts _ k4, trivial⟩
    ⟨ja_blind, fun U hU hW => ⟨rfl, by rw [hU], by rw [hU]; exact iP, va_K.moved hW.alike ok.2.1, iD.weaken (fun _ _ _ _ => trivial), by
      have h1 := ja_SF_narrow (ja_SF_moved hW (ja_SF_kept (ja_SF_ad ok.2.2.2.1 (fun k hk => i4 k (Or.inr (by omega)))) iS.2.1)) hFc
      rw [hU]
      exact h1⟩⟩
    rfl (by rw [List.length_map]; exact hn) hl.1 (by simp) (lv_room (by rw [ja_cats]; exact hst)) hd ⟨by rw [z0]; have := ok.2.2.2.2.1.2.2.1; omega, by rw [z1]; have := ok.2.2.2.2.1.2.2.2; omega⟩
  refine ja_after (x := (D, cI, cJ)) hrun iS (fun q _ h => hFc q h) hFc (fun ad' H1 locs1 h1 h2 h3 h4 h5 => ?_)
  have ha : ad' = ad := funext fun k => h1 k (by show k < Λ.1 ∨ Λ.1 ≤ k; omega)
  subst ha
  have h6 := kk ok ad' H1 locs1 ls ⟨h2, h3.weaken (fun _ _ _ h => hFc _ h), h5, i4, i5⟩ hl
  rw [z0, z1, Nat.add_zero, Nat.add_zero]
  have e1 : (v1.map (ja_cv ad')).toList ++ st.map (ja_cv ad') = (v1.toList ++ st).map (ja_cv ad') := by cases v1 <;> rfl
  show W p l e R s m args below meth c H1 locs1 (Λ.1 - n0) (Λ.2.1 - sl0) (Qf zz) (F0 m (pc + 3) ls ((v1.map (ja_cv ad')).toList ++ st.map (ja_cv ad')))
  rw [e1]
  exact h6
end JM
/-- the ends of the printed functions -/
def ja_pu (σ : ja_S) (k j : Nat) (v : Int32) : Option ja_S := some (ja_si σ k j v)
def ja_rb (v : Int32) (σ : ja_S) : Option (Int32 × ja_S) := if v = 0 ∨ v = 1 then some (v, σ) else none
def ja_dv (x y : Int32) : Option Int32 := if y = 0 then none else some (x / y)
def ja_rmd (x y : Int32) : Option Int32 := if y = 0 then none else some (x - x / y * y)
def ja_FU : Nat := 10000
