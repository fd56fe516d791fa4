/-! calls of constructors: the layout grows -/
section JI
variable {M M' : ja_M} {C : ja_C} {pc idx b n : Nat} {lv : List (Nat × Value)} {st st0 as : List Value} {Λ Λ' : ja_L} {σ σ1 : ja_S} {zz : ja_Z} {y : MethodName}
theorem ja_callI (hd : decode M.1 pc = .ok (.invokespecial idx, 3)) (hk : ja_kB y M' n ∧ Cond.instanceMethod y ∈ ja_tb ∧ y.name = "<init>" ∧ M'.2.2.2.2.1 = none) (hlink : Cond.methodLink M.2.2.1 idx y ∈ ja_tb) (hro : ja_rr M M') (hM : ja_Ct C.1.2.1 C.2.1 y M' (.ref b :: as) Λ σ (none, Λ', σ1)) (hn : as.length = n) (hst : (st.map fun v => v.category).sum ≤ 8) (hs : st0 = as.reverse ++ .ref b :: st) (hgr : Λ.1 ≤ Λ'.1 ∧ Λ.2.1 ≤ Λ'.2.1 ∧ Λ'.1 - C.2.2.1.2.1 ≤ C.2.2.1.2.2.2.1 ∧ Λ'.2.1 - C.2.2.1.2.2.1 ≤ C.2.2.1.2.2.2.2.1) (hrg : ja_rg Λ.1 lv st) (kk : ja_J M C (pc + 3) lv st Λ' σ1 zz) : ja_J M C pc lv st0 Λ σ zz := by
  obtain ⟨⟨p, l, e, R, s, m, args, below, meth, c⟩, ⟨D, cI, cJ⟩, ⟨ad0, n0, sl0, MC, MS, A⟩, Qf, L, xs⟩ := C
  intro ok ad H locs ls iv hl
  subst hs
  obtain ⟨iP, iD, iS, i4, i5⟩ := iv
  obtain ⟨⟨k1, k2, k3⟩, k4, k5, k6⟩ := hk
  have hM := hM ⟨i5.2.2.2.2.1, i5.2.2.2.2.2⟩ ad H.size
  rw [k6] at hM k2
  have hts := ok.1.2.2.2.2
  dsimp only at hgr
  have hFc : ∀ q, va_A (ja_wl cI cJ Λ σ ad) H.size q → A q := by
    intro q h
    rcases h with ⟨k, e, h⟩ | h
    · exact iD.2 _ _ h
    · exact ok.2.2.1 q (Nat.le_trans iS.1 h)
  have hrun := va_runI (p := p) (e := e) (R := R) (below := below) (meth := meth) (H := H) (locs := locs) (cells := Λ.1 - n0) (slots := Λ.2.1 - sl0) (b := ad b) (As := as.map (ja_cv ad)) (rest := st.map (ja_cv ad)) (g := F0 m pc ls ((as.reverse ++ .ref b :: st).map (ja_cv ad))) (n := n) (index := idx) ok.1 hM ⟨callB_of (Ts := ja_tb) n hts (ja_good k2) rfl rfl rfl (hts _ k1) (hts _ hlink) k3 ⟨Nat.le_trans hro.1 ok.2.2.2.2.1.1, Nat.le_trans hro.2 ok.2.2.2.2.1.2.1⟩, k5, hts _ k4⟩
    ⟨ja_blind, fun U hU hW => ⟨rfl, by rw [hU], by rw [hU]; exact iP, va_K.moved hW.alike ok.2.1, iD.weaken (fun _ _ _ _ => trivial), by
      have h1 := ja_SF_narrow (ja_SF_moved hW (ja_SF_kept (ja_SF_ad ok.2.2.2.1 (fun k hk => i4 k (Or.inr (by omega)))) iS.2.1)) hFc
      rw [hU]
      exact h1⟩⟩
    rfl (by rw [List.length_map]; exact hn) hl.1 (by simp [ja_cv]) (lv_room (by rw [ja_cats]; exact hst)) hd ⟨by have := ok.2.2.2.2.1.2.2.1; show Λ.1 - n0 + (Λ'.1 - Λ.1) ≤ R.cells; omega, by have := ok.2.2.2.2.1.2.2.2; show Λ.2.1 - sl0 + (Λ'.2.1 - Λ.2.1) ≤ R.slots; omega⟩
  refine ja_after (x := (D, cI, cJ)) hrun iS (fun q _ h => hFc q h) hFc (fun ad' H1 locs1 h1 h2 h3 h4 h5 => ?_)
  have h1' : ∀ k : Nat, k < Λ.1 ∨ Λ'.1 ≤ k → ad' k = ad k := h1
  have h4' : Λ.1 ≤ Λ'.1 ∧ Λ.2.1 ≤ Λ'.2.1 ∧ Λ'.1 ≤ 1000 ∧ ja_wf Λ' := h4
  have hlv : ja_cl ad' lv = ja_cl ad lv := ja_cl_eq (fun z hz k hk => h1' k (by have := hrg.1 z hz k hk; omega))
  have hst2 : st.map (ja_cv ad') = st.map (ja_cv ad) := ja_st_eq (fun z hz k hk => h1' k (by have := hrg.2 z hz k hk; omega))
  have h6 := kk ok ad' H1 locs1 ls ⟨h2, h3.weaken (fun _ _ _ h => hFc _ h), h5, fun k hk => (h1' k (by omega)).trans (i4 k (by omega)), by omega, by omega, by omega, by omega, h4'.2.2.1, h4'.2.2.2⟩ (by rw [hlv]; exact hl)
  unfold ja_W at h6
  dsimp only at h6
  rw [hst2] at h6
  show W p l e R s m args below meth c H1 locs1 (Λ.1 - n0 + (Λ'.1 - Λ.1)) (Λ.2.1 - sl0 + (Λ'.2.1 - Λ.2.1)) (Qf zz) (F0 m (pc + 3) ls (st.map (ja_cv ad)))
  rw [show Λ.1 - n0 + (Λ'.1 - Λ.1) = Λ'.1 - n0 by omega, show Λ.2.1 - sl0 + (Λ'.2.1 - Λ.2.1) = Λ'.2.1 - sl0 by omega]
  exact h6
theorem ja_callJ (hd : decode M.1 pc = .ok (.invokespecial idx, 3)) (hk : ja_kB y M' n ∧ Cond.instanceMethod y ∈ ja_tb ∧ y.name = "<init>" ∧ M'.2.2.2.2.1 = none) (qn : Nat) {host : String} (hlink : ja_nk[qn]? = some (M.2.2.1, idx, y, host)) (hro : ja_rr M M') (hM : ja_Ct C.1.2.1 C.2.1 y M' (.ref b :: as) Λ σ (none, Λ', σ1)) (hn : as.length = n) (hst : (st.map fun v => v.category).sum ≤ 8) (hs : st0 = as.reverse ++ .ref b :: st) (hgr : Λ.1 ≤ Λ'.1 ∧ Λ.2.1 ≤ Λ'.2.1 ∧ Λ'.1 - C.2.2.1.2.1 ≤ C.2.2.1.2.2.2.1 ∧ Λ'.2.1 - C.2.2.1.2.2.1 ≤ C.2.2.1.2.2.2.2.1) (hrg : ja_rg Λ.1 lv st) (kk : ja_J M C (pc + 3) lv st Λ' σ1 zz) : ja_J M C pc lv st0 Λ σ zz := by
  obtain ⟨⟨p, l, e, R, s, m, args, below, meth, c⟩, ⟨D, cI, cJ⟩, ⟨ad0, n0, sl0, MC, MS, A⟩, Qf, L, xs⟩ := C
  intro ok ad H locs ls iv hl
  subst hs
  obtain ⟨iP, iD, iS, i4, i5⟩ := iv
  obtain ⟨⟨k1, k2, k3⟩, k4, k5, k6⟩ := hk
  have hM := hM ⟨i5.2.2.2.2.1, i5.2.2.2.2.2⟩ ad H.size
  rw [k6] at hM k2
  have hts := ok.1.2.2.2.2
  dsimp only at hgr
  have hFc : ∀ q, va_A (ja_wl cI cJ Λ σ ad) H.size q → A q := by
    intro q h
    rcases h with ⟨k, e, h⟩ | h
    · exact iD.2 _ _ h
    · exact ok.2.2.1 q (Nat.le_trans iS.1 h)
  have hrun := va_runIN (p := p) (e := e) (R := R) (below := below) (meth := meth) (H := H) (locs := locs) (cells := Λ.1 - n0) (slots := Λ.2.1 - sl0) (b := ad b) (As := as.map (ja_cv ad)) (rest := st.map (ja_cv ad)) (g := F0 m pc ls ((as.reverse ++ .ref b :: st).map (ja_cv ad))) (n := n) (index := idx) ok.1 hM ⟨va_cnB (Ts := ja_tb) n hts (ja_good k2) rfl rfl rfl (ok.2.2.2.1.2.2.2.2.2.2 _ (List.mem_of_getElem? hlink)) (hts _ k1) k3 ⟨Nat.le_trans hro.1 ok.2.2.2.2.1.1, Nat.le_trans hro.2 ok.2.2.2.2.1.2.1⟩, k5, hts _ k4⟩
    ⟨ja_blind, fun U hU hW => ⟨rfl, by rw [hU], by rw [hU]; exact iP, va_K.moved hW.alike ok.2.1, iD.weaken (fun _ _ _ _ => trivial), by
      have h1 := ja_SF_narrow (ja_SF_moved hW (ja_SF_kept (ja_SF_ad ok.2.2.2.1 (fun k hk => i4 k (Or.inr (by omega)))) iS.2.1)) hFc
      rw [hU]
      exact h1⟩⟩
    rfl (by rw [List.length_map]; exact hn) hl.1 (by simp [ja_cv]) (lv_room (by rw [ja_cats]; exact hst)) hd ⟨by have := ok.2.2.2.2.1.2.2.1; show Λ.1 - n0 + (Λ'.1 - Λ.1) ≤ R.cells; omega, by have := ok.2.2.2.2.1.2.2.2; show Λ.2.1 - sl0 + (Λ'.2.1 - Λ.2.1) ≤ R.slots; omega⟩
  refine ja_after (x := (D, cI, cJ)) hrun iS (fun q _ h => hFc q h) hFc (fun ad' H1 locs1 h1 h2 h3 h4 h5 => ?_)
  have h1' : ∀ k : Nat, k < Λ.1 ∨ Λ'.1 ≤ k → ad' k = ad k := h1
  have h4' : Λ.1 ≤ Λ'.1 ∧ Λ.2.1 ≤ Λ'.2.1 ∧ Λ'.1 ≤ 1000 ∧ ja_wf Λ' := h4
  have hlv : ja_cl ad' lv = ja_cl ad lv := ja_cl_eq (fun z hz k hk => h1' k (by have := hrg.1 z hz k hk; omega))
  have hst2 : st.map (ja_cv ad') = st.map (ja_cv ad) := ja_st_eq (fun z hz k hk => h1' k (by have := hrg.2 z hz k hk; omega))
  have h6 := kk ok ad' H1 locs1 ls ⟨h2, h3.weaken (fun _ _ _ h => hFc _ h), h5, fun k hk => (h1' k (by omega)).trans (i4 k (by omega)), by omega, by omega, by omega, by omega, h4'.2.2.1, h4'.2.2.2⟩ (by rw [hlv]; exact hl)
  unfold ja_W at h6
  dsimp only at h6
  rw [hst2] at h6
  show W p l e R s m args below meth c H1 locs1 (Λ.1 - n0 + (Λ'.1 - Λ.1)) (Λ.2.1 - sl0 + (Λ'.2.1 - Λ.2.1)) (Qf zz) (F0 m (pc + 3) ls (st.map (ja_cv ad)))
  rw [show Λ.1 - n0 + (Λ'.1 - Λ.1) = Λ'.1 - n0 by omega, show Λ.2.1 - sl0 + (Λ'.2.1 - Λ.2.1) = Λ'.2.1 - sl0 by omega]
  exact h6
end JI
